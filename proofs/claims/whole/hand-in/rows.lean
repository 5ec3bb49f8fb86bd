section
theorem pk_us {f : Nat → Int32} {k : Nat} {x : Int32} : upd f k x k = x := if_pos rfl
theorem pk_un {f : Nat → Int32} {k j : Nat} {x : Int32} (h : j ≠ k) : upd f k x j = f j := if_neg h
theorem pk_sub {a b : Nat} (h : b ≤ a) : nI a - nI b = nI (a - b) := by
  obtain ⟨c, rfl⟩ : ∃ c, a = c + b := ⟨a - b, by omega⟩
  rw [← nI_add, Int32.add_sub_cancel, Nat.add_sub_cancel]
theorem pk_mul (a b : Nat) : nI a * nI b = nI (a * b) := (Int32.ofNat_mul a b).symm
theorem pk_div {a d : Nat} (ha : a < 2 ^ 31) (h0 : 0 < d) (hd : d < 2 ^ 31) : nI a / nI d = nI (a / d) := by
  apply Int32.toInt_inj.mp
  rw [lg_idiv_nonneg (by rw [nI_toInt ha]; omega) (by rw [nI_toInt hd]; omega), nI_toInt ha, nI_toInt hd, nI_toInt (Nat.lt_of_le_of_lt (Nat.div_le_self a d) ha)]
  first | rfl | exact (Int.natCast_ediv _ _).symm
theorem pk_rem {a d : Nat} (ha : a < 2 ^ 31) (h0 : 0 < d) (hd : d < 2 ^ 31) : nI a - nI a / nI d * nI d = nI (a % d) := by
  rw [pk_div ha h0 hd, pk_mul, pk_sub (Nat.div_mul_le_self a d)]
  exact congrArg nI (by have := Nat.div_add_mod' a d; omega)
theorem pk_ix (x : Int32) {n : Nat} (hn : n < 2 ^ 31) : x < 0 ∨ nI n ≤ x ∨ ∃ j : Nat, j < n ∧ x = nI j := by
  by_cases h : x < 0
  · exact Or.inl h
  · obtain ⟨j, hj, rfl⟩ := nI_of h
    by_cases h2 : j < n
    · exact Or.inr (Or.inr ⟨j, h2, rfl⟩)
    · exact Or.inr (Or.inl (nI_le (by omega) hj))
theorem pk_le {x y : Int32} {A B : Prop} (a b : Nat) (f : a ≤ b → A) (g : b < a → B) (hx : x = nI a := by rfl) (hy : y = nI b := by rfl) (ha : a < 2 ^ 31 := by omega) (hb : b < 2 ^ 31 := by omega) : (x ≤ y → A) ∧ (¬ x ≤ y → B) := by
  subst hx hy
  rw [nI_leI ha hb]
  exact ⟨f, fun z => g (by omega)⟩
theorem pk_lt {x y : Int32} {A B : Prop} (a b : Nat) (f : a < b → A) (g : b ≤ a → B) (hx : x = nI a := by rfl) (hy : y = nI b := by rfl) (ha : a < 2 ^ 31 := by omega) (hb : b < 2 ^ 31 := by omega) : (x < y → A) ∧ (¬ x < y → B) := by
  subst hx hy
  rw [nI_ltI ha hb]
  exact ⟨f, fun z => g (by omega)⟩
theorem pk_eq {x y : Int32} {A B : Prop} (a b : Nat) (f : a = b → A) (g : a ≠ b → B) (hx : x = nI a := by rfl) (hy : y = nI b := by rfl) (ha : a < 2 ^ 31 := by omega) (hb : b < 2 ^ 31 := by omega) : (x = y → A) ∧ (¬ x = y → B) := by
  subst hx hy
  rw [nI_eq ha hb]
  exact ⟨f, g⟩
theorem pk_in {x : Int32} (n N : Nat) (h : n < N) (hx : x = nI n := by rfl) (hN : N < 2 ^ 31 := by omega) : vp_in x N := by
  subst hx
  exact vp_in_nI h hN
theorem pk_cl {x : Int32} (n : Nat) (hx : x = nI n := by rfl) (h : n < 2 ^ 31 := by omega) : x.toNatClampNeg = n := by
  subst hx
  exact nI_clamp h
theorem pk_tn {n : Nat} (h : n < 2 ^ 32) : (nI n).toBitVec.toNat = n := Nat.mod_eq_of_lt h
theorem pk_and (x : Int32) {m : Int32} (k : Nat) (hm : m.toBitVec.toNat = 2 ^ k - 1) : x &&& m = nI (x.toBitVec.toNat % 2 ^ k) := by
  apply Int32.toBitVec_inj.mp
  apply BitVec.eq_of_toNat_eq
  rw [Int32.toBitVec_and, BitVec.toNat_and, hm, Nat.and_two_pow_sub_one_eq_mod]
  show _ = (BitVec.ofNat 32 _).toNat
  rw [BitVec.toNat_ofNat]
  exact (Nat.mod_eq_of_lt (Nat.lt_of_le_of_lt (Nat.mod_le _ _) x.toBitVec.isLt)).symm
theorem pk_andN {n : Nat} (h : n < 2 ^ 32) {m : Int32} (k : Nat) (hm : m.toBitVec.toNat = 2 ^ k - 1) : nI n &&& m = nI (n % 2 ^ k) := by
  rw [pk_and _ k hm, pk_tn h]
theorem pk_shr (a s : Int32) (k : Nat) (hs : (s.toBitVec.smod 32).toNat = k) : (a >>> s).toInt = a.toInt >>> k := by
  show (a.toBitVec.sshiftRight (s.toBitVec.smod 32).toNat).toInt = _
  rw [hs, BitVec.toInt_sshiftRight]
  rfl
theorem pk_shrN {n : Nat} (h : n < 2 ^ 31) (s : Int32) (k : Nat) (hs : (s.toBitVec.smod 32).toNat = k) : nI n >>> s = nI (n / 2 ^ k) := by
  apply Int32.toInt_inj.mp
  have h2 : n / 2 ^ k ≤ n := Nat.div_le_self _ _
  rw [pk_shr _ _ k hs, nI_toInt h, nI_toInt (by omega), Int.shiftRight_eq_div_pow]
  rfl
end
section
theorem cm_i5 (i j : Nat) : (5 : Int32) * nI i + nI j = nI (5 * i + j) := by
  have h : (5 : Int32) = nI 5 := by decide
  rw [h, pk_mul, nI_add]
theorem cm_i4 (i j : Nat) : (4 : Int32) * nI i + nI j = nI (4 * i + j) := by
  have h : (4 : Int32) = nI 4 := by decide
  rw [h, pk_mul, nI_add]
theorem cm_neg1 {n : Nat} (h : n < 2 ^ 31) : ¬ (-1 : Int32) = nI n := by
  intro e
  have h1 := congrArg Int32.toInt e
  rw [nI_toInt h, show (-1 : Int32).toInt = -1 from by decide] at h1
  omega
theorem cm_nar1 : ¬ vp_nar .boolean 1 = 0 := by decide
theorem cm_nar0 : vp_nar .boolean 0 = 0 := by decide
/-- how many of the slots i .. i + d - 1 show the sheet x -/
def cm_c (st : Nat → Int32) (x : Int32) : Nat → Nat → Nat
  | 0, _ => 0
  | d + 1, i => if st i = x then cm_c st x d (i + 1) + 1 else cm_c st x d (i + 1)
theorem cm_c_le (st : Nat → Int32) (x : Int32) : ∀ d i, cm_c st x d i ≤ d := by
  intro d
  induction d with
  | zero => intro i; exact Nat.le_refl 0
  | succ d ih =>
    intro i
    have h := ih (i + 1)
    rw [cm_c]
    split <;> omega
theorem cm_c_ex (st : Nat → Int32) (x : Int32) : ∀ d i, cm_c st x d i ≠ 0 → ∃ t, t < i + d ∧ st t = x := by
  intro d
  induction d with
  | zero => intro i h; exact absurd rfl h
  | succ d ih =>
    intro i h
    by_cases e : st i = x
    · exact ⟨i, by omega, e⟩
    · rw [cm_c, if_neg e] at h
      obtain ⟨t, ht, et⟩ := ih (i + 1) h
      exact ⟨t, by omega, et⟩
/-- the first of the sheets i .. i + d that no slot shows; i + d unasked -/
def cm_f (st : Nat → Int32) : Nat → Nat → Nat
  | 0, i => i
  | d + 1, i => if cm_c st (nI i) 20 0 = 0 then i else cm_f st d (i + 1)
theorem cm_f_le (st : Nat → Int32) : ∀ d i, cm_f st d i ≤ i + d := by
  intro d
  induction d with
  | zero => intro i; exact Nat.le_refl i
  | succ d ih =>
    intro i
    have h := ih (i + 1)
    rw [cm_f]
    split <;> omega
/-- pigeonhole: m slots show at most m sheets -/
theorem cm_pg : ∀ n, n < 2 ^ 31 → ∀ (m : Nat) (f : Nat → Int32), (∀ s, s < n → ∃ t, t < m ∧ f t = nI s) → n ≤ m := by
  intro n
  induction n with
  | zero => intro _ m f _; exact Nat.zero_le m
  | succ n ih =>
    intro hn m f h
    obtain ⟨t0, ht0, e0⟩ := h n (by omega)
    have h2 : n ≤ m - 1 := by
      refine ih (by omega) (m - 1) (fun t => if t < t0 then f t else f (t + 1)) ?_
      intro s hs
      obtain ⟨t, ht, e⟩ := h s (by omega)
      have hne : t ≠ t0 := by
        intro z
        rw [z, e0, nI_eq (by omega) (by omega)] at e
        omega
      by_cases hlt : t < t0
      · refine ⟨t, by omega, ?_⟩
        show (if t < t0 then f t else f (t + 1)) = nI s
        rw [if_pos hlt]; exact e
      · refine ⟨t - 1, by omega, ?_⟩
        show (if t - 1 < t0 then f (t - 1) else f (t - 1 + 1)) = nI s
        rw [if_neg (by omega), show t - 1 + 1 = t from by omega]; exact e
    omega
/-- where one of the twenty slots shows nothing, one of the twenty sheets is not shown -/
theorem cm_free (st : Nat → Int32) (t0 : Nat) (h0 : t0 < 20) (e0 : st t0 = -1) : ∃ s, 0 ≤ s ∧ s < 20 ∧ cm_c st (nI s) 20 0 = 0 := by
  by_cases h : ∃ s, 0 ≤ s ∧ s < 20 ∧ cm_c st (nI s) 20 0 = 0
  · exact h
  · exfalso
    have h2 : ∀ s, s < 20 → ∃ t, t < 19 ∧ (fun t => if t < t0 then st t else st (t + 1)) t = nI s := by
      intro s hs
      have h3 : cm_c st (nI s) 20 0 ≠ 0 := fun z => h ⟨s, Nat.zero_le s, hs, z⟩
      obtain ⟨t, ht, e⟩ := cm_c_ex st (nI s) 20 0 h3
      have hne : t ≠ t0 := by
        intro z
        rw [z, e0] at e
        exact cm_neg1 (by omega) e
      by_cases hlt : t < t0
      · refine ⟨t, by omega, ?_⟩
        show (if t < t0 then st t else st (t + 1)) = nI s
        rw [if_pos hlt]; exact e
      · refine ⟨t - 1, by omega, ?_⟩
        show (if t - 1 < t0 then st (t - 1) else st (t - 1 + 1)) = nI s
        rw [if_neg (by omega), show t - 1 + 1 = t from by omega]; exact e
    have h4 := cm_pg 20 (by decide) 19 _ h2
    omega
/-- the cells of sheet s, from its cell i on, d of them, set to zero -/
def cm_clr (s : Nat) : Nat → Nat → (Nat → Int32) → (Nat → Int32)
  | 0, _, va => va
  | d + 1, i, va => cm_clr s d (i + 1) (upd va (4 * s + i) 0)
/-- the cells of sheet o copied to sheet s, from cell i on, d of them -/
def cm_cpy (o s : Nat) : Nat → Nat → (Nat → Int32) → (Nat → Int32)
  | 0, _, va => va
  | d + 1, i, va => cm_cpy o s d (i + 1) (upd va (4 * s + i) (va (4 * o + i)))
/-- the sum of the cells of sheet s, from cell i on, d of them, onto a -/
def cm_sum (va : Nat → Int32) (s : Nat) : Nat → Nat → Int64 → Int64
  | 0, _, a => a
  | d + 1, i, a => cm_sum va s d (i + 1) (a + (va (4 * s + i)).toInt64)
theorem cm_sum_add (va : Nat → Int32) (s : Nat) : ∀ d i (x a : Int64), x + cm_sum va s d i a = cm_sum va s d i (x + a) := by
  intro d
  induction d with
  | zero => intro i x a; rfl
  | succ d ih =>
    intro i x a
    rw [cm_sum, cm_sum, ih, Int64.add_assoc]
/-- a slot on both sides: unmapped, or showing the same sheet, as freely -/
def cm_S (mp sh so st op : Nat → Int32) (t : Nat) : Prop :=
  (mp t = 0 ∧ st t = -1) ∨ (¬ mp t = 0 ∧ sh t = op t ∧ ∃ s, s < 20 ∧ so t = nI s ∧ st t = nI s)
def cm_T (mp sh so st op : Nat → Int32) : Prop := ∀ t, t < 20 → cm_S mp sh so st op t
/-- a dead process has no mapped page -/
def cm_D (al mp : Nat → Int32) : Prop := ∀ i j, i < 4 → j < 5 → al i = 0 → mp (5 * i + j) = 0
def i_Rel (_ : Nat) (u : SX) (v : SY) : Prop :=
  ∃ (fr : Int32) (al mp sh so va st op : Nat → Int32), u = (fr, al, mp, sh, so, va) ∧ v = (al, st, op, va) ∧ cm_T mp sh so st op ∧ cm_D al mp
theorem i_up {k : Nat} {u : SX} {v : SY} (h : i_Rel k u v) : i_Rel (k + 4) u v := h
/-- X counts what Y counts -/
theorem cm_iff {mp sh so st op : Nat → Int32} (T : cm_T mp sh so st op) {s t : Nat} (hs : s < 2 ^ 31) (ht : t < 20) : (¬ mp t = 0 ∧ so t = nI s) ↔ st t = nI s := by
  rcases T t ht with ⟨a, b⟩ | ⟨a, _, q, hq, b, c⟩
  · rw [b]
    exact ⟨fun z => absurd a z.1, fun z => absurd z (cm_neg1 hs)⟩
  · rw [b, c]
    exact ⟨fun z => z.2, fun z => ⟨a, z⟩⟩
theorem cm_put {mp sh so st op : Nat → Int32} (T : cm_T mp sh so st op) {t s : Nat} (hs : s < 20) (b : Int32) :
    cm_T (upd mp t (vp_nar .boolean 1)) (upd sh t b) (upd so t (nI s)) (upd st t (nI s)) (upd op t b) := by
  intro t' ht'
  by_cases e : t' = t
  · subst e
    refine Or.inr ⟨?_, ?_, s, hs, ?_, ?_⟩
    · rw [pk_us]; exact cm_nar1
    · rw [pk_us, pk_us]
    · rw [pk_us]
    · rw [pk_us]
  · unfold cm_S
    rw [pk_un e, pk_un e, pk_un e, pk_un e, pk_un e]
    exact T t' ht'
theorem cm_drop {mp sh so st op : Nat → Int32} (T : cm_T mp sh so st op) {t : Nat} :
    cm_T (upd mp t (vp_nar .boolean 0)) sh so (upd st t (-1)) op := by
  intro t' ht'
  by_cases e : t' = t
  · subst e
    refine Or.inl ⟨?_, ?_⟩
    · rw [pk_us]; exact cm_nar0
    · rw [pk_us]
  · unfold cm_S
    rw [pk_un e, pk_un e]
    exact T t' ht'
theorem cm_drop0 {mp sh so st op : Nat → Int32} (T : cm_T mp sh so st op) {t : Nat} (h : mp t = 0) :
    cm_T mp sh so (upd st t (-1)) op := by
  intro t' ht'
  by_cases e : t' = t
  · subst e
    refine Or.inl ⟨h, ?_⟩
    rw [pk_us]
  · unfold cm_S
    rw [pk_un e]
    exact T t' ht'
theorem cm_un {mp sh so st op : Nat → Int32} (T : cm_T mp sh so st op) {t : Nat} (ht : t < 20) (h : mp t = 0) : st t = -1 := by
  rcases T t ht with ⟨_, b⟩ | ⟨a, _⟩
  · exact b
  · exact absurd h a
theorem cm_ma {mp sh so st op : Nat → Int32} (T : cm_T mp sh so st op) {t : Nat} (ht : t < 20) (h : ¬ mp t = 0) : sh t = op t ∧ ∃ s, s < 20 ∧ so t = nI s ∧ st t = nI s := by
  rcases T t ht with ⟨a, _⟩ | ⟨_, b⟩
  · exact absurd a h
  · exact b
theorem cm_D_put {al mp : Nat → Int32} (D : cm_D al mp) {i j : Nat} (hj : j < 5) (ha : ¬ al i = 0) (b : Int32) : cm_D al (upd mp (5 * i + j) b) := by
  intro i' j' hi' hj' h
  by_cases e : 5 * i' + j' = 5 * i + j
  · have : i' = i := by omega
    subst this
    exact absurd h ha
  · rw [pk_un e]; exact D i' j' hi' hj' h
theorem cm_D_drop {al mp : Nat → Int32} (D : cm_D al mp) {t : Nat} : cm_D al (upd mp t (vp_nar .boolean 0)) := by
  intro i' j' hi' hj' h
  by_cases e : 5 * i' + j' = t
  · rw [e, pk_us]; exact cm_nar0
  · rw [pk_un e]; exact D i' j' hi' hj' h
end
section
theorem cm_ltle {a b x : Int32} (hab : a < b) (h : b ≤ x) : a < x := by
  rw [Int32.lt_iff_toInt_lt] at *
  rw [Int32.le_iff_toInt_le] at h
  omega
theorem cm_xp0 {post : Int32 → Prop} {x : Int32} (h : x < 0 ∨ nI 4 ≤ x) (hp : post 0) : wpX_isProcess post x := by
  by_cases h0 : x < 0
  · exact br_t h0 hp
  · exact br_f h0 (br_t (h.resolve_left h0) hp)
theorem cm_xp1 {post : Int32 → Prop} {i : Nat} (h : i < 4) (hp : post 1) : wpX_isProcess post (nI i) :=
  br_f (nI_pos (by omega)) (br_f (nI_ge (b := 4) h (by decide)) hp)
theorem cm_xg0 {post : Int32 → Prop} {x : Int32} (h : x < 0 ∨ nI 5 ≤ x) (hp : post 0) : wpX_isPage post x := by
  by_cases h0 : x < 0
  · exact br_t h0 hp
  · exact br_f h0 (br_t (h.resolve_left h0) hp)
theorem cm_xg1 {post : Int32 → Prop} {i : Nat} (h : i < 5) (hp : post 1) : wpX_isPage post (nI i) :=
  br_f (nI_pos (by omega)) (br_f (nI_ge (b := 5) h (by decide)) hp)
theorem cm_10 : ¬ (1 : Int32) = 0 := by decide
section
variable {fr : Int32} {al mp sh so va st op : Nat → Int32} {post : Int32 → Prop}
theorem cm_xl0 {p q : Int32} (h : p < 0 ∨ nI 4 ≤ p) (hp : post (-1)) : wpX_liveSlot post (fr, al, mp, sh, so, va) p q := by
  unfold wpX_liveSlot
  dsimp only
  refine cm_xp0 h ?_
  exact br_t rfl hp
theorem cm_xl1 {i : Nat} {q : Int32} (hi : i < 4) (h : q < 0 ∨ nI 5 ≤ q) (hp : post (-1)) : wpX_liveSlot post (fr, al, mp, sh, so, va) (nI i) q := by
  unfold wpX_liveSlot
  dsimp only
  refine cm_xp1 hi ?_
  refine br_f cm_10 ?_
  refine cm_xg0 h ?_
  exact br_t rfl hp
theorem cm_xl2 {i j : Nat} (hi : i < 4) (hj : j < 5) (ha : al i = 0) (hp : post (-2)) : wpX_liveSlot post (fr, al, mp, sh, so, va) (nI i) (nI j) := by
  unfold wpX_liveSlot
  dsimp only
  refine cm_xp1 hi ?_
  refine br_f cm_10 ?_
  refine cm_xg1 hj ?_
  refine br_f cm_10 ⟨vp_in_nI hi (by decide), br_t ?_ hp⟩
  rw [nI_clamp (by omega)]; exact ha
theorem cm_xl3 {i j : Nat} (hi : i < 4) (hj : j < 5) (ha : ¬ al i = 0) (hp : post (nI (5 * i + j))) : wpX_liveSlot post (fr, al, mp, sh, so, va) (nI i) (nI j) := by
  unfold wpX_liveSlot
  dsimp only
  refine cm_xp1 hi ?_
  refine br_f cm_10 ?_
  refine cm_xg1 hj ?_
  refine br_f cm_10 ⟨vp_in_nI hi (by decide), br_f ?_ ?_⟩
  · rw [nI_clamp (by omega)]; exact ha
  · rw [cm_i5]; exact hp
theorem cm_xla {p q : Int32} (hp : ∀ r, post r) : wpX_liveSlot post (fr, al, mp, sh, so, va) p q := by
  rcases pk_ix p (n := 4) (by decide) with h | h | ⟨i, hi, rfl⟩
  · exact cm_xl0 (Or.inl h) (hp _)
  · exact cm_xl0 (Or.inr h) (hp _)
  · rcases pk_ix q (n := 5) (by decide) with h | h | ⟨j, hj, rfl⟩
    · exact cm_xl1 hi (Or.inl h) (hp _)
    · exact cm_xl1 hi (Or.inr h) (hp _)
    · by_cases ha : al i = 0
      · exact cm_xl2 hi hj ha (hp _)
      · exact cm_xl3 hi hj ha (hp _)
theorem cm_xm0 {p q : Int32} (h : p < 0 ∨ nI 4 ≤ p) (hp : post (-1)) : wpX_mappedSlot post (fr, al, mp, sh, so, va) p q := by
  unfold wpX_mappedSlot
  dsimp only
  refine cm_xl0 h ?_
  exact br_t (by decide) hp
theorem cm_xm1 {i : Nat} {q : Int32} (hi : i < 4) (h : q < 0 ∨ nI 5 ≤ q) (hp : post (-1)) : wpX_mappedSlot post (fr, al, mp, sh, so, va) (nI i) q := by
  unfold wpX_mappedSlot
  dsimp only
  refine cm_xl1 hi h ?_
  exact br_t (by decide) hp
theorem cm_xm2 {i j : Nat} (hi : i < 4) (hj : j < 5) (ha : al i = 0) (hp : post (-2)) : wpX_mappedSlot post (fr, al, mp, sh, so, va) (nI i) (nI j) := by
  unfold wpX_mappedSlot
  dsimp only
  refine cm_xl2 hi hj ha ?_
  exact br_t (by decide) hp
theorem cm_xm3 {i j : Nat} (hi : i < 4) (hj : j < 5) (ha : ¬ al i = 0) (hm : mp (5 * i + j) = 0) (hp : post (-3)) : wpX_mappedSlot post (fr, al, mp, sh, so, va) (nI i) (nI j) := by
  unfold wpX_mappedSlot
  dsimp only
  refine cm_xl3 hi hj ha ?_
  refine br_f (nI_pos (by omega)) ⟨vp_in_nI (by omega) (by decide), br_t ?_ hp⟩
  rw [nI_clamp (by omega)]; exact hm
theorem cm_xm4 {i j : Nat} (hi : i < 4) (hj : j < 5) (ha : ¬ al i = 0) (hm : ¬ mp (5 * i + j) = 0) (hp : post (nI (5 * i + j))) : wpX_mappedSlot post (fr, al, mp, sh, so, va) (nI i) (nI j) := by
  unfold wpX_mappedSlot
  dsimp only
  refine cm_xl3 hi hj ha ?_
  refine br_f (nI_pos (by omega)) ⟨vp_in_nI (by omega) (by decide), br_f ?_ hp⟩
  rw [nI_clamp (by omega)]; exact hm
theorem cm_xs_l (x : Int32) (H : ∀ t, t < 20 → ((¬ mp t = 0 ∧ so t = x) ↔ st t = x)) : ∀ d i c, i + d = 20 → post (nI (c + cm_c st x d i)) → wX_slotsShowing_4 post x fr al mp sh so va (d + 1) (nI c) (nI i) := by
  intro d
  induction d with
  | zero =>
    intro i c hi hp
    exact br_t (nI_le (a := 20) (by omega) (by omega)) hp
  | succ d ih =>
    intro i c hi hp
    have hc : (nI i).toNatClampNeg = i := nI_clamp (by omega)
    have hin : vp_in (nI i) 20 := vp_in_nI (by omega) (by decide)
    have hge : ¬ (20 : Int32) ≤ nI i := nI_ge (b := 20) (by omega) (by decide)
    have hH := H i (by omega)
    rw [cm_c] at hp
    by_cases m : mp i = 0
    · have hn : ¬ st i = x := fun z => (hH.mpr z).1 m
      rw [if_neg hn] at hp
      exact br_f hge ⟨hin, br_t (by rw [hc]; exact m) (nm_r (nI_1 i) (ih (i + 1) c (by omega) hp))⟩
    · by_cases e : so i = x
      · rw [if_pos (hH.mp ⟨m, e⟩), show c + (cm_c st x d (i + 1) + 1) = c + 1 + cm_c st x d (i + 1) from by omega] at hp
        exact br_f hge ⟨hin, br_f (by rw [hc]; exact m) ⟨hin, br_t (by rw [hc]; exact e) (nm_r (nI_1 c) (nm_r (nI_1 i) (ih (i + 1) (c + 1) (by omega) hp)))⟩⟩
      · have hn : ¬ st i = x := fun z => e (hH.mpr z).2
        rw [if_neg hn] at hp
        exact br_f hge ⟨hin, br_f (by rw [hc]; exact m) ⟨hin, br_f (by rw [hc]; exact e) (nm_r (nI_1 i) (ih (i + 1) c (by omega) hp))⟩⟩
theorem cm_xs (T : cm_T mp sh so st op) {s : Nat} (hs : s < 2 ^ 31) (hp : post (nI (cm_c st (nI s) 20 0))) : wpX_slotsShowing post (fr, al, mp, sh, so, va) (nI s) :=
  ⟨20 + 1, cm_xs_l (nI s) (fun _ ht => cm_iff T hs ht) 20 0 0 rfl (by rw [Nat.zero_add]; exact hp)⟩
theorem cm_xu_l (T : cm_T mp sh so st op) : ∀ d i, i + d = 19 → post (nI (cm_f st d i)) → wX_unshownSheet_2 post fr al mp sh so va (d + 1) (nI i) := by
  intro d
  induction d with
  | zero =>
    intro i hi hp
    exact br_t (nI_le (a := 19) (by omega) (by omega)) hp
  | succ d ih =>
    intro i hi hp
    have hge : ¬ (19 : Int32) ≤ nI i := nI_ge (b := 19) (by omega) (by decide)
    have hle := cm_c_le st (nI i) 20 0
    rw [cm_f] at hp
    refine br_f hge (cm_xs T (by omega) ?_)
    refine pk_le (cm_c st (nI i) 20 0) 0 (fun z => ?_) (fun z => ?_)
    · rw [if_pos (by omega)] at hp
      exact hp
    · rw [if_neg (by omega)] at hp
      exact nm_r (nI_1 i) (ih (i + 1) (by omega) hp)
theorem cm_xu (T : cm_T mp sh so st op) (hp : post (nI (cm_f st 19 0))) : wpX_unshownSheet post (fr, al, mp, sh, so, va) :=
  ⟨19 + 1, cm_xu_l T 19 0 rfl hp⟩
theorem cm_xc_l {post : SX → Prop} {s : Nat} (hs : s < 20) : ∀ d i (va : Nat → Int32), i + d = 4 → post (fr, al, mp, sh, so, cm_clr s d i va) → wX_clearSheet_2 post (nI s) fr (d + 1) (nI i) al mp sh so va := by
  intro d
  induction d with
  | zero =>
    intro i va hi hp
    exact br_t (nI_le (a := 4) (by omega) (by omega)) hp
  | succ d ih =>
    intro i va hi hp
    have hge : ¬ (4 : Int32) ≤ nI i := nI_ge (b := 4) (by omega) (by decide)
    exact br_f hge ⟨pk_in (4 * s + i) 80 (by omega) (cm_i4 s i), nm_r (congrArg (fun z => upd va z 0) (pk_cl (4 * s + i) (cm_i4 s i))) (nm_r (nI_1 i) (ih (i + 1) _ (by omega) hp))⟩
theorem cm_xc {post : SX → Prop} {s : Nat} (hs : s < 20) (hp : post (fr, al, mp, sh, so, cm_clr s 4 0 va)) : wpX_clearSheet post (fr, al, mp, sh, so, va) (nI s) :=
  ⟨4 + 1, cm_xc_l hs 4 0 va rfl hp⟩
theorem cm_xpl {post : SX → Prop} {t : Nat} (ht : t < 20) {x b : Int32} (hp : post (fr, al, upd mp t (vp_nar .boolean 1), upd sh t (vp_nar .boolean b), upd so t x, va)) : wpX_placeSheet post (fr, al, mp, sh, so, va) (nI t) x b := by
  have hc : (nI t).toNatClampNeg = t := nI_clamp (by omega)
  have hin : vp_in (nI t) 20 := vp_in_nI ht (by decide)
  exact ⟨hin, nm_r (congrArg (fun z => upd mp z (vp_nar .boolean 1)) hc) ⟨hin, nm_r (congrArg (fun z => upd sh z (vp_nar .boolean b)) hc) ⟨hin, nm_r (congrArg (fun z => upd so z x) hc) hp⟩⟩⟩
theorem cm_xy_l {post : Int32 → SX → Prop} {o s : Nat} (ho : o < 20) (hs : s < 20) : ∀ d i (va : Nat → Int32), i + d = 4 → post (nI s) (fr, al, mp, sh, so, cm_cpy o s d i va) → wX_copySheet_7 post (nI o) (nI s) fr (d + 1) (nI i) al mp sh so va := by
  intro d
  induction d with
  | zero =>
    intro i va hi hp
    exact br_t (nI_le (a := 4) (by omega) (by omega)) hp
  | succ d ih =>
    intro i va hi hp
    have hge : ¬ (4 : Int32) ≤ nI i := nI_ge (b := 4) (by omega) (by decide)
    have c1 := pk_cl (4 * s + i) (cm_i4 s i)
    have c2 := pk_cl (4 * o + i) (cm_i4 o i)
    exact br_f hge ⟨pk_in (4 * o + i) 80 (by omega) (cm_i4 o i), pk_in (4 * s + i) 80 (by omega) (cm_i4 s i), nm_r (by rw [c1, c2]) (nm_r (nI_1 i) (ih (i + 1) _ (by omega) hp))⟩
theorem cm_xy {post : Int32 → SX → Prop} (T : cm_T mp sh so st op) {o : Nat} (ho : o < 20) (hp : post (nI (cm_f st 19 0)) (fr, al, mp, sh, so, cm_cpy o (cm_f st 19 0) 4 0 va)) : wpX_copySheet post (fr, al, mp, sh, so, va) (nI o) := by
  have hf := cm_f_le st 19 0
  unfold wpX_copySheet
  dsimp only
  refine cm_xu T ?_
  exact ⟨4 + 1, cm_xy_l ho (by omega) 4 0 va rfl hp⟩
theorem cm_xsum_l {post : Int64 → Prop} {s : Nat} (hs : s < 20) : ∀ d i (a : Int64), i + d = 4 → post (cm_sum va s d i a) → wX_sheetSum_5 post (nI s) fr al mp sh so va (d + 1) a (nI i) := by
  intro d
  induction d with
  | zero =>
    intro i a hi hp
    exact br_t (nI_le (a := 4) (by omega) (by omega)) hp
  | succ d ih =>
    intro i a hi hp
    have hge : ¬ (4 : Int32) ≤ nI i := nI_ge (b := 4) (by omega) (by decide)
    have c1 := pk_cl (4 * s + i) (cm_i4 s i)
    exact br_f hge ⟨pk_in (4 * s + i) 80 (by omega) (cm_i4 s i), nm_r (by rw [c1]) (nm_r (nI_1 i) (ih (i + 1) _ (by omega) hp))⟩
theorem cm_xsum {post : Int64 → Prop} {s : Nat} (hs : s < 20) (hp : post (cm_sum va s 4 0 0)) : wpX_sheetSum post (fr, al, mp, sh, so, va) (nI s) :=
  ⟨4 + 1, cm_xsum_l hs 4 0 0 rfl hp⟩
end
end
section
section
variable {al st op ce : Nat → Int32} {post : Int32 → Prop}
theorem cm_yp0 {u : SY} {x : Int32} (h : x < 0 ∨ nI 4 ≤ x) (hp : post 0) : wpY_isProcess post u x := by
  obtain ⟨al, st, op, ce⟩ := u
  by_cases h0 : x < 0
  · exact br_t h0 hp
  · exact br_f h0 (br_t (cm_ltle (b := nI 4) (by decide) (h.resolve_left h0)) hp)
theorem cm_yp1 {u : SY} {i : Nat} (h : i < 4) (hp : post 1) : wpY_isProcess post u (nI i) := by
  obtain ⟨al, st, op, ce⟩ := u
  exact br_f (nI_pos (by omega)) (br_f (nI_nlt (a := 3) (by omega) (by decide)) hp)
theorem cm_yg0 {u : SY} {x : Int32} (h : x < 0 ∨ nI 5 ≤ x) (hp : post 0) : wpY_isPage post u x := by
  obtain ⟨al, st, op, ce⟩ := u
  by_cases h0 : x < 0
  · exact br_t h0 hp
  · exact br_f h0 (br_t (cm_ltle (b := nI 5) (by decide) (h.resolve_left h0)) hp)
theorem cm_yg1 {u : SY} {i : Nat} (h : i < 5) (hp : post 1) : wpY_isPage post u (nI i) := by
  obtain ⟨al, st, op, ce⟩ := u
  exact br_f (nI_pos (by omega)) (br_f (nI_nlt (a := 4) (by omega) (by decide)) hp)
theorem cm_yu_l (x : Int32) : ∀ d i, i + d = 20 → (cm_c st x d i = 0 → post 0) → (cm_c st x d i ≠ 0 → post 1) → wY_used_2 post x al st op ce (d + 1) (nI i) := by
  intro d
  induction d with
  | zero =>
    intro i hi h0 h1
    exact br_t (nI_le (a := 20) (by omega) (by omega)) (h0 rfl)
  | succ d ih =>
    intro i hi h0 h1
    have hc : (nI i).toNatClampNeg = i := nI_clamp (by omega)
    have hin : vp_in (nI i) 20 := vp_in_nI (by omega) (by decide)
    have hge : ¬ (20 : Int32) ≤ nI i := nI_ge (b := 20) (by omega) (by decide)
    by_cases e : st i = x
    · have ec : cm_c st x (d + 1) i = cm_c st x d (i + 1) + 1 := by rw [cm_c, if_pos e]
      exact br_f hge ⟨hin, br_t (by rw [hc]; exact e) (h1 (by omega))⟩
    · have ec : cm_c st x (d + 1) i = cm_c st x d (i + 1) := by rw [cm_c, if_neg e]
      rw [ec] at h0 h1
      exact br_f hge ⟨hin, br_f (by rw [hc]; exact e) (nm_r (nI_1 i) (ih (i + 1) (by omega) h0 h1))⟩
theorem cm_yu {x : Int32} (h0 : cm_c st x 20 0 = 0 → post 0) (h1 : cm_c st x 20 0 ≠ 0 → post 1) : wpY_used post (al, st, op, ce) x :=
  ⟨20 + 1, cm_yu_l x 20 0 rfl h0 h1⟩
theorem cm_yn_l : ∀ d i, i + d = 19 → (∃ s, i ≤ s ∧ s < 20 ∧ cm_c st (nI s) 20 0 = 0) → post (nI (cm_f st d i)) → wY_newSheet_2 post al st op ce (d + 2) (nI i) := by
  intro d
  induction d with
  | zero =>
    intro i hi hs hp
    have hge : ¬ (20 : Int32) ≤ nI i := nI_ge (b := 20) (by omega) (by decide)
    obtain ⟨s, h1, h2, h3⟩ := hs
    have e : s = i := by omega
    subst e
    exact br_f hge (cm_yu (fun _ => br_t rfl hp) (fun z => absurd h3 z))
  | succ d ih =>
    intro i hi hs hp
    have hge : ¬ (20 : Int32) ≤ nI i := nI_ge (b := 20) (by omega) (by decide)
    rw [cm_f] at hp
    refine br_f hge (cm_yu (fun z => ?_) (fun z => ?_))
    · rw [if_pos z] at hp
      exact br_t rfl hp
    · rw [if_neg z] at hp
      obtain ⟨s, h1, h2, h3⟩ := hs
      have hne : s ≠ i := fun y => z (y ▸ h3)
      exact br_f cm_10 (nm_r (nI_1 i) (ih (i + 1) (by omega) ⟨s, by omega, h2, h3⟩ hp))
theorem cm_yn {t : Nat} (ht : t < 20) (e : st t = -1) (hp : post (nI (cm_f st 19 0))) : wpY_newSheet post (al, st, op, ce) :=
  ⟨19 + 2, cm_yn_l 19 0 rfl (cm_free st t ht e) hp⟩
theorem cm_ym_l {post : Int32 → SY → Prop} {i j s : Nat} {b : Int32} (hi : i < 4) (hj : j < 5) (hs : s < 20) : ∀ d c (ce : Nat → Int32), c + d = 4 → post (nI j) (al, upd st (5 * i + j) (nI s), upd op (5 * i + j) (vp_nar .boolean b), cm_clr s d c ce) → wY_map_55 post (nI i) (nI j) b (nI s) (d + 1) (nI c) al st op ce := by
  intro d
  induction d with
  | zero =>
    intro c ce hc hp
    have hin := pk_in (5 * i + j) 20 (by omega) (cm_i5 i j)
    have c1 := pk_cl (5 * i + j) (cm_i5 i j)
    exact br_t (nI_le (a := 4) (by omega) (by omega)) ⟨hin, nm_r (by rw [c1]) ⟨hin, nm_r (by rw [c1]) hp⟩⟩
  | succ d ih =>
    intro c ce hc hp
    have hge : ¬ (4 : Int32) ≤ nI c := nI_ge (b := 4) (by omega) (by decide)
    have c1 := pk_cl (4 * s + c) (cm_i4 s c)
    exact br_f hge ⟨pk_in (4 * s + c) 80 (by omega) (cm_i4 s c), nm_r (by rw [c1]) (nm_r (nI_1 c) (ih (c + 1) _ (by omega) hp))⟩
theorem cm_yc_e {post : SY → Prop} {a b : Nat} {x : Int32} (ha : a < 20) (hb : b < 20) (hp : post (al, upd st b x, upd op b (vp_nar .boolean (op a)), ce)) : wY_copyPage_63 post (nI a) (nI b) x al st op ce := by
  have ca : (nI a).toNatClampNeg = a := nI_clamp (by omega)
  have cb : (nI b).toNatClampNeg = b := nI_clamp (by omega)
  have ia : vp_in (nI a) 20 := vp_in_nI ha (by decide)
  have ib : vp_in (nI b) 20 := vp_in_nI hb (by decide)
  exact ⟨ib, nm_r (by rw [cb]) ⟨ia, ib, nm_r (by rw [ca, cb]) hp⟩⟩
theorem cm_yc_l {post : SY → Prop} {a b o s : Nat} (ha : a < 20) (hb : b < 20) (ho : o < 20) (hs : s < 20) (eo : st a = nI o) : ∀ d c (ce : Nat → Int32), c + d = 4 → post (al, upd st b (nI s), upd op b (vp_nar .boolean (op a)), cm_cpy o s d c ce) → wY_copyPage_24 post (nI a) (nI b) (nI s) (d + 1) (nI c) al st op ce := by
  intro d
  induction d with
  | zero =>
    intro c ce hc hp
    exact br_t (nI_le (a := 4) (by omega) (by omega)) (cm_yc_e ha hb hp)
  | succ d ih =>
    intro c ce hc hp
    have hge : ¬ (4 : Int32) ≤ nI c := nI_ge (b := 4) (by omega) (by decide)
    have ca : (nI a).toNatClampNeg = a := nI_clamp (by omega)
    have ia : vp_in (nI a) 20 := vp_in_nI ha (by decide)
    have e1 : (4 : Int32) * st (nI a).toNatClampNeg + nI c = nI (4 * o + c) := by rw [ca, eo, cm_i4]
    have c1 := pk_cl (4 * s + c) (cm_i4 s c)
    have c2 := pk_cl (4 * o + c) e1
    exact br_f hge ⟨ia, pk_in (4 * o + c) 80 (by omega) e1, pk_in (4 * s + c) 80 (by omega) (cm_i4 s c), nm_r (by rw [c1, c2]) (nm_r (nI_1 c) (ih (c + 1) _ (by omega) hp))⟩
theorem cm_ysh_l {i j : Nat} {x : Int32} (hi : i < 4) (hj : j < 5) (ex : st (5 * i + j) = x) : ∀ d t c, t + d = 20 → post (nI (c + cm_c st x d t)) → wY_showing_51 post (nI i) (nI j) al st op ce (d + 1) (nI c) (nI t) := by
  intro d
  induction d with
  | zero =>
    intro t c ht hp
    exact br_t (nI_le (a := 20) (by omega) (by omega)) hp
  | succ d ih =>
    intro t c ht hp
    have hc : (nI t).toNatClampNeg = t := nI_clamp (by omega)
    have hin : vp_in (nI t) 20 := vp_in_nI (by omega) (by decide)
    have hge : ¬ (20 : Int32) ≤ nI t := nI_ge (b := 20) (by omega) (by decide)
    have hin2 := pk_in (5 * i + j) 20 (by omega) (cm_i5 i j)
    have c1 := pk_cl (5 * i + j) (cm_i5 i j)
    rw [cm_c] at hp
    by_cases e : st t = x
    · rw [if_pos e, show c + (cm_c st x d (t + 1) + 1) = c + 1 + cm_c st x d (t + 1) from by omega] at hp
      exact br_f hge ⟨hin, hin2, br_t (by rw [hc, c1, ex]; exact e) (nm_r (nI_1 c) (nm_r (nI_1 t) (ih (t + 1) (c + 1) (by omega) hp)))⟩
    · rw [if_neg e] at hp
      exact br_f hge ⟨hin, hin2, br_f (by rw [hc, c1, ex]; exact e) (nm_r (nI_1 t) (ih (t + 1) c (by omega) hp))⟩
end
end
section
theorem cm_lt0 {n : Nat} (h : n < 2 ^ 31) : ¬ nI n < 0 := nI_pos h
theorem cm_ge0 {n : Nat} (h : n < 2 ^ 31) : (0 : Int32) ≤ nI n := nI_pos' h
theorem cm_m1 : (-1 : Int32) < 0 := by decide
theorem cm_m1' : ¬ (0 : Int32) ≤ -1 := by decide
theorem cm_m2' : ¬ (0 : Int32) ≤ -2 := by decide
theorem cm_m3' : ¬ (0 : Int32) ≤ -3 := by decide
/-! the constructors -/
theorem cm_y0_l {post : SY → Prop} {al op ce : Nat → Int32} (hp : ∀ st : Nat → Int32, (∀ t, t < 20 → st t = -1) → post (al, st, op, ce)) : ∀ d i (st : Nat → Int32), i + d = 20 → (∀ t, t < i → st t = -1) → wY_init_44 post (d + 1) (nI i) al st op ce := by
  intro d
  induction d with
  | zero =>
    intro i st hi h
    exact br_t (nI_le (a := 20) (by omega) (by omega)) (hp st (fun t ht => h t (by omega)))
  | succ d ih =>
    intro i st hi h
    have hc : (nI i).toNatClampNeg = i := nI_clamp (by omega)
    have hin : vp_in (nI i) 20 := vp_in_nI (by omega) (by decide)
    have hge : ¬ (20 : Int32) ≤ nI i := nI_ge (b := 20) (by omega) (by decide)
    refine br_f hge ⟨hin, nm_r (by rw [hc]) (nm_r (nI_1 i) (ih (i + 1) (upd st i (-1)) (by omega) ?_))⟩
    intro t ht
    by_cases e : t = i
    · rw [e, pk_us]
    · rw [pk_un e]; exact h t (by omega)
theorem cm_vc0 (fr k0 : Int32) : wpY_init (fun v => i_Rel 1 (fr, upd (fun _ => 0) 0 (vp_nar .boolean 1), (fun _ => 0), (fun _ => 0), (fun _ => 0), (fun _ => 0)) v) k0 := by
  refine nm_e ⟨20 + 1, cm_y0_l ?_ 20 0 (fun _ => 0) rfl (fun t ht => absurd ht (Nat.not_lt_zero t))⟩
  intro st h
  exact ⟨_, _, _, _, _, _, _, _, rfl, rfl, fun t ht => Or.inl ⟨rfl, h t ht⟩, fun _ _ _ _ _ => rfl⟩
theorem i_vc0 (k0 : Int32) : wpX_init (fun u => wpY_init (fun v => i_Rel 1 u v) k0) k0 :=
  br_c (fun _ => br_c (fun _ => nm_e (cm_vc0 _ _)) (fun _ => nm_e (cm_vc0 _ _))) (fun _ => nm_e (cm_vc0 _ _))
/-! map -/
section
variable {fr : Int32} {al mp sh so va st op : Nat → Int32} {post : Int32 → SX → Prop} {qost : Int32 → SY → Prop}
theorem cm_map_x {i j : Nat} {b : Int32} (hi : i < 4) (hj : j < 5) (ha : ¬ al i = 0) (hm : mp (5 * i + j) = 0) (T : cm_T mp sh so st op)
    (hp : post (nI j) (fr, al, upd mp (5 * i + j) (vp_nar .boolean 1), upd sh (5 * i + j) (vp_nar .boolean b), upd so (5 * i + j) (nI (cm_f st 19 0)), cm_clr (cm_f st 19 0) 4 0 va)) :
    wpX_map post (fr, al, mp, sh, so, va) (nI i) (nI j) b := by
  have hf := cm_f_le st 19 0
  unfold wpX_map
  dsimp only
  refine cm_xl3 hi hj ha ?_
  refine br_t (cm_ge0 (by omega)) ⟨vp_in_nI (by omega) (by decide), br_t (by rw [nI_clamp (by omega)]; exact hm) ?_⟩
  refine cm_xu T ?_
  refine cm_xc (by omega) ?_
  dsimp only
  refine cm_xpl (by omega) ?_
  exact hp
theorem cm_map_y {i j : Nat} {b : Int32} (hi : i < 4) (hj : j < 5) (ha : ¬ al i = 0) (hm : st (5 * i + j) = -1)
    (hp : qost (nI j) (al, upd st (5 * i + j) (nI (cm_f st 19 0)), upd op (5 * i + j) (vp_nar .boolean b), cm_clr (cm_f st 19 0) 4 0 va)) :
    wpY_map qost (al, st, op, va) (nI i) (nI j) b := by
  have hf := cm_f_le st 19 0
  unfold wpY_map
  dsimp only
  refine cm_yp1 hi ?_
  refine br_f cm_10 ?_
  refine cm_yg1 hj ?_
  refine br_f cm_10 ⟨vp_in_nI hi (by decide), br_f (by rw [nI_clamp (by omega)]; exact ha) ⟨pk_in (5 * i + j) 20 (by omega) (cm_i5 i j), br_t (by rw [pk_cl (5 * i + j) (cm_i5 i j), hm]; decide) ?_⟩⟩
  refine cm_yn (t := 5 * i + j) (by omega) hm ?_
  exact ⟨4 + 1, cm_ym_l hi hj (by omega) 4 0 va rfl hp⟩
end
theorem i_vc_map {k : Nat} {u : SX} {v : SY} (I : i_Rel k u v) (hk : k + 4 ≤ 2049) (v1 : Int32) (v2 : Int32) (v3 : Int32) : wpX_map (fun r u' => wpY_map (fun r' v' => r' = r ∧ i_Rel (k + 4) u' v') v v1 v2 (lw_bz v3)) u v1 v2 (lw_bz v3) := by
  obtain ⟨fr, al, mp, sh, so, va, st, op, rfl, rfl, T, D⟩ := I
  have J : i_Rel (k + 4) (fr, al, mp, sh, so, va) (al, st, op, va) := ⟨_, _, _, _, _, _, _, _, rfl, rfl, T, D⟩
  generalize lw_bz v3 = b
  have hbad1 : (v1 < 0 ∨ nI 4 ≤ v1) → wpX_map (fun r u' => wpY_map (fun r' v' => r' = r ∧ i_Rel (k + 4) u' v') (al, st, op, va) v1 v2 b) (fr, al, mp, sh, so, va) v1 v2 b := by
    intro h
    unfold wpX_map
    dsimp only
    refine cm_xl0 h ?_
    refine br_f cm_m1' ?_
    unfold wpY_map
    dsimp only
    refine cm_yp0 h ?_
    exact br_t rfl ⟨rfl, J⟩
  rcases pk_ix v1 (n := 4) (by decide) with h | h | ⟨i, hi, rfl⟩
  · exact hbad1 (Or.inl h)
  · exact hbad1 (Or.inr h)
  have hbad2 : (v2 < 0 ∨ nI 5 ≤ v2) → wpX_map (fun r u' => wpY_map (fun r' v' => r' = r ∧ i_Rel (k + 4) u' v') (al, st, op, va) (nI i) v2 b) (fr, al, mp, sh, so, va) (nI i) v2 b := by
    intro h
    unfold wpX_map
    dsimp only
    refine cm_xl1 hi h ?_
    refine br_f cm_m1' ?_
    unfold wpY_map
    dsimp only
    refine cm_yp1 hi ?_
    refine br_f cm_10 ?_
    refine cm_yg0 h ?_
    exact br_t rfl ⟨rfl, J⟩
  rcases pk_ix v2 (n := 5) (by decide) with h | h | ⟨j, hj, rfl⟩
  · exact hbad2 (Or.inl h)
  · exact hbad2 (Or.inr h)
  have ct : (5 * nI i + nI j).toNatClampNeg = 5 * i + j := pk_cl (5 * i + j) (cm_i5 i j)
  have it : vp_in (5 * nI i + nI j) 20 := pk_in (5 * i + j) 20 (by omega) (cm_i5 i j)
  have ci : (nI i).toNatClampNeg = i := nI_clamp (by omega)
  have ii : vp_in (nI i) 4 := vp_in_nI hi (by decide)
  by_cases ha : al i = 0
  · unfold wpX_map
    dsimp only
    refine cm_xl2 hi hj ha ?_
    refine br_f cm_m2' ?_
    unfold wpY_map
    dsimp only
    refine cm_yp1 hi ?_
    refine br_f cm_10 ?_
    refine cm_yg1 hj ?_
    exact br_f cm_10 ⟨ii, br_t (by rw [ci]; exact ha) ⟨rfl, J⟩⟩
  by_cases hm : mp (5 * i + j) = 0
  · have hf := cm_f_le st 19 0
    refine cm_map_x hi hj ha hm T ?_
    refine cm_map_y hi hj ha (cm_un T (by omega) hm) ?_
    exact ⟨rfl, _, _, _, _, _, _, _, _, rfl, rfl, cm_put T (by omega) _, cm_D_put D hj ha _⟩
  · obtain ⟨_, s, hs, _, es⟩ := cm_ma T (t := 5 * i + j) (by omega) hm
    unfold wpX_map
    dsimp only
    refine cm_xl3 hi hj ha ?_
    refine br_t (cm_ge0 (by omega)) ⟨vp_in_nI (by omega) (by decide), br_f (by rw [nI_clamp (by omega)]; exact hm) ?_⟩
    unfold wpY_map
    dsimp only
    refine cm_yp1 hi ?_
    refine br_f cm_10 ?_
    refine cm_yg1 hj ?_
    exact br_f cm_10 ⟨ii, br_f (by rw [ci]; exact ha) ⟨it, br_f (by rw [ct, es]; exact nI_pos (by omega)) ⟨rfl, J⟩⟩⟩
/-! unmap -/
theorem i_vc_unmap {k : Nat} {u : SX} {v : SY} (I : i_Rel k u v) (hk : k + 4 ≤ 2049) (v1 : Int32) (v2 : Int32) : wpX_unmap (fun r u' => wpY_unmap (fun r' v' => r' = r ∧ i_Rel (k + 4) u' v') v v1 v2) u v1 v2 := by
  obtain ⟨fr, al, mp, sh, so, va, st, op, rfl, rfl, T, D⟩ := I
  have J : i_Rel (k + 4) (fr, al, mp, sh, so, va) (al, st, op, va) := ⟨_, _, _, _, _, _, _, _, rfl, rfl, T, D⟩
  have hbad1 : (v1 < 0 ∨ nI 4 ≤ v1) → wpX_unmap (fun r u' => wpY_unmap (fun r' v' => r' = r ∧ i_Rel (k + 4) u' v') (al, st, op, va) v1 v2) (fr, al, mp, sh, so, va) v1 v2 := by
    intro h
    unfold wpX_unmap
    dsimp only
    refine cm_xm0 h ?_
    refine br_f cm_m1' ?_
    unfold wpY_unmap
    dsimp only
    refine cm_yp0 h ?_
    exact br_t rfl ⟨rfl, J⟩
  rcases pk_ix v1 (n := 4) (by decide) with h | h | ⟨i, hi, rfl⟩
  · exact hbad1 (Or.inl h)
  · exact hbad1 (Or.inr h)
  have hbad2 : (v2 < 0 ∨ nI 5 ≤ v2) → wpX_unmap (fun r u' => wpY_unmap (fun r' v' => r' = r ∧ i_Rel (k + 4) u' v') (al, st, op, va) (nI i) v2) (fr, al, mp, sh, so, va) (nI i) v2 := by
    intro h
    unfold wpX_unmap
    dsimp only
    refine cm_xm1 hi h ?_
    refine br_f cm_m1' ?_
    unfold wpY_unmap
    dsimp only
    refine cm_yp1 hi ?_
    refine br_f cm_10 ?_
    refine cm_yg0 h ?_
    exact br_t rfl ⟨rfl, J⟩
  rcases pk_ix v2 (n := 5) (by decide) with h | h | ⟨j, hj, rfl⟩
  · exact hbad2 (Or.inl h)
  · exact hbad2 (Or.inr h)
  have ct : (5 * nI i + nI j).toNatClampNeg = 5 * i + j := pk_cl (5 * i + j) (cm_i5 i j)
  have it : vp_in (5 * nI i + nI j) 20 := pk_in (5 * i + j) 20 (by omega) (cm_i5 i j)
  have ci : (nI i).toNatClampNeg = i := nI_clamp (by omega)
  have ii : vp_in (nI i) 4 := vp_in_nI hi (by decide)
  by_cases ha : al i = 0
  · unfold wpX_unmap
    dsimp only
    refine cm_xm2 hi hj ha ?_
    refine br_f cm_m2' ?_
    unfold wpY_unmap
    dsimp only
    refine cm_yp1 hi ?_
    refine br_f cm_10 ?_
    refine cm_yg1 hj ?_
    exact br_f cm_10 ⟨ii, br_t (by rw [ci]; exact ha) ⟨rfl, J⟩⟩
  by_cases hm : mp (5 * i + j) = 0
  · have es := cm_un T (t := 5 * i + j) (by omega) hm
    unfold wpX_unmap
    dsimp only
    refine cm_xm3 hi hj ha hm ?_
    refine br_f cm_m3' ?_
    unfold wpY_unmap
    dsimp only
    refine cm_yp1 hi ?_
    refine br_f cm_10 ?_
    refine cm_yg1 hj ?_
    exact br_f cm_10 ⟨ii, br_f (by rw [ci]; exact ha) ⟨it, br_f (by rw [ct, es]; decide) ⟨rfl, J⟩⟩⟩
  · obtain ⟨_, s, hs, _, es⟩ := cm_ma T (t := 5 * i + j) (by omega) hm
    unfold wpX_unmap
    dsimp only
    refine cm_xm4 hi hj ha hm ?_
    refine br_t (cm_ge0 (by omega)) ⟨vp_in_nI (by omega) (by decide), nm_r (by rw [nI_clamp (show 5 * i + j < 2 ^ 31 by omega)]) ?_⟩
    unfold wpY_unmap
    dsimp only
    refine cm_yp1 hi ?_
    refine br_f cm_10 ?_
    refine cm_yg1 hj ?_
    refine br_f cm_10 ⟨ii, br_f (by rw [ci]; exact ha) ⟨it, br_t (by rw [ct, es]; exact nI_pos' (by omega)) ⟨it, nm_r (by rw [ct]) ?_⟩⟩⟩
    exact ⟨rfl, _, _, _, _, _, _, _, _, rfl, rfl, cm_drop T, cm_D_drop D⟩
/-! isMapped -/
theorem i_vc_isMapped {k : Nat} {u : SX} {v : SY} (I : i_Rel k u v) (hk : k + 4 ≤ 2049) (v1 : Int32) (v2 : Int32) : wpX_isMapped (fun r => wpY_isMapped (fun r' => r' = r ∧ i_Rel (k + 4) u v) v v1 v2) u v1 v2 := by
  have J : i_Rel (k + 4) u v := I
  obtain ⟨fr, al, mp, sh, so, va, st, op, rfl, rfl, T, D⟩ := I
  generalize i_Rel (k + 4) (fr, al, mp, sh, so, va) (al, st, op, va) = R at J ⊢
  have hbad1 : (v1 < 0 ∨ nI 4 ≤ v1) → wpX_isMapped (fun r => wpY_isMapped (fun r' => r' = r ∧ R) (al, st, op, va) v1 v2) (fr, al, mp, sh, so, va) v1 v2 := by
    intro h
    unfold wpX_isMapped
    dsimp only
    refine cm_xm0 h ?_
    refine br_t cm_m1 ?_
    unfold wpY_isMapped
    dsimp only
    refine cm_yp0 h ?_
    exact br_t rfl ⟨rfl, J⟩
  rcases pk_ix v1 (n := 4) (by decide) with h | h | ⟨i, hi, rfl⟩
  · exact hbad1 (Or.inl h)
  · exact hbad1 (Or.inr h)
  have hbad2 : (v2 < 0 ∨ nI 5 ≤ v2) → wpX_isMapped (fun r => wpY_isMapped (fun r' => r' = r ∧ R) (al, st, op, va) (nI i) v2) (fr, al, mp, sh, so, va) (nI i) v2 := by
    intro h
    unfold wpX_isMapped
    dsimp only
    refine cm_xm1 hi h ?_
    refine br_t cm_m1 ?_
    unfold wpY_isMapped
    dsimp only
    refine cm_yp1 hi ?_
    refine br_f cm_10 ?_
    refine cm_yg0 h ?_
    exact br_t rfl ⟨rfl, J⟩
  rcases pk_ix v2 (n := 5) (by decide) with h | h | ⟨j, hj, rfl⟩
  · exact hbad2 (Or.inl h)
  · exact hbad2 (Or.inr h)
  have ct : (5 * nI i + nI j).toNatClampNeg = 5 * i + j := pk_cl (5 * i + j) (cm_i5 i j)
  have it : vp_in (5 * nI i + nI j) 20 := pk_in (5 * i + j) 20 (by omega) (cm_i5 i j)
  have hun : mp (5 * i + j) = 0 → wpY_isMapped (fun r' => r' = 0 ∧ R) (al, st, op, va) (nI i) (nI j) := by
    intro hm
    have es := cm_un T (t := 5 * i + j) (by omega) hm
    unfold wpY_isMapped
    dsimp only
    refine cm_yp1 hi ?_
    refine br_f cm_10 ?_
    refine cm_yg1 hj ?_
    exact br_f cm_10 ⟨it, br_t (by rw [ct, es]; decide) ⟨rfl, J⟩⟩
  by_cases ha : al i = 0
  · unfold wpX_isMapped
    dsimp only
    refine cm_xm2 hi hj ha ?_
    refine br_t (by decide) ?_
    exact hun (D i j hi hj ha)
  by_cases hm : mp (5 * i + j) = 0
  · unfold wpX_isMapped
    dsimp only
    refine cm_xm3 hi hj ha hm ?_
    refine br_t (by decide) ?_
    exact hun hm
  · obtain ⟨_, s, hs, _, es⟩ := cm_ma T (t := 5 * i + j) (by omega) hm
    unfold wpX_isMapped
    dsimp only
    refine cm_xm4 hi hj ha hm ?_
    refine br_f (nI_pos (by omega)) ?_
    unfold wpY_isMapped
    dsimp only
    refine cm_yp1 hi ?_
    refine br_f cm_10 ?_
    refine cm_yg1 hj ?_
    exact br_f cm_10 ⟨it, br_f (by rw [ct, es]; exact nI_pos (by omega)) ⟨rfl, J⟩⟩
/-! showing -/
theorem i_vc_showing {k : Nat} {u : SX} {v : SY} (I : i_Rel k u v) (hk : k + 4 ≤ 2049) (v1 : Int32) (v2 : Int32) : wpX_showing (fun r => wpY_showing (fun r' => r' = r ∧ i_Rel (k + 4) u v) v v1 v2) u v1 v2 := by
  have J : i_Rel (k + 4) u v := I
  obtain ⟨fr, al, mp, sh, so, va, st, op, rfl, rfl, T, D⟩ := I
  generalize i_Rel (k + 4) (fr, al, mp, sh, so, va) (al, st, op, va) = R at J ⊢
  have hbad1 : (v1 < 0 ∨ nI 4 ≤ v1) → wpX_showing (fun r => wpY_showing (fun r' => r' = r ∧ R) (al, st, op, va) v1 v2) (fr, al, mp, sh, so, va) v1 v2 := by
    intro h
    unfold wpX_showing
    dsimp only
    refine cm_xm0 h ?_
    refine br_f cm_m1' ?_
    unfold wpY_showing
    dsimp only
    refine cm_yp0 h ?_
    exact br_t rfl ⟨rfl, J⟩
  rcases pk_ix v1 (n := 4) (by decide) with h | h | ⟨i, hi, rfl⟩
  · exact hbad1 (Or.inl h)
  · exact hbad1 (Or.inr h)
  have hbad2 : (v2 < 0 ∨ nI 5 ≤ v2) → wpX_showing (fun r => wpY_showing (fun r' => r' = r ∧ R) (al, st, op, va) (nI i) v2) (fr, al, mp, sh, so, va) (nI i) v2 := by
    intro h
    unfold wpX_showing
    dsimp only
    refine cm_xm1 hi h ?_
    refine br_f cm_m1' ?_
    unfold wpY_showing
    dsimp only
    refine cm_yp1 hi ?_
    refine br_f cm_10 ?_
    refine cm_yg0 h ?_
    exact br_t rfl ⟨rfl, J⟩
  rcases pk_ix v2 (n := 5) (by decide) with h | h | ⟨j, hj, rfl⟩
  · exact hbad2 (Or.inl h)
  · exact hbad2 (Or.inr h)
  have ct : (5 * nI i + nI j).toNatClampNeg = 5 * i + j := pk_cl (5 * i + j) (cm_i5 i j)
  have it : vp_in (5 * nI i + nI j) 20 := pk_in (5 * i + j) 20 (by omega) (cm_i5 i j)
  have ci : (nI i).toNatClampNeg = i := nI_clamp (by omega)
  have ii : vp_in (nI i) 4 := vp_in_nI hi (by decide)
  by_cases ha : al i = 0
  · unfold wpX_showing
    dsimp only
    refine cm_xm2 hi hj ha ?_
    refine br_f cm_m2' ?_
    unfold wpY_showing
    dsimp only
    refine cm_yp1 hi ?_
    refine br_f cm_10 ?_
    refine cm_yg1 hj ?_
    exact br_f cm_10 ⟨ii, br_t (by rw [ci]; exact ha) ⟨rfl, J⟩⟩
  by_cases hm : mp (5 * i + j) = 0
  · have es := cm_un T (t := 5 * i + j) (by omega) hm
    unfold wpX_showing
    dsimp only
    refine cm_xm3 hi hj ha hm ?_
    refine br_f cm_m3' ?_
    unfold wpY_showing
    dsimp only
    refine cm_yp1 hi ?_
    refine br_f cm_10 ?_
    refine cm_yg1 hj ?_
    exact br_f cm_10 ⟨ii, br_f (by rw [ci]; exact ha) ⟨it, br_f (by rw [ct, es]; decide) ⟨rfl, J⟩⟩⟩
  · obtain ⟨_, s, hs, eo, es⟩ := cm_ma T (t := 5 * i + j) (by omega) hm
    unfold wpX_showing
    dsimp only
    refine cm_xm4 hi hj ha hm ?_
    refine br_t (cm_ge0 (by omega)) ⟨vp_in_nI (by omega) (by decide), ?_⟩
    rw [nI_clamp (show 5 * i + j < 2 ^ 31 by omega), eo]
    refine cm_xs T (by omega) ?_
    unfold wpY_showing
    dsimp only
    refine cm_yp1 hi ?_
    refine br_f cm_10 ?_
    refine cm_yg1 hj ?_
    refine br_f cm_10 ⟨ii, br_f (by rw [ci]; exact ha) ⟨it, br_t (by rw [ct, es]; exact nI_pos' (by omega)) ?_⟩⟩
    exact ⟨20 + 1, cm_ysh_l hi hj es 20 0 0 rfl ⟨by rw [Nat.zero_add], J⟩⟩
end
section
theorem cm_shneg {x s : Int32} (k : Nat) (hs : (s.toBitVec.smod 32).toNat = k) (h : x < 0) : x >>> s < 0 := by
  rw [Int32.lt_iff_toInt_lt] at h ⊢
  rw [pk_shr _ _ k hs, Int.shiftRight_eq_div_pow]
  rw [show (0 : Int32).toInt = 0 from by decide] at h ⊢
  have hk : 0 < ((2 ^ k : Nat) : Int) := Int.ofNat_lt.mpr (Nat.two_pow_pos k)
  exact Int.ediv_neg_of_neg_of_pos h hk
theorem cm_sh2 {n : Nat} (h : n < 2 ^ 31) : nI n >>> ((2 : Int32) &&& 31) = nI (n / 4) := pk_shrN h _ 2 (by decide)
theorem cm_sh3 {n : Nat} (h : n < 2 ^ 31) : nI n >>> ((3 : Int32) &&& 31) = nI (n / 8) := pk_shrN h _ 3 (by decide)
theorem cm_an3 {n : Nat} (h : n < 2 ^ 31) : nI n &&& 3 = nI (n % 4) := pk_andN (by omega) 2 (by decide)
theorem cm_an7 {n : Nat} (h : n < 2 ^ 31) : nI n &&& 7 = nI (n % 8) := pk_andN (by omega) 3 (by decide)
theorem cm_dv4 {n : Nat} (h : n < 2 ^ 31) : nI n / 4 = nI (n / 4) := pk_div (d := 4) h (by decide) (by decide)
theorem cm_dv8 {n : Nat} (h : n < 2 ^ 31) : nI n / 8 = nI (n / 8) := pk_div (d := 8) h (by decide) (by decide)
theorem cm_rm4 {n : Nat} (h : n < 2 ^ 31) : nI n - nI n / 4 * 4 = nI (n % 4) := pk_rem (d := 4) h (by decide) (by decide)
theorem cm_rm8 {n : Nat} (h : n < 2 ^ 31) : nI n - nI n / 8 * 8 = nI (n % 8) := pk_rem (d := 8) h (by decide) (by decide)
theorem cm_40 : ¬ (4 : Int32) = 0 := by decide
theorem cm_80 : ¬ (8 : Int32) = 0 := by decide
theorem cm_pos {x y : Int32} (hy : ¬ y < 0) (h : y ≤ x) : ¬ x < 0 := by
  rw [Int32.lt_iff_toInt_lt] at *
  rw [Int32.le_iff_toInt_le] at h
  omega
theorem cm_ge {a x : Int32} (h : a < x) : ¬ x ≤ a := by
  rw [Int32.lt_iff_toInt_lt] at h
  rw [Int32.le_iff_toInt_le]
  omega
/-- a cell's page is refused just when the cell is -/
theorem cm_cell {x : Int32} (h : x < 0 ∨ nI 20 ≤ x) : x >>> ((2 : Int32) &&& 31) < 0 ∨ nI 5 ≤ x >>> ((2 : Int32) &&& 31) := by
  by_cases h0 : x < 0
  · exact Or.inl (cm_shneg 2 (by decide) h0)
  · obtain ⟨n, hn, rfl⟩ := nI_of h0
    have h2 := (nI_leI (a := 20) (by decide) hn).mp (h.resolve_left h0)
    rw [cm_sh2 hn]
    exact Or.inr (nI_le (by omega) (by omega))
theorem i_vc_write {k : Nat} {u : SX} {v : SY} (I : i_Rel k u v) (hk : k + 4 ≤ 2049) (v1 : Int32) (v2 : Int32) (v3 : Int32) : wpX_write (fun r u' => wpY_write (fun r' v' => r' = r ∧ i_Rel (k + 4) u' v') v v1 v2 v3) u v1 v2 v3 := by
  obtain ⟨fr, al, mp, sh, so, va, st, op, rfl, rfl, T, D⟩ := I
  have J : i_Rel (k + 4) (fr, al, mp, sh, so, va) (al, st, op, va) := ⟨_, _, _, _, _, _, _, _, rfl, rfl, T, D⟩
  have hbad1 : (v1 < 0 ∨ nI 4 ≤ v1) → wpX_write (fun r u' => wpY_write (fun r' v' => r' = r ∧ i_Rel (k + 4) u' v') (al, st, op, va) v1 v2 v3) (fr, al, mp, sh, so, va) v1 v2 v3 := by
    intro h
    unfold wpX_write
    dsimp only
    refine cm_xm0 h ?_
    refine br_f cm_m1' ?_
    unfold wpY_write
    dsimp only
    refine cm_yp0 h ?_
    exact br_t rfl ⟨rfl, J⟩
  rcases pk_ix v1 (n := 4) (by decide) with h | h | ⟨i, hi, rfl⟩
  · exact hbad1 (Or.inl h)
  · exact hbad1 (Or.inr h)
  have hbad2 : (v2 < 0 ∨ nI 20 ≤ v2) → wpX_write (fun r u' => wpY_write (fun r' v' => r' = r ∧ i_Rel (k + 4) u' v') (al, st, op, va) (nI i) v2 v3) (fr, al, mp, sh, so, va) (nI i) v2 v3 := by
    intro h
    unfold wpX_write
    dsimp only
    refine cm_xm1 hi (cm_cell h) ?_
    refine br_f cm_m1' ?_
    unfold wpY_write
    dsimp only
    refine cm_yp1 hi ?_
    refine br_f cm_10 ?_
    by_cases h0 : v2 < 0
    · exact br_t h0 ⟨rfl, J⟩
    · exact br_f h0 (br_f (cm_ge (cm_ltle (b := nI 20) (by decide) (h.resolve_left h0))) ⟨rfl, J⟩)
  rcases pk_ix v2 (n := 20) (by decide) with h | h | ⟨c, hc, rfl⟩
  · exact hbad2 (Or.inl h)
  · exact hbad2 (Or.inr h)
  have hj : c / 4 < 5 := by omega
  have e2 := cm_dv4 (n := c) (by omega)
  have e3 := cm_rm4 (n := c) (by omega)
  have ct : (5 * nI i + nI (c / 4)).toNatClampNeg = 5 * i + c / 4 := pk_cl (5 * i + c / 4) (cm_i5 i (c / 4))
  have it : vp_in (5 * nI i + nI (c / 4)) 20 := pk_in (5 * i + c / 4) 20 (by omega) (cm_i5 i (c / 4))
  have ci : (nI i).toNatClampNeg = i := nI_clamp (by omega)
  have ii : vp_in (nI i) 4 := vp_in_nI hi (by decide)
  have hc0 : ¬ nI c < 0 := nI_pos (by omega)
  have hc19 : nI c ≤ 19 := nI_le (b := 19) (by omega) (by decide)
  by_cases ha : al i = 0
  · unfold wpX_write
    dsimp only
    rw [cm_sh2 (show c < 2 ^ 31 by omega)]
    refine cm_xm2 hi hj ha ?_
    refine br_f cm_m2' ?_
    unfold wpY_write
    dsimp only
    refine cm_yp1 hi ?_
    exact br_f cm_10 (br_f hc0 (br_t hc19 ⟨ii, br_t (by rw [ci]; exact ha) ⟨rfl, J⟩⟩))
  by_cases hm : mp (5 * i + c / 4) = 0
  · have es := cm_un T (t := 5 * i + c / 4) (by omega) hm
    unfold wpX_write
    dsimp only
    rw [cm_sh2 (show c < 2 ^ 31 by omega)]
    refine cm_xm3 hi hj ha hm ?_
    refine br_f cm_m3' ?_
    unfold wpY_write
    dsimp only
    refine cm_yp1 hi ?_
    rw [e3, e2]
    exact br_f cm_10 (br_f hc0 (br_t hc19 ⟨ii, br_f (by rw [ci]; exact ha) ⟨cm_40, it, nm_r (by rw [ct, es]) (br_f (by decide) ⟨rfl, J⟩)⟩⟩))
  · obtain ⟨_, s, hs, eo, es⟩ := cm_ma T (t := 5 * i + c / 4) (by omega) hm
    have cs : (4 * nI s + nI (c % 4)).toNatClampNeg = 4 * s + c % 4 := pk_cl (4 * s + c % 4) (cm_i4 s (c % 4))
    have is : vp_in (4 * nI s + nI (c % 4)) 80 := pk_in (4 * s + c % 4) 80 (by omega) (cm_i4 s (c % 4))
    unfold wpX_write
    dsimp only
    rw [cm_sh2 (show c < 2 ^ 31 by omega), cm_an3 (show c < 2 ^ 31 by omega)]
    refine cm_xm4 hi hj ha hm ?_
    rw [nI_clamp (show 5 * i + c / 4 < 2 ^ 31 by omega), eo]
    refine br_t (cm_ge0 (by omega)) ⟨vp_in_nI (by omega) (by decide), is, nm_r (by rw [cs]) ?_⟩
    unfold wpY_write
    dsimp only
    refine cm_yp1 hi ?_
    rw [e3, e2]
    refine br_f cm_10 (br_f hc0 (br_t hc19 ⟨ii, br_f (by rw [ci]; exact ha) ⟨cm_40, it, nm_r (e' := nI s) (by rw [ct, es]) (br_t (cm_ge0 (by omega)) ⟨cm_40, is, nm_r (by rw [cs]) ?_⟩)⟩⟩))
    exact ⟨rfl, _, _, _, _, _, _, _, _, rfl, rfl, T, D⟩
theorem i_vc_read {k : Nat} {u : SX} {v : SY} (I : i_Rel k u v) (hk : k + 4 ≤ 2049) (v1 : Int32) (v2 : Int32) : wpX_read (fun r => wpY_read (fun r' => r' = r ∧ i_Rel (k + 4) u v) v v1 v2) u v1 v2 := by
  have J : i_Rel (k + 4) u v := I
  obtain ⟨fr, al, mp, sh, so, va, st, op, rfl, rfl, T, D⟩ := I
  generalize i_Rel (k + 4) (fr, al, mp, sh, so, va) (al, st, op, va) = R at J ⊢
  have hbad1 : (v1 < 0 ∨ nI 4 ≤ v1) → wpX_read (fun r => wpY_read (fun r' => r' = r ∧ R) (al, st, op, va) v1 v2) (fr, al, mp, sh, so, va) v1 v2 := by
    intro h
    unfold wpX_read
    dsimp only
    refine cm_xm0 h ?_
    refine br_f cm_m1' ?_
    unfold wpY_read
    dsimp only
    refine cm_yp0 h ?_
    exact br_t rfl ⟨rfl, J⟩
  rcases pk_ix v1 (n := 4) (by decide) with h | h | ⟨i, hi, rfl⟩
  · exact hbad1 (Or.inl h)
  · exact hbad1 (Or.inr h)
  have hbad2 : (v2 < 0 ∨ nI 20 ≤ v2) → wpX_read (fun r => wpY_read (fun r' => r' = r ∧ R) (al, st, op, va) (nI i) v2) (fr, al, mp, sh, so, va) (nI i) v2 := by
    intro h
    unfold wpX_read
    dsimp only
    refine cm_xm1 hi (cm_cell h) ?_
    refine br_f cm_m1' ?_
    unfold wpY_read
    dsimp only
    refine cm_yp1 hi ?_
    refine br_f cm_10 ?_
    by_cases h0 : v2 < 0
    · exact br_t h0 ⟨rfl, J⟩
    · exact br_f h0 (br_t (cm_ltle (b := nI 20) (by decide) (h.resolve_left h0)) ⟨rfl, J⟩)
  rcases pk_ix v2 (n := 20) (by decide) with h | h | ⟨c, hc, rfl⟩
  · exact hbad2 (Or.inl h)
  · exact hbad2 (Or.inr h)
  have hj : c / 4 < 5 := by omega
  have e2 := cm_dv4 (n := c) (by omega)
  have e3 := cm_rm4 (n := c) (by omega)
  have ct : (5 * nI i + nI (c / 4)).toNatClampNeg = 5 * i + c / 4 := pk_cl (5 * i + c / 4) (cm_i5 i (c / 4))
  have it : vp_in (5 * nI i + nI (c / 4)) 20 := pk_in (5 * i + c / 4) 20 (by omega) (cm_i5 i (c / 4))
  have hc0 : ¬ nI c < 0 := nI_pos (by omega)
  have hc19 : ¬ 19 < nI c := nI_nlt (a := 19) (by omega) (by decide)
  have hun : mp (5 * i + c / 4) = 0 → wpY_read (fun r' => r' = 0 ∧ R) (al, st, op, va) (nI i) (nI c) := by
    intro hm
    have es := cm_un T (t := 5 * i + c / 4) (by omega) hm
    unfold wpY_read
    dsimp only
    refine cm_yp1 hi ?_
    rw [e3, e2]
    exact br_f cm_10 (br_f hc0 (br_f hc19 ⟨cm_40, it, br_f (by rw [ct, es]; decide) ⟨rfl, J⟩⟩))
  by_cases ha : al i = 0
  · unfold wpX_read
    dsimp only
    rw [cm_sh2 (show c < 2 ^ 31 by omega)]
    refine cm_xm2 hi hj ha ?_
    refine br_f cm_m2' ?_
    exact hun (D i (c / 4) hi hj ha)
  by_cases hm : mp (5 * i + c / 4) = 0
  · unfold wpX_read
    dsimp only
    rw [cm_sh2 (show c < 2 ^ 31 by omega)]
    refine cm_xm3 hi hj ha hm ?_
    refine br_f cm_m3' ?_
    exact hun hm
  · obtain ⟨_, s, hs, eo, es⟩ := cm_ma T (t := 5 * i + c / 4) (by omega) hm
    have cs : (4 * nI s + nI (c % 4)).toNatClampNeg = 4 * s + c % 4 := pk_cl (4 * s + c % 4) (cm_i4 s (c % 4))
    have is : vp_in (4 * nI s + nI (c % 4)) 80 := pk_in (4 * s + c % 4) 80 (by omega) (cm_i4 s (c % 4))
    unfold wpX_read
    dsimp only
    rw [cm_sh2 (show c < 2 ^ 31 by omega), cm_an3 (show c < 2 ^ 31 by omega)]
    refine cm_xm4 hi hj ha hm ?_
    rw [nI_clamp (show 5 * i + c / 4 < 2 ^ 31 by omega), eo]
    refine br_t (cm_ge0 (by omega)) ⟨vp_in_nI (by omega) (by decide), is, ?_⟩
    unfold wpY_read
    dsimp only
    refine cm_yp1 hi ?_
    rw [e3, e2, ct, es]
    exact br_f cm_10 (br_f hc0 (br_f hc19 ⟨cm_40, it, br_t (cm_ge0 (by omega)) ⟨cm_40, it, cm_40, is, rfl, J⟩⟩))
end
section
def cm_XB (x : Int32) : Prop := (x >>> ((3 : Int32) &&& 31) < 0 ∨ nI 4 ≤ x >>> ((3 : Int32) &&& 31)) ∨ ∃ i, i < 4 ∧ x >>> ((3 : Int32) &&& 31) = nI i ∧ nI 5 ≤ x &&& 7
def cm_YB (x : Int32) : Prop := x < 0 ∨ 28 < x ∨ 4 < x - x / 8 * 8
/-- a packed page is refused on both sides, or is a page of a process -/
theorem cm_pack (x : Int32) : (cm_XB x ∧ cm_YB x) ∨ ∃ i j, i < 4 ∧ j < 5 ∧ x = nI (8 * i + j) := by
  by_cases h0 : x < 0
  · exact Or.inl ⟨Or.inl (Or.inl (cm_shneg 3 (by decide) h0)), Or.inl h0⟩
  · obtain ⟨n, hn, rfl⟩ := nI_of h0
    by_cases h1 : 32 ≤ n
    · refine Or.inl ⟨Or.inl (Or.inr ?_), Or.inr (Or.inl ?_)⟩
      · rw [cm_sh3 hn]
        exact nI_le (by omega) (by omega)
      · exact nI_lt (a := 28) (by omega) hn
    · by_cases h2 : n % 8 < 5
      · exact Or.inr ⟨n / 8, n % 8, by omega, h2, congrArg nI (by omega)⟩
      · refine Or.inl ⟨Or.inr ⟨n / 8, by omega, cm_sh3 hn, ?_⟩, Or.inr (Or.inr ?_)⟩
        · rw [cm_an7 hn]
          exact nI_le (by omega) (by omega)
        · rw [cm_rm8 hn]
          exact nI_lt (a := 4) (by omega) (by omega)
theorem cm_xlb {fr : Int32} {al mp sh so va : Nat → Int32} {post : Int32 → Prop} {x : Int32} (h : cm_XB x) (hp : post (-1)) : wpX_liveSlot post (fr, al, mp, sh, so, va) (x >>> ((3 : Int32) &&& 31)) (x &&& 7) := by
  rcases h with h | ⟨i, hi, e, h⟩
  · exact cm_xl0 h hp
  · rw [e]
    exact cm_xl1 hi (Or.inr h) hp
theorem cm_le_of {a x : Int32} (h : ¬ a < x) : x ≤ a := by
  rw [Int32.lt_iff_toInt_lt] at h
  rw [Int32.le_iff_toInt_le]
  omega
theorem cm_yab {post : Int32 → SY → Prop} {al st op ce : Nat → Int32} {v1 v2 : Int32} (h : cm_YB v1 ∨ cm_YB v2) (hp : post (-1) (al, st, op, ce)) : wpY_attach post (al, st, op, ce) v1 v2 := by
  unfold wpY_attach
  dsimp only
  by_cases a1 : v1 < 0
  · exact br_t a1 hp
  by_cases a2 : v2 < 0
  · exact br_f a1 (br_t a2 hp)
  by_cases b1 : 28 < v1
  · exact br_f a1 (br_f a2 (br_t b1 hp))
  by_cases b2 : 28 < v2
  · exact br_f a1 (br_f a2 (br_f b1 (br_t b2 hp)))
  by_cases c1 : 4 < v1 - v1 / 8 * 8
  · exact br_f a1 (br_f a2 (br_f b1 (br_f b2 ⟨cm_80, br_t c1 hp⟩)))
  by_cases c2 : 4 < v2 - v2 / 8 * 8
  · exact br_f a1 (br_f a2 (br_f b1 (br_f b2 ⟨cm_80, br_f c1 ⟨cm_80, br_f (cm_ge c2) hp⟩⟩)))
  exfalso
  rcases h with h | h
  · rcases h with h | h | h
    · exact a1 h
    · exact b1 h
    · exact c1 h
  · rcases h with h | h | h
    · exact a2 h
    · exact b2 h
    · exact c2 h
theorem cm_yag {post : Int32 → SY → Prop} {al st op ce : Nat → Int32} {v1 v2 : Int32} {i j i' j' : Nat} (hi : i < 4) (hj : j < 5) (e : v1 = nI (8 * i + j)) (hi' : i' < 4) (hj' : j' < 5) (e' : v2 = nI (8 * i' + j'))
    (hd1 : al i = 0 → post (-2) (al, st, op, ce))
    (hd2 : ¬ al i = 0 → al i' = 0 → post (-2) (al, st, op, ce))
    (hb : ¬ al i = 0 → ¬ al i' = 0 → ¬ st (5 * i + j) < 0 → post (-4) (al, st, op, ce))
    (hu1 : ¬ al i = 0 → ¬ al i' = 0 → st (5 * i + j) < 0 → st (5 * i' + j') < 0 → post (-3) (al, st, op, ce))
    (hu2 : ¬ al i = 0 → ¬ al i' = 0 → st (5 * i + j) < 0 → ¬ st (5 * i' + j') < 0 → op (5 * i' + j') = 0 → post (-3) (al, st, op, ce))
    (hok : ¬ al i = 0 → ¬ al i' = 0 → st (5 * i + j) < 0 → ¬ st (5 * i' + j') < 0 → ¬ op (5 * i' + j') = 0 → post (nI j) (al, upd st (5 * i + j) (st (5 * i' + j')), upd op (5 * i + j) (vp_nar .boolean 1), ce)) :
    wpY_attach post (al, st, op, ce) v1 v2 := by
  have d1 : v1 / 8 = nI i := by rw [e, cm_dv8 (by omega)]; exact congrArg nI (by omega)
  have d2 : v2 / 8 = nI i' := by rw [e', cm_dv8 (by omega)]; exact congrArg nI (by omega)
  have r1 : v1 - v1 / 8 * 8 = nI j := by rw [e, cm_rm8 (by omega)]; exact congrArg nI (by omega)
  have r2 : v2 - v2 / 8 * 8 = nI j' := by rw [e', cm_rm8 (by omega)]; exact congrArg nI (by omega)
  have a1 : ¬ v1 < 0 := by rw [e]; exact nI_pos (by omega)
  have a2 : ¬ v2 < 0 := by rw [e']; exact nI_pos (by omega)
  have b1 : ¬ 28 < v1 := by rw [e]; exact nI_nlt (a := 28) (by omega) (by decide)
  have b2 : ¬ 28 < v2 := by rw [e']; exact nI_nlt (a := 28) (by omega) (by decide)
  have c1 : ¬ 4 < nI j := nI_nlt (a := 4) (by omega) (by decide)
  have c2 : nI j' ≤ 4 := nI_le (b := 4) (by omega) (by decide)
  have ii : vp_in (nI i) 4 := vp_in_nI hi (by decide)
  have ii' : vp_in (nI i') 4 := vp_in_nI hi' (by decide)
  have it : vp_in (nI (5 * i + j)) 20 := vp_in_nI (by omega) (by decide)
  have it' : vp_in (nI (5 * i' + j')) 20 := vp_in_nI (by omega) (by decide)
  have k1 : (nI i).toNatClampNeg = i := nI_clamp (by omega)
  have k2 : (nI i').toNatClampNeg = i' := nI_clamp (by omega)
  have k3 : (nI (5 * i + j)).toNatClampNeg = 5 * i + j := nI_clamp (by omega)
  have k4 : (nI (5 * i' + j')).toNatClampNeg = 5 * i' + j' := nI_clamp (by omega)
  unfold wpY_attach
  dsimp only
  rw [r1, r2, d1, d2]
  refine br_f a1 (br_f a2 (br_f b1 (br_f b2 ⟨cm_80, br_f c1 ⟨cm_80, br_t c2 ⟨cm_80, cm_80, nm_r (cm_i5 i j) ⟨cm_80, cm_80, nm_r (cm_i5 i' j') ?_⟩⟩⟩⟩)))
  rw [k1, k2, k3, k4]
  exact ⟨cm_80, ii, br_c hd1 (fun z1 => ⟨cm_80, ii', br_c (hd2 z1) (fun z2 => ⟨it, br_c (fun z3 => ⟨it', br_c (hu1 z1 z2 z3) (fun z4 => ⟨it', br_c (hu2 z1 z2 z3 z4) (fun z5 => ⟨it', it, nm_e ⟨it, nm_e ⟨cm_80, hok z1 z2 z3 z4 z5⟩⟩⟩)⟩)⟩) (hb z1 z2)⟩)⟩)⟩
theorem i_vc_attach {k : Nat} {u : SX} {v : SY} (I : i_Rel k u v) (hk : k + 4 ≤ 2049) (v1 : Int32) (v2 : Int32) : wpX_attach (fun r u' => wpY_attach (fun r' v' => r' = r ∧ i_Rel (k + 4) u' v') v v1 v2) u v1 v2 := by
  obtain ⟨fr, al, mp, sh, so, va, st, op, rfl, rfl, T, D⟩ := I
  have J : i_Rel (k + 4) (fr, al, mp, sh, so, va) (al, st, op, va) := ⟨_, _, _, _, _, _, _, _, rfl, rfl, T, D⟩
  have m2 : ¬ (-2 : Int32) = -1 := by decide
  have hn1 : ∀ t, t < 2 ^ 31 → ¬ nI t = (-1 : Int32) := fun t ht z => cm_neg1 ht z.symm
  unfold wpX_attach
  dsimp only
  rcases cm_pack v1 with ⟨xb, yb⟩ | ⟨i, j, hi, hj, e⟩
  · refine nm_e ?_
    refine cm_xlb xb ?_
    refine cm_xla (fun r => ?_)
    exact br_t rfl (cm_yab (Or.inl yb) ⟨rfl, J⟩)
  have s1 : v1 >>> ((3 : Int32) &&& 31) = nI i := by rw [e, cm_sh3 (by omega)]; exact congrArg nI (by omega)
  have n1 : v1 &&& 7 = nI j := by rw [e, cm_an7 (by omega)]; exact congrArg nI (by omega)
  refine nm_r n1 ?_
  rw [s1]
  rcases cm_pack v2 with ⟨xb, yb⟩ | ⟨i', j', hi', hj', e'⟩
  · by_cases ha : al i = 0
    · refine cm_xl2 hi hj ha ?_
      refine cm_xlb xb ?_
      exact br_f m2 (br_t rfl (cm_yab (Or.inr yb) ⟨rfl, J⟩))
    · refine cm_xl3 hi hj ha ?_
      refine cm_xlb xb ?_
      exact br_f (hn1 _ (by omega)) (br_t rfl (cm_yab (Or.inr yb) ⟨rfl, J⟩))
  have s2 : v2 >>> ((3 : Int32) &&& 31) = nI i' := by rw [e', cm_sh3 (by omega)]; exact congrArg nI (by omega)
  have n2 : v2 &&& 7 = nI j' := by rw [e', cm_an7 (by omega)]; exact congrArg nI (by omega)
  rw [s2, n2]
  by_cases ha : al i = 0
  · refine cm_xl2 hi hj ha ?_
    have hY : wpY_attach (fun r' v' => r' = (-2) ∧ i_Rel (k + 4) (fr, al, mp, sh, so, va) v') (al, st, op, va) v1 v2 :=
      cm_yag hi hj e hi' hj' e' (fun _ => ⟨rfl, J⟩) (fun z => absurd ha z) (fun z => absurd ha z) (fun z => absurd ha z) (fun z => absurd ha z) (fun z => absurd ha z)
    by_cases hb : al i' = 0
    · refine cm_xl2 hi' hj' hb ?_
      exact br_f m2 (br_f m2 (br_t (by decide) hY))
    · refine cm_xl3 hi' hj' hb ?_
      exact br_f m2 (br_f (hn1 _ (by omega)) (br_t (by decide) hY))
  refine cm_xl3 hi hj ha ?_
  by_cases hb : al i' = 0
  · refine cm_xl2 hi' hj' hb ?_
    refine br_f (hn1 _ (by omega)) (br_f m2 (br_f (nI_pos (by omega)) (br_f cm_m2' ?_)))
    exact cm_yag hi hj e hi' hj' e' (fun z => absurd z ha) (fun _ _ => ⟨rfl, J⟩) (fun _ z => absurd hb z) (fun _ z => absurd hb z) (fun _ z => absurd hb z) (fun _ z => absurd hb z)
  refine cm_xl3 hi' hj' hb ?_
  have it : vp_in (nI (5 * i + j)) 20 := vp_in_nI (by omega) (by decide)
  have it' : vp_in (nI (5 * i' + j')) 20 := vp_in_nI (by omega) (by decide)
  refine br_f (hn1 _ (by omega)) (br_f (hn1 _ (by omega)) (br_f (nI_pos (by omega)) (br_t (cm_ge0 (by omega)) ⟨it, ?_⟩)))
  rw [nI_clamp (show 5 * i + j < 2 ^ 31 by omega), nI_clamp (show 5 * i' + j' < 2 ^ 31 by omega)]
  by_cases hm : mp (5 * i + j) = 0
  · have es := cm_un T (t := 5 * i + j) (by omega) hm
    have el : st (5 * i + j) < 0 := by rw [es]; decide
    refine br_t hm ⟨it', ?_⟩
    by_cases hm' : mp (5 * i' + j') = 0
    · have es' := cm_un T (t := 5 * i' + j') (by omega) hm'
      have el' : st (5 * i' + j') < 0 := by rw [es']; decide
      refine br_t hm' ?_
      exact cm_yag hi hj e hi' hj' e' (fun z => absurd z ha) (fun _ z => absurd z hb) (fun _ _ z => absurd el z) (fun _ _ _ _ => ⟨rfl, J⟩) (fun _ _ _ z => absurd el' z) (fun _ _ _ z => absurd el' z)
    · obtain ⟨eop, s, hs, eo, es'⟩ := cm_ma T (t := 5 * i' + j') (by omega) hm'
      have el' : ¬ st (5 * i' + j') < 0 := by rw [es']; exact nI_pos (by omega)
      refine br_f hm' ⟨it', ?_⟩
      rw [eop]
      by_cases ho : op (5 * i' + j') = 0
      · refine br_t ho ?_
        exact cm_yag hi hj e hi' hj' e' (fun z => absurd z ha) (fun _ z => absurd z hb) (fun _ _ z => absurd el z) (fun _ _ _ z => absurd z el') (fun _ _ _ _ _ => ⟨rfl, J⟩) (fun _ _ _ _ z => absurd ho z)
      · refine br_f ho ⟨it', ?_⟩
        rw [eo]
        refine cm_xpl (by omega) ?_
        dsimp only
        refine cm_yag hi hj e hi' hj' e' (fun z => absurd z ha) (fun _ z => absurd z hb) (fun _ _ z => absurd el z) (fun _ _ _ z => absurd z el') (fun _ _ _ _ z => absurd z ho) (fun _ _ _ _ _ => ?_)
        rw [es']
        exact ⟨rfl, _, _, _, _, _, _, _, _, rfl, rfl, cm_put T hs _, cm_D_put D hj ha _⟩
  · obtain ⟨_, s, hs, eo, es⟩ := cm_ma T (t := 5 * i + j) (by omega) hm
    have el : ¬ st (5 * i + j) < 0 := by rw [es]; exact nI_pos (by omega)
    refine br_f hm ?_
    exact cm_yag hi hj e hi' hj' e' (fun z => absurd z ha) (fun _ z => absurd z hb) (fun _ _ _ => ⟨rfl, J⟩) (fun _ _ z => absurd z el) (fun _ _ z => absurd z el) (fun _ _ z => absurd z el)
end
section
section
variable {fr : Int32} {al : Nat → Int32}
/-- one page copied, on both sides -/
theorem cm_cp {mp sh so va st op : Nat → Int32} (T : cm_T mp sh so st op) {a b : Nat} (ha : a < 20) (hb : b < 20) (hm : ¬ mp a = 0) (hn : mp b = 0) :
    ∃ sh' so' va' st' op' : Nat → Int32, cm_T (upd mp b (vp_nar .boolean 1)) sh' so' st' op'
      ∧ (∀ post : SX → Prop, post (fr, al, upd mp b (vp_nar .boolean 1), sh', so', va') → wpX_copyPage post (fr, al, mp, sh, so, va) (nI a) (nI b))
      ∧ (∀ post : SY → Prop, post (al, st', op', va') → wpY_copyPage post (al, st, op, va) (nI a) (nI b)) := by
  have ia : vp_in (nI a) 20 := vp_in_nI ha (by decide)
  have ca : (nI a).toNatClampNeg = a := nI_clamp (by omega)
  obtain ⟨eop, o, ho, eo, es⟩ := cm_ma T ha hm
  have en := cm_un T hb hn
  have hf := cm_f_le st 19 0
  by_cases z : op a = 0
  · refine ⟨_, _, cm_cpy o (cm_f st 19 0) 4 0 va, _, _, cm_put T (t := b) (s := cm_f st 19 0) (by omega) (vp_nar .boolean (op a)), fun post hp => ?_, fun post hp => ?_⟩
    · unfold wpX_copyPage
      dsimp only
      rw [ca, eop, eo]
      refine ⟨ia, nm_e ⟨ia, br_t z ?_⟩⟩
      refine cm_xy T ho ?_
      dsimp only
      refine ⟨ia, ?_⟩
      rw [ca, eop]
      refine cm_xpl hb ?_
      exact hp
    · unfold wpY_copyPage
      dsimp only
      refine ⟨ia, nm_e ⟨ia, br_t (by rw [ca]; exact z) ?_⟩⟩
      refine cm_yn hb en ?_
      exact ⟨4 + 1, cm_yc_l ha hb ho (by omega) es 4 0 va rfl hp⟩
  · refine ⟨_, _, va, _, _, cm_put T (t := b) (s := o) ho (vp_nar .boolean (op a)), fun post hp => ?_, fun post hp => ?_⟩
    · unfold wpX_copyPage
      dsimp only
      rw [ca, eop, eo]
      refine ⟨ia, nm_e ⟨ia, br_f z ?_⟩⟩
      refine ⟨ia, ?_⟩
      rw [ca, eop]
      refine cm_xpl hb ?_
      exact hp
    · unfold wpY_copyPage
      dsimp only
      refine ⟨ia, nm_r (e' := nI o) (by rw [ca, es]) ⟨ia, br_f (by rw [ca]; exact z) ?_⟩⟩
      exact cm_yc_e ha hb hp
/-- the pages from j on, on both sides -/
theorem cm_fk {p q : Nat} (hp : p < 4) (hq : q < 4) (hal : ¬ al q = 0) : ∀ d j c (mp sh so va st op : Nat → Int32), j + d = 5 → cm_T mp sh so st op → cm_D al mp → (∀ j', j ≤ j' → j' < 5 → mp (5 * q + j') = 0) →
    ∃ (c' : Nat) (mp' sh' so' va' st' op' : Nat → Int32), cm_T mp' sh' so' st' op' ∧ cm_D al mp'
      ∧ (∀ post : Int32 → SX → Prop, post (nI c') (fr, al, mp', sh', so', va') → wX_fork_52 post (nI p) (nI q) (d + 1) (nI c) (nI j) fr al mp sh so va)
      ∧ (∀ post : Int32 → SY → Prop, post (nI c') (al, st', op', va') → wY_fork_54 post (nI p) (nI q) (d + 1) (nI c) (nI j) al st op va) := by
  intro d
  induction d with
  | zero =>
    intro j c mp sh so va st op hj T D U
    exact ⟨c, mp, sh, so, va, st, op, T, D, fun post h => br_t (nI_le (a := 5) (by omega) (by omega)) h, fun post h => br_t (nI_le (a := 5) (by omega) (by omega)) h⟩
  | succ d ih =>
    intro j c mp sh so va st op hj T D U
    have hge : ¬ (5 : Int32) ≤ nI j := nI_ge (b := 5) (by omega) (by decide)
    have it : vp_in (nI (5 * p + j)) 20 := vp_in_nI (by omega) (by decide)
    have ct : (nI (5 * p + j)).toNatClampNeg = 5 * p + j := nI_clamp (by omega)
    by_cases hm : mp (5 * p + j) = 0
    · have es := cm_un T (t := 5 * p + j) (by omega) hm
      obtain ⟨c', mp', sh', so', va', st', op', T', D', hX, hY⟩ := ih (j + 1) c mp sh so va st op (by omega) T D (fun j' h1 h2 => U j' (by omega) h2)
      refine ⟨c', mp', sh', so', va', st', op', T', D', fun post h => ?_, fun post h => ?_⟩
      · refine br_f hge (nm_r (cm_i5 p j) ⟨it, br_t (by rw [ct]; exact hm) (nm_r (nI_1 j) (hX post h))⟩)
      · refine br_f hge ?_
        rw [cm_i5, cm_i5]
        exact ⟨it, br_t (by rw [ct, es]; decide) (nm_r (nI_1 j) (hY post h))⟩
    · obtain ⟨_, o, ho, eo, es⟩ := cm_ma T (t := 5 * p + j) (by omega) hm
      obtain ⟨sh1, so1, va1, st1, op1, T1, hX1, hY1⟩ := cm_cp (fr := fr) (al := al) (va := va) T (a := 5 * p + j) (b := 5 * q + j) (by omega) (by omega) hm (U j (by omega) (by omega))
      obtain ⟨c', mp', sh', so', va', st', op', T', D', hX, hY⟩ := ih (j + 1) (c + 1) (upd mp (5 * q + j) (vp_nar .boolean 1)) sh1 so1 va1 st1 op1 (by omega) T1 (cm_D_put D (by omega) hal _) (fun j' h1 h2 => by rw [pk_un (by omega)]; exact U j' (by omega) h2)
      refine ⟨c', mp', sh', so', va', st', op', T', D', fun post h => ?_, fun post h => ?_⟩
      · refine br_f hge (nm_r (cm_i5 p j) ⟨it, br_f (by rw [ct]; exact hm) ?_⟩)
        rw [cm_i5]
        refine hX1 _ ?_
        exact nm_r (nI_1 c) (nm_r (nI_1 j) (hX post h))
      · refine br_f hge ?_
        rw [cm_i5, cm_i5]
        refine ⟨it, br_f (by rw [ct, es]; exact nI_pos (by omega)) ?_⟩
        refine hY1 _ ?_
        exact nm_r (nI_1 c) (nm_r (nI_1 j) (hY post h))
end
theorem i_vc_fork {k : Nat} {u : SX} {v : SY} (I : i_Rel k u v) (hk : k + 4 ≤ 2049) (v1 : Int32) (v2 : Int32) : wpX_fork (fun r u' => wpY_fork (fun r' v' => r' = r ∧ i_Rel (k + 4) u' v') v v1 v2) u v1 v2 := by
  obtain ⟨fr, al, mp, sh, so, va, st, op, rfl, rfl, T, D⟩ := I
  have J : i_Rel (k + 4) (fr, al, mp, sh, so, va) (al, st, op, va) := ⟨_, _, _, _, _, _, _, _, rfl, rfl, T, D⟩
  have hbad1 : (v1 < 0 ∨ nI 4 ≤ v1) → wpX_fork (fun r u' => wpY_fork (fun r' v' => r' = r ∧ i_Rel (k + 4) u' v') (al, st, op, va) v1 v2) (fr, al, mp, sh, so, va) v1 v2 := by
    intro h
    unfold wpX_fork
    dsimp only
    refine cm_xp0 h ?_
    refine br_t rfl ?_
    unfold wpY_fork
    dsimp only
    refine cm_yp0 h ?_
    exact br_t rfl ⟨rfl, J⟩
  rcases pk_ix v1 (n := 4) (by decide) with h | h | ⟨p, hp, rfl⟩
  · exact hbad1 (Or.inl h)
  · exact hbad1 (Or.inr h)
  have hbad2 : (v2 < 0 ∨ nI 4 ≤ v2) → wpX_fork (fun r u' => wpY_fork (fun r' v' => r' = r ∧ i_Rel (k + 4) u' v') (al, st, op, va) (nI p) v2) (fr, al, mp, sh, so, va) (nI p) v2 := by
    intro h
    unfold wpX_fork
    dsimp only
    refine cm_xp1 hp ?_
    refine br_f cm_10 ?_
    refine cm_xp0 h ?_
    refine br_t rfl ?_
    unfold wpY_fork
    dsimp only
    refine cm_yp1 hp ?_
    refine br_f cm_10 ?_
    refine cm_yp0 h ?_
    exact br_t rfl ⟨rfl, J⟩
  rcases pk_ix v2 (n := 4) (by decide) with h | h | ⟨q, hq, rfl⟩
  · exact hbad2 (Or.inl h)
  · exact hbad2 (Or.inr h)
  have cp : (nI p).toNatClampNeg = p := nI_clamp (by omega)
  have ip : vp_in (nI p) 4 := vp_in_nI hp (by decide)
  have cq : (nI q).toNatClampNeg = q := nI_clamp (by omega)
  have iq : vp_in (nI q) 4 := vp_in_nI hq (by decide)
  unfold wpX_fork
  dsimp only
  refine cm_xp1 hp ?_
  refine br_f cm_10 ?_
  refine cm_xp1 hq ?_
  refine br_f cm_10 ⟨ip, ?_⟩
  by_cases ha : al p = 0
  · refine br_t (by rw [cp]; exact ha) ?_
    unfold wpY_fork
    dsimp only
    refine cm_yp1 hp ?_
    refine br_f cm_10 ?_
    refine cm_yp1 hq ?_
    exact br_f cm_10 ⟨ip, br_t (by rw [cp]; exact ha) ⟨rfl, J⟩⟩
  refine br_f (by rw [cp]; exact ha) ⟨iq, ?_⟩
  by_cases hb : al q = 0
  · have hal : ¬ upd al q (vp_nar .boolean 1) q = 0 := by rw [pk_us]; exact cm_nar1
    have D1 : cm_D (upd al q (vp_nar .boolean 1)) mp := by
      intro i j hi hj h
      by_cases e : i = q
      · exact absurd (e ▸ h) hal
      · rw [pk_un e] at h
        exact D i j hi hj h
    obtain ⟨c', mp', sh', so', va', st', op', T', D', hX, hY⟩ := cm_fk (fr := fr) hp hq hal 5 0 0 mp sh so va st op rfl T D1 (fun j' _ h => D q j' hq h hb)
    refine br_t (by rw [cq]; exact hb) ⟨iq, nm_r (by rw [cq]) ⟨5 + 1, hX _ ?_⟩⟩
    unfold wpY_fork
    dsimp only
    refine cm_yp1 hp ?_
    refine br_f cm_10 ?_
    refine cm_yp1 hq ?_
    refine br_f cm_10 ⟨ip, br_f (by rw [cp]; exact ha) ⟨iq, br_t (by rw [cq]; exact hb) ⟨iq, nm_r (by rw [cq]) ⟨5 + 1, hY _ ?_⟩⟩⟩⟩
    exact ⟨rfl, _, _, _, _, _, _, _, _, rfl, rfl, T', D'⟩
  · refine br_f (by rw [cq]; exact hb) ?_
    unfold wpY_fork
    dsimp only
    refine cm_yp1 hp ?_
    refine br_f cm_10 ?_
    refine cm_yp1 hq ?_
    exact br_f cm_10 ⟨ip, br_f (by rw [cp]; exact ha) ⟨iq, br_f (by rw [cq]; exact hb) ⟨rfl, J⟩⟩⟩
end
section
section
variable {fr : Int32} {al al1 sh so va op : Nat → Int32}
theorem cm_ex {p : Nat} (hp : p < 4) : ∀ d j c (mp st : Nat → Int32), j + d = 5 → cm_T mp sh so st op → (∀ i j', i < 4 → j' < 5 → i ≠ p → al i = 0 → mp (5 * i + j') = 0) → (∀ j', j' < j → mp (5 * p + j') = 0) →
    ∃ (c' : Nat) (mp' st' : Nat → Int32), cm_T mp' sh so st' op ∧ cm_D (upd al p (vp_nar .boolean 0)) mp'
      ∧ (∀ post : Int32 → SX → Prop, post (nI c') (fr, al1, mp', sh, so, va) → wX_exit_32 post (nI p) fr (d + 1) (nI c) (nI j) al1 mp sh so va)
      ∧ (∀ post : Int32 → SY → Prop, post (nI c') (upd al p (vp_nar .boolean 0), st', op, va) → wY_exit_26 post (nI p) (d + 1) (nI c) (nI j) al st op va) := by
  intro d
  induction d with
  | zero =>
    intro j c mp st hj T E F
    have cp : (nI p).toNatClampNeg = p := nI_clamp (by omega)
    have ip : vp_in (nI p) 4 := vp_in_nI hp (by decide)
    refine ⟨c, mp, st, T, ?_, fun post h => br_t (nI_le (a := 5) (by omega) (by omega)) h, fun post h => br_t (nI_le (a := 5) (by omega) (by omega)) ⟨ip, nm_r (by rw [cp]) h⟩⟩
    intro i j' hi hj' h
    by_cases e : i = p
    · rw [e]; exact F j' (by omega)
    · rw [pk_un e] at h
      exact E i j' hi hj' e h
  | succ d ih =>
    intro j c mp st hj T E F
    have hge : ¬ (5 : Int32) ≤ nI j := nI_ge (b := 5) (by omega) (by decide)
    have it : vp_in (nI (5 * p + j)) 20 := vp_in_nI (by omega) (by decide)
    have ct : (nI (5 * p + j)).toNatClampNeg = 5 * p + j := nI_clamp (by omega)
    have it2 : vp_in (5 * nI p + nI j) 20 := by rw [cm_i5]; exact it
    have ct2 : (5 * nI p + nI j).toNatClampNeg = 5 * p + j := by rw [cm_i5]; exact ct
    by_cases hm : mp (5 * p + j) = 0
    · have es := cm_un T (t := 5 * p + j) (by omega) hm
      obtain ⟨c', mp', st', T', D', hX, hY⟩ := ih (j + 1) c mp (upd st (5 * p + j) (-1)) (by omega) (cm_drop0 T hm) E (fun j' h => by
        by_cases e : j' = j
        · rw [e]; exact hm
        · exact F j' (by omega))
      refine ⟨c', mp', st', T', D', fun post h => ?_, fun post h => ?_⟩
      · exact br_f hge (nm_r (cm_i5 p j) ⟨it, br_t (by rw [ct]; exact hm) (nm_r (nI_1 j) (hX post h))⟩)
      · exact br_f hge ⟨it2, br_t (by rw [ct2, es]; decide) ⟨it2, nm_r (by rw [ct2]) (nm_r (nI_1 j) (hY post h))⟩⟩
    · obtain ⟨_, o, ho, eo, es⟩ := cm_ma T (t := 5 * p + j) (by omega) hm
      obtain ⟨c', mp', st', T', D', hX, hY⟩ := ih (j + 1) (c + 1) (upd mp (5 * p + j) (vp_nar .boolean 0)) (upd st (5 * p + j) (-1)) (by omega) (cm_drop T)
        (fun i j' hi hj' hne h => by rw [pk_un (by omega)]; exact E i j' hi hj' hne h)
        (fun j' h => by
          by_cases e : j' = j
          · rw [e, pk_us]; exact cm_nar0
          · rw [pk_un (by omega)]; exact F j' (by omega))
      refine ⟨c', mp', st', T', D', fun post h => ?_, fun post h => ?_⟩
      · exact br_f hge (nm_r (cm_i5 p j) ⟨it, br_f (by rw [ct]; exact hm) ⟨it, nm_r (by rw [ct]) (nm_r (nI_1 c) (nm_r (nI_1 j) (hX post h)))⟩⟩)
      · exact br_f hge ⟨it2, br_f (by rw [ct2, es]; exact nI_pos (by omega)) (nm_r (nI_1 c) ⟨it2, nm_r (by rw [ct2]) (nm_r (nI_1 j) (hY post h))⟩)⟩
end
theorem i_vc_exit {k : Nat} {u : SX} {v : SY} (I : i_Rel k u v) (hk : k + 4 ≤ 2049) (v1 : Int32) : wpX_exit (fun r u' => wpY_exit (fun r' v' => r' = r ∧ i_Rel (k + 4) u' v') v v1) u v1 := by
  obtain ⟨fr, al, mp, sh, so, va, st, op, rfl, rfl, T, D⟩ := I
  have J : i_Rel (k + 4) (fr, al, mp, sh, so, va) (al, st, op, va) := ⟨_, _, _, _, _, _, _, _, rfl, rfl, T, D⟩
  have hbad1 : (v1 < 0 ∨ nI 4 ≤ v1) → wpX_exit (fun r u' => wpY_exit (fun r' v' => r' = r ∧ i_Rel (k + 4) u' v') (al, st, op, va) v1) (fr, al, mp, sh, so, va) v1 := by
    intro h
    unfold wpX_exit
    dsimp only
    refine cm_xp0 h ?_
    refine br_t rfl ?_
    unfold wpY_exit
    dsimp only
    refine cm_yp0 h ?_
    exact br_t rfl ⟨rfl, J⟩
  rcases pk_ix v1 (n := 4) (by decide) with h | h | ⟨p, hp, rfl⟩
  · exact hbad1 (Or.inl h)
  · exact hbad1 (Or.inr h)
  have cp : (nI p).toNatClampNeg = p := nI_clamp (by omega)
  have ip : vp_in (nI p) 4 := vp_in_nI hp (by decide)
  unfold wpX_exit
  dsimp only
  refine cm_xp1 hp ?_
  refine br_f cm_10 ⟨ip, ?_⟩
  by_cases ha : al p = 0
  · refine br_t (by rw [cp]; exact ha) ?_
    unfold wpY_exit
    dsimp only
    refine cm_yp1 hp ?_
    exact br_f cm_10 ⟨ip, br_t (by rw [cp]; exact ha) ⟨rfl, J⟩⟩
  obtain ⟨c', mp', st', T', D', hX, hY⟩ := cm_ex (fr := fr) (al := al) (al1 := upd al p (vp_nar .boolean 0)) (va := va) hp 5 0 0 mp st rfl T (fun i j' hi hj' _ h => D i j' hi hj' h) (fun j' h => absurd h (Nat.not_lt_zero j'))
  refine br_f (by rw [cp]; exact ha) ⟨ip, nm_r (by rw [cp]) ⟨5 + 1, hX _ ?_⟩⟩
  unfold wpY_exit
  dsimp only
  refine cm_yp1 hp ?_
  refine br_f cm_10 ⟨ip, br_f (by rw [cp]; exact ha) ⟨5 + 1, hY _ ?_⟩⟩
  exact ⟨rfl, _, _, _, _, _, _, _, _, rfl, rfl, T', D'⟩
end
section
section
variable {fr : Int32} {al mp sh so va st op : Nat → Int32}
theorem cm_sh_l (T : cm_T mp sh so st op) : ∀ d i c, i + d = 20 → ∃ r : Int32,
    (∀ post : Int32 → Prop, post r → wX_sheets_4 post fr al mp sh so va (d + 1) (nI c) (nI i))
    ∧ (∀ post : Int32 → Prop, post r → wY_sheets_4 post al st op va (d + 1) (nI c) (nI i)) := by
  intro d
  induction d with
  | zero =>
    intro i c hi
    exact ⟨nI c, fun _ h => br_t (nI_le (a := 20) (by omega) (by omega)) h, fun _ h => br_t (nI_le (a := 20) (by omega) (by omega)) h⟩
  | succ d ih =>
    intro i c hi
    have hge : ¬ (20 : Int32) ≤ nI i := nI_ge (b := 20) (by omega) (by decide)
    have hle := cm_c_le st (nI i) 20 0
    by_cases z : cm_c st (nI i) 20 0 = 0
    · obtain ⟨r, hX, hY⟩ := ih (i + 1) c (by omega)
      refine ⟨r, fun post h => br_f hge (cm_xs T (by omega) ?_), fun post h => br_f hge (cm_yu (fun _ => ?_) (fun y => absurd z y))⟩
      · rw [z]
        exact br_t (by decide) (nm_r (nI_1 i) (hX post h))
      · exact br_t rfl (nm_r (nI_1 i) (hY post h))
    · obtain ⟨r, hX, hY⟩ := ih (i + 1) (c + 1) (by omega)
      refine ⟨r, fun post h => br_f hge (cm_xs T (by omega) ?_), fun post h => br_f hge (cm_yu (fun y => absurd y z) (fun _ => ?_))⟩
      · exact br_f (nI_nle (by omega) (by omega)) (nm_r (nI_1 c) (nm_r (nI_1 i) (hX post h)))
      · exact br_f cm_10 (nm_r (nI_1 c) (nm_r (nI_1 i) (hY post h)))
theorem cm_yt_l {post : Int64 → Prop} {K : Int64 → Int32 → Prop} {s : Nat} (hs : s < 20) (z : ¬ cm_c st (nI s) 20 0 = 0) : ∀ d i (a : Int64), i + d = 4 → K (cm_sum va s d i a) (nI (s + 1)) → wY_total_13 post K (nI s) al st op va (d + 1) a (nI i) := by
  intro d
  induction d with
  | zero =>
    intro i a hi h
    exact br_t (nI_le (a := 4) (by omega) (by omega)) (nm_r (nI_1 s) h)
  | succ d ih =>
    intro i a hi h
    have hge : ¬ (4 : Int32) ≤ nI i := nI_ge (b := 4) (by omega) (by decide)
    have c1 := pk_cl (4 * s + i) (cm_i4 s i)
    refine br_f hge (cm_yu (fun y => absurd y z) (fun _ => ?_))
    exact br_f cm_10 ⟨pk_in (4 * s + i) 80 (by omega) (cm_i4 s i), nm_r (by rw [c1]) (nm_r (nI_1 i) (ih (i + 1) _ (by omega) h))⟩
theorem cm_yt_0 {post : Int64 → Prop} {K : Int64 → Int32 → Prop} {s : Nat} (z : cm_c st (nI s) 20 0 = 0) (a : Int64) (h : K a (nI (s + 1))) : ∀ d i, i + d = 4 → wY_total_13 post K (nI s) al st op va (d + 1) a (nI i) := by
  intro d
  induction d with
  | zero =>
    intro i hi
    exact br_t (nI_le (a := 4) (by omega) (by omega)) (nm_r (nI_1 s) h)
  | succ d ih =>
    intro i hi
    have hge : ¬ (4 : Int32) ≤ nI i := nI_ge (b := 4) (by omega) (by decide)
    refine br_f hge (cm_yu (fun _ => ?_) (fun y => absurd z y))
    exact br_t rfl (nm_r (nI_1 i) (ih (i + 1) (by omega)))
theorem cm_to_l (T : cm_T mp sh so st op) : ∀ d i (a : Int64), i + d = 20 → ∃ r : Int64,
    (∀ post : Int64 → Prop, post r → wX_total_4 post fr al mp sh so va (d + 1) a (nI i))
    ∧ (∀ post : Int64 → Prop, post r → wY_total_4 post al st op va (d + 1) a (nI i)) := by
  intro d
  induction d with
  | zero =>
    intro i a hi
    exact ⟨a, fun _ h => br_t (nI_le (a := 20) (by omega) (by omega)) h, fun _ h => br_t (nI_le (a := 20) (by omega) (by omega)) h⟩
  | succ d ih =>
    intro i a hi
    have hge : ¬ (20 : Int32) ≤ nI i := nI_ge (b := 20) (by omega) (by decide)
    have hle := cm_c_le st (nI i) 20 0
    by_cases z : cm_c st (nI i) 20 0 = 0
    · obtain ⟨r, hX, hY⟩ := ih (i + 1) a (by omega)
      refine ⟨r, fun post h => br_f hge (cm_xs T (by omega) ?_), fun post h => br_f hge ⟨4 + 1, cm_yt_0 z a (hY post h) 4 0 rfl⟩⟩
      rw [z]
      exact br_t (by decide) (nm_r (nI_1 i) (hX post h))
    · obtain ⟨r, hX, hY⟩ := ih (i + 1) (cm_sum va i 4 0 a) (by omega)
      refine ⟨r, fun post h => br_f hge (cm_xs T (by omega) ?_), fun post h => br_f hge ⟨4 + 1, cm_yt_l (by omega) z 4 0 a rfl (hY post h)⟩⟩
      refine br_f (nI_nle (by omega) (by omega)) ?_
      refine cm_xsum (by omega) ?_
      exact nm_r (by rw [cm_sum_add, Int64.add_zero]) (nm_r (nI_1 i) (hX post h))
end
theorem i_vc_total {k : Nat} {u : SX} {v : SY} (I : i_Rel k u v) (hk : k + 4 ≤ 2049) : wpX_total (fun r => wpY_total (fun r' => r' = r ∧ i_Rel (k + 4) u v) v) u := by
  have J : i_Rel (k + 4) u v := I
  obtain ⟨fr, al, mp, sh, so, va, st, op, rfl, rfl, T, D⟩ := I
  obtain ⟨r, hX, hY⟩ := cm_to_l (fr := fr) (al := al) (va := va) T 20 0 0 rfl
  exact ⟨20 + 1, hX _ ⟨20 + 1, hY _ ⟨rfl, J⟩⟩⟩
theorem i_vc_sheets {k : Nat} {u : SX} {v : SY} (I : i_Rel k u v) (hk : k + 4 ≤ 2049) : wpX_sheets (fun r => wpY_sheets (fun r' => r' = r ∧ i_Rel (k + 4) u v) v) u := by
  have J : i_Rel (k + 4) u v := I
  obtain ⟨fr, al, mp, sh, so, va, st, op, rfl, rfl, T, D⟩ := I
  obtain ⟨r, hX, hY⟩ := cm_sh_l (fr := fr) (al := al) (va := va) T 20 0 0 rfl
  exact ⟨20 + 1, hX _ ⟨20 + 1, hY _ ⟨rfl, J⟩⟩⟩
end
