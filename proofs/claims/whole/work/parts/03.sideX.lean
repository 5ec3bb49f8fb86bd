theorem cm_ltle {a b x : Int32} (hab : a < b) (h : b ≤ x) : a < x := by
  rw [Int32.lt_iff_toInt_lt] at *
  rw [Int32.le_iff_toInt_le] at h
  omega
theorem cm_xp0 {post : Int32 → Prop} {x : Int32} (h : x < 0 ∨ nI 4 ≤ x) (hp : post 0) : wpX_isProcess post x := by
  by_cases h0 : x < 0
  · exact br_t h0 hp
  · exact br_f h0 (br_t (h.resolve_left h0) hp)
theorem cm_xp1 {post : Int32 → Prop} {i : Nat} (h : i < 4) (hp : post 1) : wpX_isProcess post (nI i) :=
  br_f (nI_pos (by omega)) (br_f (nI_ge (b := 4) h (by decide)) hp)
theorem cm_xg0 {post : Int32 → Prop} {x : Int32} (h : x < 0 ∨ nI 5 ≤ x) (hp : post 0) : wpX_isPage post x := by
  by_cases h0 : x < 0
  · exact br_t h0 hp
  · exact br_f h0 (br_t (h.resolve_left h0) hp)
theorem cm_xg1 {post : Int32 → Prop} {i : Nat} (h : i < 5) (hp : post 1) : wpX_isPage post (nI i) :=
  br_f (nI_pos (by omega)) (br_f (nI_ge (b := 5) h (by decide)) hp)
theorem cm_10 : ¬ (1 : Int32) = 0 := by decide
section
variable {fr : Int32} {al mp sh so va st op : Nat → Int32} {post : Int32 → Prop}
theorem cm_xl0 {p q : Int32} (h : p < 0 ∨ nI 4 ≤ p) (hp : post (-1)) : wpX_liveSlot post (fr, al, mp, sh, so, va) p q := by
  unfold wpX_liveSlot
  dsimp only
  refine cm_xp0 h ?_
  exact br_t rfl hp
theorem cm_xl1 {i : Nat} {q : Int32} (hi : i < 4) (h : q < 0 ∨ nI 5 ≤ q) (hp : post (-1)) : wpX_liveSlot post (fr, al, mp, sh, so, va) (nI i) q := by
  unfold wpX_liveSlot
  dsimp only
  refine cm_xp1 hi ?_
  refine br_f cm_10 ?_
  refine cm_xg0 h ?_
  exact br_t rfl hp
theorem cm_xl2 {i j : Nat} (hi : i < 4) (hj : j < 5) (ha : al i = 0) (hp : post (-2)) : wpX_liveSlot post (fr, al, mp, sh, so, va) (nI i) (nI j) := by
  unfold wpX_liveSlot
  dsimp only
  refine cm_xp1 hi ?_
  refine br_f cm_10 ?_
  refine cm_xg1 hj ?_
  refine br_f cm_10 ⟨vp_in_nI hi (by decide), br_t ?_ hp⟩
  rw [nI_clamp (by omega)]; exact ha
theorem cm_xl3 {i j : Nat} (hi : i < 4) (hj : j < 5) (ha : ¬ al i = 0) (hp : post (nI (5 * i + j))) : wpX_liveSlot post (fr, al, mp, sh, so, va) (nI i) (nI j) := by
  unfold wpX_liveSlot
  dsimp only
  refine cm_xp1 hi ?_
  refine br_f cm_10 ?_
  refine cm_xg1 hj ?_
  refine br_f cm_10 ⟨vp_in_nI hi (by decide), br_f ?_ ?_⟩
  · rw [nI_clamp (by omega)]; exact ha
  · rw [cm_i5]; exact hp
theorem cm_xla {p q : Int32} (hp : ∀ r, post r) : wpX_liveSlot post (fr, al, mp, sh, so, va) p q := by
  rcases pk_ix p (n := 4) (by decide) with h | h | ⟨i, hi, rfl⟩
  · exact cm_xl0 (Or.inl h) (hp _)
  · exact cm_xl0 (Or.inr h) (hp _)
  · rcases pk_ix q (n := 5) (by decide) with h | h | ⟨j, hj, rfl⟩
    · exact cm_xl1 hi (Or.inl h) (hp _)
    · exact cm_xl1 hi (Or.inr h) (hp _)
    · by_cases ha : al i = 0
      · exact cm_xl2 hi hj ha (hp _)
      · exact cm_xl3 hi hj ha (hp _)
theorem cm_xm0 {p q : Int32} (h : p < 0 ∨ nI 4 ≤ p) (hp : post (-1)) : wpX_mappedSlot post (fr, al, mp, sh, so, va) p q := by
  unfold wpX_mappedSlot
  dsimp only
  refine cm_xl0 h ?_
  exact br_t (by decide) hp
theorem cm_xm1 {i : Nat} {q : Int32} (hi : i < 4) (h : q < 0 ∨ nI 5 ≤ q) (hp : post (-1)) : wpX_mappedSlot post (fr, al, mp, sh, so, va) (nI i) q := by
  unfold wpX_mappedSlot
  dsimp only
  refine cm_xl1 hi h ?_
  exact br_t (by decide) hp
theorem cm_xm2 {i j : Nat} (hi : i < 4) (hj : j < 5) (ha : al i = 0) (hp : post (-2)) : wpX_mappedSlot post (fr, al, mp, sh, so, va) (nI i) (nI j) := by
  unfold wpX_mappedSlot
  dsimp only
  refine cm_xl2 hi hj ha ?_
  exact br_t (by decide) hp
theorem cm_xm3 {i j : Nat} (hi : i < 4) (hj : j < 5) (ha : ¬ al i = 0) (hm : mp (5 * i + j) = 0) (hp : post (-3)) : wpX_mappedSlot post (fr, al, mp, sh, so, va) (nI i) (nI j) := by
  unfold wpX_mappedSlot
  dsimp only
  refine cm_xl3 hi hj ha ?_
  refine br_f (nI_pos (by omega)) ⟨vp_in_nI (by omega) (by decide), br_t ?_ hp⟩
  rw [nI_clamp (by omega)]; exact hm
theorem cm_xm4 {i j : Nat} (hi : i < 4) (hj : j < 5) (ha : ¬ al i = 0) (hm : ¬ mp (5 * i + j) = 0) (hp : post (nI (5 * i + j))) : wpX_mappedSlot post (fr, al, mp, sh, so, va) (nI i) (nI j) := by
  unfold wpX_mappedSlot
  dsimp only
  refine cm_xl3 hi hj ha ?_
  refine br_f (nI_pos (by omega)) ⟨vp_in_nI (by omega) (by decide), br_f ?_ hp⟩
  rw [nI_clamp (by omega)]; exact hm
theorem cm_xs_l (x : Int32) (H : ∀ t, t < 20 → ((¬ mp t = 0 ∧ so t = x) ↔ st t = x)) : ∀ d i c, i + d = 20 → post (nI (c + cm_c st x d i)) → wX_slotsShowing_4 post x fr al mp sh so va (d + 1) (nI c) (nI i) := by
  intro d
  induction d with
  | zero =>
    intro i c hi hp
    exact br_t (nI_le (a := 20) (by omega) (by omega)) hp
  | succ d ih =>
    intro i c hi hp
    have hc : (nI i).toNatClampNeg = i := nI_clamp (by omega)
    have hin : vp_in (nI i) 20 := vp_in_nI (by omega) (by decide)
    have hge : ¬ (20 : Int32) ≤ nI i := nI_ge (b := 20) (by omega) (by decide)
    have hH := H i (by omega)
    rw [cm_c] at hp
    by_cases m : mp i = 0
    · have hn : ¬ st i = x := fun z => (hH.mpr z).1 m
      rw [if_neg hn] at hp
      exact br_f hge ⟨hin, br_t (by rw [hc]; exact m) (nm_r (nI_1 i) (ih (i + 1) c (by omega) hp))⟩
    · by_cases e : so i = x
      · rw [if_pos (hH.mp ⟨m, e⟩), show c + (cm_c st x d (i + 1) + 1) = c + 1 + cm_c st x d (i + 1) from by omega] at hp
        exact br_f hge ⟨hin, br_f (by rw [hc]; exact m) ⟨hin, br_t (by rw [hc]; exact e) (nm_r (nI_1 c) (nm_r (nI_1 i) (ih (i + 1) (c + 1) (by omega) hp)))⟩⟩
      · have hn : ¬ st i = x := fun z => e (hH.mpr z).2
        rw [if_neg hn] at hp
        exact br_f hge ⟨hin, br_f (by rw [hc]; exact m) ⟨hin, br_f (by rw [hc]; exact e) (nm_r (nI_1 i) (ih (i + 1) c (by omega) hp))⟩⟩
theorem cm_xs (T : cm_T mp sh so st op) {s : Nat} (hs : s < 2 ^ 31) (hp : post (nI (cm_c st (nI s) 20 0))) : wpX_slotsShowing post (fr, al, mp, sh, so, va) (nI s) :=
  ⟨20 + 1, cm_xs_l (nI s) (fun _ ht => cm_iff T hs ht) 20 0 0 rfl (by rw [Nat.zero_add]; exact hp)⟩
theorem cm_xu_l (T : cm_T mp sh so st op) : ∀ d i, i + d = 19 → post (nI (cm_f st d i)) → wX_unshownSheet_2 post fr al mp sh so va (d + 1) (nI i) := by
  intro d
  induction d with
  | zero =>
    intro i hi hp
    exact br_t (nI_le (a := 19) (by omega) (by omega)) hp
  | succ d ih =>
    intro i hi hp
    have hge : ¬ (19 : Int32) ≤ nI i := nI_ge (b := 19) (by omega) (by decide)
    have hle := cm_c_le st (nI i) 20 0
    rw [cm_f] at hp
    refine br_f hge (cm_xs T (by omega) ?_)
    refine pk_le (cm_c st (nI i) 20 0) 0 (fun z => ?_) (fun z => ?_)
    · rw [if_pos (by omega)] at hp
      exact hp
    · rw [if_neg (by omega)] at hp
      exact nm_r (nI_1 i) (ih (i + 1) (by omega) hp)
theorem cm_xu (T : cm_T mp sh so st op) (hp : post (nI (cm_f st 19 0))) : wpX_unshownSheet post (fr, al, mp, sh, so, va) :=
  ⟨19 + 1, cm_xu_l T 19 0 rfl hp⟩
theorem cm_xc_l {post : SX → Prop} {s : Nat} (hs : s < 20) : ∀ d i (va : Nat → Int32), i + d = 4 → post (fr, al, mp, sh, so, cm_clr s d i va) → wX_clearSheet_2 post (nI s) fr (d + 1) (nI i) al mp sh so va := by
  intro d
  induction d with
  | zero =>
    intro i va hi hp
    exact br_t (nI_le (a := 4) (by omega) (by omega)) hp
  | succ d ih =>
    intro i va hi hp
    have hge : ¬ (4 : Int32) ≤ nI i := nI_ge (b := 4) (by omega) (by decide)
    exact br_f hge ⟨pk_in (4 * s + i) 80 (by omega) (cm_i4 s i), nm_r (congrArg (fun z => upd va z 0) (pk_cl (4 * s + i) (cm_i4 s i))) (nm_r (nI_1 i) (ih (i + 1) _ (by omega) hp))⟩
theorem cm_xc {post : SX → Prop} {s : Nat} (hs : s < 20) (hp : post (fr, al, mp, sh, so, cm_clr s 4 0 va)) : wpX_clearSheet post (fr, al, mp, sh, so, va) (nI s) :=
  ⟨4 + 1, cm_xc_l hs 4 0 va rfl hp⟩
theorem cm_xpl {post : SX → Prop} {t : Nat} (ht : t < 20) {x b : Int32} (hp : post (fr, al, upd mp t (vp_nar .boolean 1), upd sh t (vp_nar .boolean b), upd so t x, va)) : wpX_placeSheet post (fr, al, mp, sh, so, va) (nI t) x b := by
  have hc : (nI t).toNatClampNeg = t := nI_clamp (by omega)
  have hin : vp_in (nI t) 20 := vp_in_nI ht (by decide)
  exact ⟨hin, nm_r (congrArg (fun z => upd mp z (vp_nar .boolean 1)) hc) ⟨hin, nm_r (congrArg (fun z => upd sh z (vp_nar .boolean b)) hc) ⟨hin, nm_r (congrArg (fun z => upd so z x) hc) hp⟩⟩⟩
theorem cm_xy_l {post : Int32 → SX → Prop} {o s : Nat} (ho : o < 20) (hs : s < 20) : ∀ d i (va : Nat → Int32), i + d = 4 → post (nI s) (fr, al, mp, sh, so, cm_cpy o s d i va) → wX_copySheet_7 post (nI o) (nI s) fr (d + 1) (nI i) al mp sh so va := by
  intro d
  induction d with
  | zero =>
    intro i va hi hp
    exact br_t (nI_le (a := 4) (by omega) (by omega)) hp
  | succ d ih =>
    intro i va hi hp
    have hge : ¬ (4 : Int32) ≤ nI i := nI_ge (b := 4) (by omega) (by decide)
    have c1 := pk_cl (4 * s + i) (cm_i4 s i)
    have c2 := pk_cl (4 * o + i) (cm_i4 o i)
    exact br_f hge ⟨pk_in (4 * o + i) 80 (by omega) (cm_i4 o i), pk_in (4 * s + i) 80 (by omega) (cm_i4 s i), nm_r (by rw [c1, c2]) (nm_r (nI_1 i) (ih (i + 1) _ (by omega) hp))⟩
theorem cm_xy {post : Int32 → SX → Prop} (T : cm_T mp sh so st op) {o : Nat} (ho : o < 20) (hp : post (nI (cm_f st 19 0)) (fr, al, mp, sh, so, cm_cpy o (cm_f st 19 0) 4 0 va)) : wpX_copySheet post (fr, al, mp, sh, so, va) (nI o) := by
  have hf := cm_f_le st 19 0
  unfold wpX_copySheet
  dsimp only
  refine cm_xu T ?_
  exact ⟨4 + 1, cm_xy_l ho (by omega) 4 0 va rfl hp⟩
theorem cm_xsum_l {post : Int64 → Prop} {s : Nat} (hs : s < 20) : ∀ d i (a : Int64), i + d = 4 → post (cm_sum va s d i a) → wX_sheetSum_5 post (nI s) fr al mp sh so va (d + 1) a (nI i) := by
  intro d
  induction d with
  | zero =>
    intro i a hi hp
    exact br_t (nI_le (a := 4) (by omega) (by omega)) hp
  | succ d ih =>
    intro i a hi hp
    have hge : ¬ (4 : Int32) ≤ nI i := nI_ge (b := 4) (by omega) (by decide)
    have c1 := pk_cl (4 * s + i) (cm_i4 s i)
    exact br_f hge ⟨pk_in (4 * s + i) 80 (by omega) (cm_i4 s i), nm_r (by rw [c1]) (nm_r (nI_1 i) (ih (i + 1) _ (by omega) hp))⟩
theorem cm_xsum {post : Int64 → Prop} {s : Nat} (hs : s < 20) (hp : post (cm_sum va s 4 0 0)) : wpX_sheetSum post (fr, al, mp, sh, so, va) (nI s) :=
  ⟨4 + 1, cm_xsum_l hs 4 0 0 rfl hp⟩
end
