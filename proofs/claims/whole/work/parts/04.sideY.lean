section
variable {al st op ce : Nat → Int32} {post : Int32 → Prop}
theorem cm_yp0 {u : SY} {x : Int32} (h : x < 0 ∨ nI 4 ≤ x) (hp : post 0) : wpY_isProcess post u x := by
  obtain ⟨al, st, op, ce⟩ := u
  by_cases h0 : x < 0
  · exact br_t h0 hp
  · exact br_f h0 (br_t (cm_ltle (b := nI 4) (by decide) (h.resolve_left h0)) hp)
theorem cm_yp1 {u : SY} {i : Nat} (h : i < 4) (hp : post 1) : wpY_isProcess post u (nI i) := by
  obtain ⟨al, st, op, ce⟩ := u
  exact br_f (nI_pos (by omega)) (br_f (nI_nlt (a := 3) (by omega) (by decide)) hp)
theorem cm_yg0 {u : SY} {x : Int32} (h : x < 0 ∨ nI 5 ≤ x) (hp : post 0) : wpY_isPage post u x := by
  obtain ⟨al, st, op, ce⟩ := u
  by_cases h0 : x < 0
  · exact br_t h0 hp
  · exact br_f h0 (br_t (cm_ltle (b := nI 5) (by decide) (h.resolve_left h0)) hp)
theorem cm_yg1 {u : SY} {i : Nat} (h : i < 5) (hp : post 1) : wpY_isPage post u (nI i) := by
  obtain ⟨al, st, op, ce⟩ := u
  exact br_f (nI_pos (by omega)) (br_f (nI_nlt (a := 4) (by omega) (by decide)) hp)
theorem cm_yu_l (x : Int32) : ∀ d i, i + d = 20 → (cm_c st x d i = 0 → post 0) → (cm_c st x d i ≠ 0 → post 1) → wY_used_2 post x al st op ce (d + 1) (nI i) := by
  intro d
  induction d with
  | zero =>
    intro i hi h0 h1
    exact br_t (nI_le (a := 20) (by omega) (by omega)) (h0 rfl)
  | succ d ih =>
    intro i hi h0 h1
    have hc : (nI i).toNatClampNeg = i := nI_clamp (by omega)
    have hin : vp_in (nI i) 20 := vp_in_nI (by omega) (by decide)
    have hge : ¬ (20 : Int32) ≤ nI i := nI_ge (b := 20) (by omega) (by decide)
    by_cases e : st i = x
    · have ec : cm_c st x (d + 1) i = cm_c st x d (i + 1) + 1 := by rw [cm_c, if_pos e]
      exact br_f hge ⟨hin, br_t (by rw [hc]; exact e) (h1 (by omega))⟩
    · have ec : cm_c st x (d + 1) i = cm_c st x d (i + 1) := by rw [cm_c, if_neg e]
      rw [ec] at h0 h1
      exact br_f hge ⟨hin, br_f (by rw [hc]; exact e) (nm_r (nI_1 i) (ih (i + 1) (by omega) h0 h1))⟩
theorem cm_yu {x : Int32} (h0 : cm_c st x 20 0 = 0 → post 0) (h1 : cm_c st x 20 0 ≠ 0 → post 1) : wpY_used post (al, st, op, ce) x :=
  ⟨20 + 1, cm_yu_l x 20 0 rfl h0 h1⟩
theorem cm_yn_l : ∀ d i, i + d = 19 → (∃ s, i ≤ s ∧ s < 20 ∧ cm_c st (nI s) 20 0 = 0) → post (nI (cm_f st d i)) → wY_newSheet_2 post al st op ce (d + 2) (nI i) := by
  intro d
  induction d with
  | zero =>
    intro i hi hs hp
    have hge : ¬ (20 : Int32) ≤ nI i := nI_ge (b := 20) (by omega) (by decide)
    obtain ⟨s, h1, h2, h3⟩ := hs
    have e : s = i := by omega
    subst e
    exact br_f hge (cm_yu (fun _ => br_t rfl hp) (fun z => absurd h3 z))
  | succ d ih =>
    intro i hi hs hp
    have hge : ¬ (20 : Int32) ≤ nI i := nI_ge (b := 20) (by omega) (by decide)
    rw [cm_f] at hp
    refine br_f hge (cm_yu (fun z => ?_) (fun z => ?_))
    · rw [if_pos z] at hp
      exact br_t rfl hp
    · rw [if_neg z] at hp
      obtain ⟨s, h1, h2, h3⟩ := hs
      have hne : s ≠ i := fun y => z (y ▸ h3)
      exact br_f cm_10 (nm_r (nI_1 i) (ih (i + 1) (by omega) ⟨s, by omega, h2, h3⟩ hp))
theorem cm_yn {t : Nat} (ht : t < 20) (e : st t = -1) (hp : post (nI (cm_f st 19 0))) : wpY_newSheet post (al, st, op, ce) :=
  ⟨19 + 2, cm_yn_l 19 0 rfl (cm_free st t ht e) hp⟩
theorem cm_ym_l {post : Int32 → SY → Prop} {i j s : Nat} {b : Int32} (hi : i < 4) (hj : j < 5) (hs : s < 20) : ∀ d c (ce : Nat → Int32), c + d = 4 → post (nI j) (al, upd st (5 * i + j) (nI s), upd op (5 * i + j) (vp_nar .boolean b), cm_clr s d c ce) → wY_map_55 post (nI i) (nI j) b (nI s) (d + 1) (nI c) al st op ce := by
  intro d
  induction d with
  | zero =>
    intro c ce hc hp
    have hin := pk_in (5 * i + j) 20 (by omega) (cm_i5 i j)
    have c1 := pk_cl (5 * i + j) (cm_i5 i j)
    exact br_t (nI_le (a := 4) (by omega) (by omega)) ⟨hin, nm_r (by rw [c1]) ⟨hin, nm_r (by rw [c1]) hp⟩⟩
  | succ d ih =>
    intro c ce hc hp
    have hge : ¬ (4 : Int32) ≤ nI c := nI_ge (b := 4) (by omega) (by decide)
    have c1 := pk_cl (4 * s + c) (cm_i4 s c)
    exact br_f hge ⟨pk_in (4 * s + c) 80 (by omega) (cm_i4 s c), nm_r (by rw [c1]) (nm_r (nI_1 c) (ih (c + 1) _ (by omega) hp))⟩
theorem cm_yc_e {post : SY → Prop} {a b : Nat} {x : Int32} (ha : a < 20) (hb : b < 20) (hp : post (al, upd st b x, upd op b (vp_nar .boolean (op a)), ce)) : wY_copyPage_63 post (nI a) (nI b) x al st op ce := by
  have ca : (nI a).toNatClampNeg = a := nI_clamp (by omega)
  have cb : (nI b).toNatClampNeg = b := nI_clamp (by omega)
  have ia : vp_in (nI a) 20 := vp_in_nI ha (by decide)
  have ib : vp_in (nI b) 20 := vp_in_nI hb (by decide)
  exact ⟨ib, nm_r (by rw [cb]) ⟨ia, ib, nm_r (by rw [ca, cb]) hp⟩⟩
theorem cm_yc_l {post : SY → Prop} {a b o s : Nat} (ha : a < 20) (hb : b < 20) (ho : o < 20) (hs : s < 20) (eo : st a = nI o) : ∀ d c (ce : Nat → Int32), c + d = 4 → post (al, upd st b (nI s), upd op b (vp_nar .boolean (op a)), cm_cpy o s d c ce) → wY_copyPage_24 post (nI a) (nI b) (nI s) (d + 1) (nI c) al st op ce := by
  intro d
  induction d with
  | zero =>
    intro c ce hc hp
    exact br_t (nI_le (a := 4) (by omega) (by omega)) (cm_yc_e ha hb hp)
  | succ d ih =>
    intro c ce hc hp
    have hge : ¬ (4 : Int32) ≤ nI c := nI_ge (b := 4) (by omega) (by decide)
    have ca : (nI a).toNatClampNeg = a := nI_clamp (by omega)
    have ia : vp_in (nI a) 20 := vp_in_nI ha (by decide)
    have e1 : (4 : Int32) * st (nI a).toNatClampNeg + nI c = nI (4 * o + c) := by rw [ca, eo, cm_i4]
    have c1 := pk_cl (4 * s + c) (cm_i4 s c)
    have c2 := pk_cl (4 * o + c) e1
    exact br_f hge ⟨ia, pk_in (4 * o + c) 80 (by omega) e1, pk_in (4 * s + c) 80 (by omega) (cm_i4 s c), nm_r (by rw [c1, c2]) (nm_r (nI_1 c) (ih (c + 1) _ (by omega) hp))⟩
theorem cm_ysh_l {i j : Nat} {x : Int32} (hi : i < 4) (hj : j < 5) (ex : st (5 * i + j) = x) : ∀ d t c, t + d = 20 → post (nI (c + cm_c st x d t)) → wY_showing_51 post (nI i) (nI j) al st op ce (d + 1) (nI c) (nI t) := by
  intro d
  induction d with
  | zero =>
    intro t c ht hp
    exact br_t (nI_le (a := 20) (by omega) (by omega)) hp
  | succ d ih =>
    intro t c ht hp
    have hc : (nI t).toNatClampNeg = t := nI_clamp (by omega)
    have hin : vp_in (nI t) 20 := vp_in_nI (by omega) (by decide)
    have hge : ¬ (20 : Int32) ≤ nI t := nI_ge (b := 20) (by omega) (by decide)
    have hin2 := pk_in (5 * i + j) 20 (by omega) (cm_i5 i j)
    have c1 := pk_cl (5 * i + j) (cm_i5 i j)
    rw [cm_c] at hp
    by_cases e : st t = x
    · rw [if_pos e, show c + (cm_c st x d (t + 1) + 1) = c + 1 + cm_c st x d (t + 1) from by omega] at hp
      exact br_f hge ⟨hin, hin2, br_t (by rw [hc, c1, ex]; exact e) (nm_r (nI_1 c) (nm_r (nI_1 t) (ih (t + 1) (c + 1) (by omega) hp)))⟩
    · rw [if_neg e] at hp
      exact br_f hge ⟨hin, hin2, br_f (by rw [hc, c1, ex]; exact e) (nm_r (nI_1 t) (ih (t + 1) c (by omega) hp))⟩
end
