def cm_XB (x : Int32) : Prop := (x >>> ((3 : Int32) &&& 31) < 0 ∨ nI 4 ≤ x >>> ((3 : Int32) &&& 31)) ∨ ∃ i, i < 4 ∧ x >>> ((3 : Int32) &&& 31) = nI i ∧ nI 5 ≤ x &&& 7
def cm_YB (x : Int32) : Prop := x < 0 ∨ 28 < x ∨ 4 < x - x / 8 * 8
/-- a packed page is refused on both sides, or is a page of a process -/
theorem cm_pack (x : Int32) : (cm_XB x ∧ cm_YB x) ∨ ∃ i j, i < 4 ∧ j < 5 ∧ x = nI (8 * i + j) := by
  by_cases h0 : x < 0
  · exact Or.inl ⟨Or.inl (Or.inl (cm_shneg 3 (by decide) h0)), Or.inl h0⟩
  · obtain ⟨n, hn, rfl⟩ := nI_of h0
    by_cases h1 : 32 ≤ n
    · refine Or.inl ⟨Or.inl (Or.inr ?_), Or.inr (Or.inl ?_)⟩
      · rw [cm_sh3 hn]
        exact nI_le (by omega) (by omega)
      · exact nI_lt (a := 28) (by omega) hn
    · by_cases h2 : n % 8 < 5
      · exact Or.inr ⟨n / 8, n % 8, by omega, h2, congrArg nI (by omega)⟩
      · refine Or.inl ⟨Or.inr ⟨n / 8, by omega, cm_sh3 hn, ?_⟩, Or.inr (Or.inr ?_)⟩
        · rw [cm_an7 hn]
          exact nI_le (by omega) (by omega)
        · rw [cm_rm8 hn]
          exact nI_lt (a := 4) (by omega) (by omega)
theorem cm_xlb {fr : Int32} {al mp sh so va : Nat → Int32} {post : Int32 → Prop} {x : Int32} (h : cm_XB x) (hp : post (-1)) : wpX_liveSlot post (fr, al, mp, sh, so, va) (x >>> ((3 : Int32) &&& 31)) (x &&& 7) := by
  rcases h with h | ⟨i, hi, e, h⟩
  · exact cm_xl0 h hp
  · rw [e]
    exact cm_xl1 hi (Or.inr h) hp
theorem cm_le_of {a x : Int32} (h : ¬ a < x) : x ≤ a := by
  rw [Int32.lt_iff_toInt_lt] at h
  rw [Int32.le_iff_toInt_le]
  omega
theorem cm_yab {post : Int32 → SY → Prop} {al st op ce : Nat → Int32} {v1 v2 : Int32} (h : cm_YB v1 ∨ cm_YB v2) (hp : post (-1) (al, st, op, ce)) : wpY_attach post (al, st, op, ce) v1 v2 := by
  unfold wpY_attach
  dsimp only
  by_cases a1 : v1 < 0
  · exact br_t a1 hp
  by_cases a2 : v2 < 0
  · exact br_f a1 (br_t a2 hp)
  by_cases b1 : 28 < v1
  · exact br_f a1 (br_f a2 (br_t b1 hp))
  by_cases b2 : 28 < v2
  · exact br_f a1 (br_f a2 (br_f b1 (br_t b2 hp)))
  by_cases c1 : 4 < v1 - v1 / 8 * 8
  · exact br_f a1 (br_f a2 (br_f b1 (br_f b2 ⟨cm_80, br_t c1 hp⟩)))
  by_cases c2 : 4 < v2 - v2 / 8 * 8
  · exact br_f a1 (br_f a2 (br_f b1 (br_f b2 ⟨cm_80, br_f c1 ⟨cm_80, br_f (cm_ge c2) hp⟩⟩)))
  exfalso
  rcases h with h | h
  · rcases h with h | h | h
    · exact a1 h
    · exact b1 h
    · exact c1 h
  · rcases h with h | h | h
    · exact a2 h
    · exact b2 h
    · exact c2 h
theorem cm_yag {post : Int32 → SY → Prop} {al st op ce : Nat → Int32} {v1 v2 : Int32} {i j i' j' : Nat} (hi : i < 4) (hj : j < 5) (e : v1 = nI (8 * i + j)) (hi' : i' < 4) (hj' : j' < 5) (e' : v2 = nI (8 * i' + j'))
    (hd1 : al i = 0 → post (-2) (al, st, op, ce))
    (hd2 : ¬ al i = 0 → al i' = 0 → post (-2) (al, st, op, ce))
    (hb : ¬ al i = 0 → ¬ al i' = 0 → ¬ st (5 * i + j) < 0 → post (-4) (al, st, op, ce))
    (hu1 : ¬ al i = 0 → ¬ al i' = 0 → st (5 * i + j) < 0 → st (5 * i' + j') < 0 → post (-3) (al, st, op, ce))
    (hu2 : ¬ al i = 0 → ¬ al i' = 0 → st (5 * i + j) < 0 → ¬ st (5 * i' + j') < 0 → op (5 * i' + j') = 0 → post (-3) (al, st, op, ce))
    (hok : ¬ al i = 0 → ¬ al i' = 0 → st (5 * i + j) < 0 → ¬ st (5 * i' + j') < 0 → ¬ op (5 * i' + j') = 0 → post (nI j) (al, upd st (5 * i + j) (st (5 * i' + j')), upd op (5 * i + j) (vp_nar .boolean 1), ce)) :
    wpY_attach post (al, st, op, ce) v1 v2 := by
  have d1 : v1 / 8 = nI i := by rw [e, cm_dv8 (by omega)]; exact congrArg nI (by omega)
  have d2 : v2 / 8 = nI i' := by rw [e', cm_dv8 (by omega)]; exact congrArg nI (by omega)
  have r1 : v1 - v1 / 8 * 8 = nI j := by rw [e, cm_rm8 (by omega)]; exact congrArg nI (by omega)
  have r2 : v2 - v2 / 8 * 8 = nI j' := by rw [e', cm_rm8 (by omega)]; exact congrArg nI (by omega)
  have a1 : ¬ v1 < 0 := by rw [e]; exact nI_pos (by omega)
  have a2 : ¬ v2 < 0 := by rw [e']; exact nI_pos (by omega)
  have b1 : ¬ 28 < v1 := by rw [e]; exact nI_nlt (a := 28) (by omega) (by decide)
  have b2 : ¬ 28 < v2 := by rw [e']; exact nI_nlt (a := 28) (by omega) (by decide)
  have c1 : ¬ 4 < nI j := nI_nlt (a := 4) (by omega) (by decide)
  have c2 : nI j' ≤ 4 := nI_le (b := 4) (by omega) (by decide)
  have ii : vp_in (nI i) 4 := vp_in_nI hi (by decide)
  have ii' : vp_in (nI i') 4 := vp_in_nI hi' (by decide)
  have it : vp_in (nI (5 * i + j)) 20 := vp_in_nI (by omega) (by decide)
  have it' : vp_in (nI (5 * i' + j')) 20 := vp_in_nI (by omega) (by decide)
  have k1 : (nI i).toNatClampNeg = i := nI_clamp (by omega)
  have k2 : (nI i').toNatClampNeg = i' := nI_clamp (by omega)
  have k3 : (nI (5 * i + j)).toNatClampNeg = 5 * i + j := nI_clamp (by omega)
  have k4 : (nI (5 * i' + j')).toNatClampNeg = 5 * i' + j' := nI_clamp (by omega)
  unfold wpY_attach
  dsimp only
  rw [r1, r2, d1, d2]
  refine br_f a1 (br_f a2 (br_f b1 (br_f b2 ⟨cm_80, br_f c1 ⟨cm_80, br_t c2 ⟨cm_80, cm_80, nm_r (cm_i5 i j) ⟨cm_80, cm_80, nm_r (cm_i5 i' j') ?_⟩⟩⟩⟩)))
  rw [k1, k2, k3, k4]
  exact ⟨cm_80, ii, br_c hd1 (fun z1 => ⟨cm_80, ii', br_c (hd2 z1) (fun z2 => ⟨it, br_c (fun z3 => ⟨it', br_c (hu1 z1 z2 z3) (fun z4 => ⟨it', br_c (hu2 z1 z2 z3 z4) (fun z5 => ⟨it', it, nm_e ⟨it, nm_e ⟨cm_80, hok z1 z2 z3 z4 z5⟩⟩⟩)⟩)⟩) (hb z1 z2)⟩)⟩)⟩
theorem i_vc_attach {k : Nat} {u : SX} {v : SY} (I : i_Rel k u v) (hk : k + 4 ≤ 2049) (v1 : Int32) (v2 : Int32) : wpX_attach (fun r u' => wpY_attach (fun r' v' => r' = r ∧ i_Rel (k + 4) u' v') v v1 v2) u v1 v2 := by
  obtain ⟨fr, al, mp, sh, so, va, st, op, rfl, rfl, T, D⟩ := I
  have J : i_Rel (k + 4) (fr, al, mp, sh, so, va) (al, st, op, va) := ⟨_, _, _, _, _, _, _, _, rfl, rfl, T, D⟩
  have m2 : ¬ (-2 : Int32) = -1 := by decide
  have hn1 : ∀ t, t < 2 ^ 31 → ¬ nI t = (-1 : Int32) := fun t ht z => cm_neg1 ht z.symm
  unfold wpX_attach
  dsimp only
  rcases cm_pack v1 with ⟨xb, yb⟩ | ⟨i, j, hi, hj, e⟩
  · refine nm_e ?_
    refine cm_xlb xb ?_
    refine cm_xla (fun r => ?_)
    exact br_t rfl (cm_yab (Or.inl yb) ⟨rfl, J⟩)
  have s1 : v1 >>> ((3 : Int32) &&& 31) = nI i := by rw [e, cm_sh3 (by omega)]; exact congrArg nI (by omega)
  have n1 : v1 &&& 7 = nI j := by rw [e, cm_an7 (by omega)]; exact congrArg nI (by omega)
  refine nm_r n1 ?_
  rw [s1]
  rcases cm_pack v2 with ⟨xb, yb⟩ | ⟨i', j', hi', hj', e'⟩
  · by_cases ha : al i = 0
    · refine cm_xl2 hi hj ha ?_
      refine cm_xlb xb ?_
      exact br_f m2 (br_t rfl (cm_yab (Or.inr yb) ⟨rfl, J⟩))
    · refine cm_xl3 hi hj ha ?_
      refine cm_xlb xb ?_
      exact br_f (hn1 _ (by omega)) (br_t rfl (cm_yab (Or.inr yb) ⟨rfl, J⟩))
  have s2 : v2 >>> ((3 : Int32) &&& 31) = nI i' := by rw [e', cm_sh3 (by omega)]; exact congrArg nI (by omega)
  have n2 : v2 &&& 7 = nI j' := by rw [e', cm_an7 (by omega)]; exact congrArg nI (by omega)
  rw [s2, n2]
  by_cases ha : al i = 0
  · refine cm_xl2 hi hj ha ?_
    have hY : wpY_attach (fun r' v' => r' = (-2) ∧ i_Rel (k + 4) (fr, al, mp, sh, so, va) v') (al, st, op, va) v1 v2 :=
      cm_yag hi hj e hi' hj' e' (fun _ => ⟨rfl, J⟩) (fun z => absurd ha z) (fun z => absurd ha z) (fun z => absurd ha z) (fun z => absurd ha z) (fun z => absurd ha z)
    by_cases hb : al i' = 0
    · refine cm_xl2 hi' hj' hb ?_
      exact br_f m2 (br_f m2 (br_t (by decide) hY))
    · refine cm_xl3 hi' hj' hb ?_
      exact br_f m2 (br_f (hn1 _ (by omega)) (br_t (by decide) hY))
  refine cm_xl3 hi hj ha ?_
  by_cases hb : al i' = 0
  · refine cm_xl2 hi' hj' hb ?_
    refine br_f (hn1 _ (by omega)) (br_f m2 (br_f (nI_pos (by omega)) (br_f cm_m2' ?_)))
    exact cm_yag hi hj e hi' hj' e' (fun z => absurd z ha) (fun _ _ => ⟨rfl, J⟩) (fun _ z => absurd hb z) (fun _ z => absurd hb z) (fun _ z => absurd hb z) (fun _ z => absurd hb z)
  refine cm_xl3 hi' hj' hb ?_
  have it : vp_in (nI (5 * i + j)) 20 := vp_in_nI (by omega) (by decide)
  have it' : vp_in (nI (5 * i' + j')) 20 := vp_in_nI (by omega) (by decide)
  refine br_f (hn1 _ (by omega)) (br_f (hn1 _ (by omega)) (br_f (nI_pos (by omega)) (br_t (cm_ge0 (by omega)) ⟨it, ?_⟩)))
  rw [nI_clamp (show 5 * i + j < 2 ^ 31 by omega), nI_clamp (show 5 * i' + j' < 2 ^ 31 by omega)]
  by_cases hm : mp (5 * i + j) = 0
  · have es := cm_un T (t := 5 * i + j) (by omega) hm
    have el : st (5 * i + j) < 0 := by rw [es]; decide
    refine br_t hm ⟨it', ?_⟩
    by_cases hm' : mp (5 * i' + j') = 0
    · have es' := cm_un T (t := 5 * i' + j') (by omega) hm'
      have el' : st (5 * i' + j') < 0 := by rw [es']; decide
      refine br_t hm' ?_
      exact cm_yag hi hj e hi' hj' e' (fun z => absurd z ha) (fun _ z => absurd z hb) (fun _ _ z => absurd el z) (fun _ _ _ _ => ⟨rfl, J⟩) (fun _ _ _ z => absurd el' z) (fun _ _ _ z => absurd el' z)
    · obtain ⟨eop, s, hs, eo, es'⟩ := cm_ma T (t := 5 * i' + j') (by omega) hm'
      have el' : ¬ st (5 * i' + j') < 0 := by rw [es']; exact nI_pos (by omega)
      refine br_f hm' ⟨it', ?_⟩
      rw [eop]
      by_cases ho : op (5 * i' + j') = 0
      · refine br_t ho ?_
        exact cm_yag hi hj e hi' hj' e' (fun z => absurd z ha) (fun _ z => absurd z hb) (fun _ _ z => absurd el z) (fun _ _ _ z => absurd z el') (fun _ _ _ _ _ => ⟨rfl, J⟩) (fun _ _ _ _ z => absurd ho z)
      · refine br_f ho ⟨it', ?_⟩
        rw [eo]
        refine cm_xpl (by omega) ?_
        dsimp only
        refine cm_yag hi hj e hi' hj' e' (fun z => absurd z ha) (fun _ z => absurd z hb) (fun _ _ z => absurd el z) (fun _ _ _ z => absurd z el') (fun _ _ _ _ z => absurd z ho) (fun _ _ _ _ _ => ?_)
        rw [es']
        exact ⟨rfl, _, _, _, _, _, _, _, _, rfl, rfl, cm_put T hs _, cm_D_put D hj ha _⟩
  · obtain ⟨_, s, hs, eo, es⟩ := cm_ma T (t := 5 * i + j) (by omega) hm
    have el : ¬ st (5 * i + j) < 0 := by rw [es]; exact nI_pos (by omega)
    refine br_f hm ?_
    exact cm_yag hi hj e hi' hj' e' (fun z => absurd z ha) (fun _ z => absurd z hb) (fun _ _ _ => ⟨rfl, J⟩) (fun _ _ z => absurd z el) (fun _ _ z => absurd z el) (fun _ _ z => absurd z el)
