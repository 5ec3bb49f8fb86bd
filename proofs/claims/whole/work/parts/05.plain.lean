theorem cm_lt0 {n : Nat} (h : n < 2 ^ 31) : ¬ nI n < 0 := nI_pos h
theorem cm_ge0 {n : Nat} (h : n < 2 ^ 31) : (0 : Int32) ≤ nI n := nI_pos' h
theorem cm_m1 : (-1 : Int32) < 0 := by decide
theorem cm_m1' : ¬ (0 : Int32) ≤ -1 := by decide
theorem cm_m2' : ¬ (0 : Int32) ≤ -2 := by decide
theorem cm_m3' : ¬ (0 : Int32) ≤ -3 := by decide
/-! the constructors -/
theorem cm_y0_l {post : SY → Prop} {al op ce : Nat → Int32} (hp : ∀ st : Nat → Int32, (∀ t, t < 20 → st t = -1) → post (al, st, op, ce)) : ∀ d i (st : Nat → Int32), i + d = 20 → (∀ t, t < i → st t = -1) → wY_init_44 post (d + 1) (nI i) al st op ce := by
  intro d
  induction d with
  | zero =>
    intro i st hi h
    exact br_t (nI_le (a := 20) (by omega) (by omega)) (hp st (fun t ht => h t (by omega)))
  | succ d ih =>
    intro i st hi h
    have hc : (nI i).toNatClampNeg = i := nI_clamp (by omega)
    have hin : vp_in (nI i) 20 := vp_in_nI (by omega) (by decide)
    have hge : ¬ (20 : Int32) ≤ nI i := nI_ge (b := 20) (by omega) (by decide)
    refine br_f hge ⟨hin, nm_r (by rw [hc]) (nm_r (nI_1 i) (ih (i + 1) (upd st i (-1)) (by omega) ?_))⟩
    intro t ht
    by_cases e : t = i
    · rw [e, pk_us]
    · rw [pk_un e]; exact h t (by omega)
theorem cm_vc0 (fr k0 : Int32) : wpY_init (fun v => i_Rel 1 (fr, upd (fun _ => 0) 0 (vp_nar .boolean 1), (fun _ => 0), (fun _ => 0), (fun _ => 0), (fun _ => 0)) v) k0 := by
  refine nm_e ⟨20 + 1, cm_y0_l ?_ 20 0 (fun _ => 0) rfl (fun t ht => absurd ht (Nat.not_lt_zero t))⟩
  intro st h
  exact ⟨_, _, _, _, _, _, _, _, rfl, rfl, fun t ht => Or.inl ⟨rfl, h t ht⟩, fun _ _ _ _ _ => rfl⟩
theorem i_vc0 (k0 : Int32) : wpX_init (fun u => wpY_init (fun v => i_Rel 1 u v) k0) k0 :=
  br_c (fun _ => br_c (fun _ => nm_e (cm_vc0 _ _)) (fun _ => nm_e (cm_vc0 _ _))) (fun _ => nm_e (cm_vc0 _ _))
/-! map -/
section
variable {fr : Int32} {al mp sh so va st op : Nat → Int32} {post : Int32 → SX → Prop} {qost : Int32 → SY → Prop}
theorem cm_map_x {i j : Nat} {b : Int32} (hi : i < 4) (hj : j < 5) (ha : ¬ al i = 0) (hm : mp (5 * i + j) = 0) (T : cm_T mp sh so st op)
    (hp : post (nI j) (fr, al, upd mp (5 * i + j) (vp_nar .boolean 1), upd sh (5 * i + j) (vp_nar .boolean b), upd so (5 * i + j) (nI (cm_f st 19 0)), cm_clr (cm_f st 19 0) 4 0 va)) :
    wpX_map post (fr, al, mp, sh, so, va) (nI i) (nI j) b := by
  have hf := cm_f_le st 19 0
  unfold wpX_map
  dsimp only
  refine cm_xl3 hi hj ha ?_
  refine br_t (cm_ge0 (by omega)) ⟨vp_in_nI (by omega) (by decide), br_t (by rw [nI_clamp (by omega)]; exact hm) ?_⟩
  refine cm_xu T ?_
  refine cm_xc (by omega) ?_
  dsimp only
  refine cm_xpl (by omega) ?_
  exact hp
theorem cm_map_y {i j : Nat} {b : Int32} (hi : i < 4) (hj : j < 5) (ha : ¬ al i = 0) (hm : st (5 * i + j) = -1)
    (hp : qost (nI j) (al, upd st (5 * i + j) (nI (cm_f st 19 0)), upd op (5 * i + j) (vp_nar .boolean b), cm_clr (cm_f st 19 0) 4 0 va)) :
    wpY_map qost (al, st, op, va) (nI i) (nI j) b := by
  have hf := cm_f_le st 19 0
  unfold wpY_map
  dsimp only
  refine cm_yp1 hi ?_
  refine br_f cm_10 ?_
  refine cm_yg1 hj ?_
  refine br_f cm_10 ⟨vp_in_nI hi (by decide), br_f (by rw [nI_clamp (by omega)]; exact ha) ⟨pk_in (5 * i + j) 20 (by omega) (cm_i5 i j), br_t (by rw [pk_cl (5 * i + j) (cm_i5 i j), hm]; decide) ?_⟩⟩
  refine cm_yn (t := 5 * i + j) (by omega) hm ?_
  exact ⟨4 + 1, cm_ym_l hi hj (by omega) 4 0 va rfl hp⟩
end
theorem i_vc_map {k : Nat} {u : SX} {v : SY} (I : i_Rel k u v) (hk : k + 4 ≤ 2049) (v1 : Int32) (v2 : Int32) (v3 : Int32) : wpX_map (fun r u' => wpY_map (fun r' v' => r' = r ∧ i_Rel (k + 4) u' v') v v1 v2 (lw_bz v3)) u v1 v2 (lw_bz v3) := by
  obtain ⟨fr, al, mp, sh, so, va, st, op, rfl, rfl, T, D⟩ := I
  have J : i_Rel (k + 4) (fr, al, mp, sh, so, va) (al, st, op, va) := ⟨_, _, _, _, _, _, _, _, rfl, rfl, T, D⟩
  generalize lw_bz v3 = b
  have hbad1 : (v1 < 0 ∨ nI 4 ≤ v1) → wpX_map (fun r u' => wpY_map (fun r' v' => r' = r ∧ i_Rel (k + 4) u' v') (al, st, op, va) v1 v2 b) (fr, al, mp, sh, so, va) v1 v2 b := by
    intro h
    unfold wpX_map
    dsimp only
    refine cm_xl0 h ?_
    refine br_f cm_m1' ?_
    unfold wpY_map
    dsimp only
    refine cm_yp0 h ?_
    exact br_t rfl ⟨rfl, J⟩
  rcases pk_ix v1 (n := 4) (by decide) with h | h | ⟨i, hi, rfl⟩
  · exact hbad1 (Or.inl h)
  · exact hbad1 (Or.inr h)
  have hbad2 : (v2 < 0 ∨ nI 5 ≤ v2) → wpX_map (fun r u' => wpY_map (fun r' v' => r' = r ∧ i_Rel (k + 4) u' v') (al, st, op, va) (nI i) v2 b) (fr, al, mp, sh, so, va) (nI i) v2 b := by
    intro h
    unfold wpX_map
    dsimp only
    refine cm_xl1 hi h ?_
    refine br_f cm_m1' ?_
    unfold wpY_map
    dsimp only
    refine cm_yp1 hi ?_
    refine br_f cm_10 ?_
    refine cm_yg0 h ?_
    exact br_t rfl ⟨rfl, J⟩
  rcases pk_ix v2 (n := 5) (by decide) with h | h | ⟨j, hj, rfl⟩
  · exact hbad2 (Or.inl h)
  · exact hbad2 (Or.inr h)
  have ct : (5 * nI i + nI j).toNatClampNeg = 5 * i + j := pk_cl (5 * i + j) (cm_i5 i j)
  have it : vp_in (5 * nI i + nI j) 20 := pk_in (5 * i + j) 20 (by omega) (cm_i5 i j)
  have ci : (nI i).toNatClampNeg = i := nI_clamp (by omega)
  have ii : vp_in (nI i) 4 := vp_in_nI hi (by decide)
  by_cases ha : al i = 0
  · unfold wpX_map
    dsimp only
    refine cm_xl2 hi hj ha ?_
    refine br_f cm_m2' ?_
    unfold wpY_map
    dsimp only
    refine cm_yp1 hi ?_
    refine br_f cm_10 ?_
    refine cm_yg1 hj ?_
    exact br_f cm_10 ⟨ii, br_t (by rw [ci]; exact ha) ⟨rfl, J⟩⟩
  by_cases hm : mp (5 * i + j) = 0
  · have hf := cm_f_le st 19 0
    refine cm_map_x hi hj ha hm T ?_
    refine cm_map_y hi hj ha (cm_un T (by omega) hm) ?_
    exact ⟨rfl, _, _, _, _, _, _, _, _, rfl, rfl, cm_put T (by omega) _, cm_D_put D hj ha _⟩
  · obtain ⟨_, s, hs, _, es⟩ := cm_ma T (t := 5 * i + j) (by omega) hm
    unfold wpX_map
    dsimp only
    refine cm_xl3 hi hj ha ?_
    refine br_t (cm_ge0 (by omega)) ⟨vp_in_nI (by omega) (by decide), br_f (by rw [nI_clamp (by omega)]; exact hm) ?_⟩
    unfold wpY_map
    dsimp only
    refine cm_yp1 hi ?_
    refine br_f cm_10 ?_
    refine cm_yg1 hj ?_
    exact br_f cm_10 ⟨ii, br_f (by rw [ci]; exact ha) ⟨it, br_f (by rw [ct, es]; exact nI_pos (by omega)) ⟨rfl, J⟩⟩⟩
/-! unmap -/
theorem i_vc_unmap {k : Nat} {u : SX} {v : SY} (I : i_Rel k u v) (hk : k + 4 ≤ 2049) (v1 : Int32) (v2 : Int32) : wpX_unmap (fun r u' => wpY_unmap (fun r' v' => r' = r ∧ i_Rel (k + 4) u' v') v v1 v2) u v1 v2 := by
  obtain ⟨fr, al, mp, sh, so, va, st, op, rfl, rfl, T, D⟩ := I
  have J : i_Rel (k + 4) (fr, al, mp, sh, so, va) (al, st, op, va) := ⟨_, _, _, _, _, _, _, _, rfl, rfl, T, D⟩
  have hbad1 : (v1 < 0 ∨ nI 4 ≤ v1) → wpX_unmap (fun r u' => wpY_unmap (fun r' v' => r' = r ∧ i_Rel (k + 4) u' v') (al, st, op, va) v1 v2) (fr, al, mp, sh, so, va) v1 v2 := by
    intro h
    unfold wpX_unmap
    dsimp only
    refine cm_xm0 h ?_
    refine br_f cm_m1' ?_
    unfold wpY_unmap
    dsimp only
    refine cm_yp0 h ?_
    exact br_t rfl ⟨rfl, J⟩
  rcases pk_ix v1 (n := 4) (by decide) with h | h | ⟨i, hi, rfl⟩
  · exact hbad1 (Or.inl h)
  · exact hbad1 (Or.inr h)
  have hbad2 : (v2 < 0 ∨ nI 5 ≤ v2) → wpX_unmap (fun r u' => wpY_unmap (fun r' v' => r' = r ∧ i_Rel (k + 4) u' v') (al, st, op, va) (nI i) v2) (fr, al, mp, sh, so, va) (nI i) v2 := by
    intro h
    unfold wpX_unmap
    dsimp only
    refine cm_xm1 hi h ?_
    refine br_f cm_m1' ?_
    unfold wpY_unmap
    dsimp only
    refine cm_yp1 hi ?_
    refine br_f cm_10 ?_
    refine cm_yg0 h ?_
    exact br_t rfl ⟨rfl, J⟩
  rcases pk_ix v2 (n := 5) (by decide) with h | h | ⟨j, hj, rfl⟩
  · exact hbad2 (Or.inl h)
  · exact hbad2 (Or.inr h)
  have ct : (5 * nI i + nI j).toNatClampNeg = 5 * i + j := pk_cl (5 * i + j) (cm_i5 i j)
  have it : vp_in (5 * nI i + nI j) 20 := pk_in (5 * i + j) 20 (by omega) (cm_i5 i j)
  have ci : (nI i).toNatClampNeg = i := nI_clamp (by omega)
  have ii : vp_in (nI i) 4 := vp_in_nI hi (by decide)
  by_cases ha : al i = 0
  · unfold wpX_unmap
    dsimp only
    refine cm_xm2 hi hj ha ?_
    refine br_f cm_m2' ?_
    unfold wpY_unmap
    dsimp only
    refine cm_yp1 hi ?_
    refine br_f cm_10 ?_
    refine cm_yg1 hj ?_
    exact br_f cm_10 ⟨ii, br_t (by rw [ci]; exact ha) ⟨rfl, J⟩⟩
  by_cases hm : mp (5 * i + j) = 0
  · have es := cm_un T (t := 5 * i + j) (by omega) hm
    unfold wpX_unmap
    dsimp only
    refine cm_xm3 hi hj ha hm ?_
    refine br_f cm_m3' ?_
    unfold wpY_unmap
    dsimp only
    refine cm_yp1 hi ?_
    refine br_f cm_10 ?_
    refine cm_yg1 hj ?_
    exact br_f cm_10 ⟨ii, br_f (by rw [ci]; exact ha) ⟨it, br_f (by rw [ct, es]; decide) ⟨rfl, J⟩⟩⟩
  · obtain ⟨_, s, hs, _, es⟩ := cm_ma T (t := 5 * i + j) (by omega) hm
    unfold wpX_unmap
    dsimp only
    refine cm_xm4 hi hj ha hm ?_
    refine br_t (cm_ge0 (by omega)) ⟨vp_in_nI (by omega) (by decide), nm_r (by rw [nI_clamp (show 5 * i + j < 2 ^ 31 by omega)]) ?_⟩
    unfold wpY_unmap
    dsimp only
    refine cm_yp1 hi ?_
    refine br_f cm_10 ?_
    refine cm_yg1 hj ?_
    refine br_f cm_10 ⟨ii, br_f (by rw [ci]; exact ha) ⟨it, br_t (by rw [ct, es]; exact nI_pos' (by omega)) ⟨it, nm_r (by rw [ct]) ?_⟩⟩⟩
    exact ⟨rfl, _, _, _, _, _, _, _, _, rfl, rfl, cm_drop T, cm_D_drop D⟩
/-! isMapped -/
theorem i_vc_isMapped {k : Nat} {u : SX} {v : SY} (I : i_Rel k u v) (hk : k + 4 ≤ 2049) (v1 : Int32) (v2 : Int32) : wpX_isMapped (fun r => wpY_isMapped (fun r' => r' = r ∧ i_Rel (k + 4) u v) v v1 v2) u v1 v2 := by
  have J : i_Rel (k + 4) u v := I
  obtain ⟨fr, al, mp, sh, so, va, st, op, rfl, rfl, T, D⟩ := I
  generalize i_Rel (k + 4) (fr, al, mp, sh, so, va) (al, st, op, va) = R at J ⊢
  have hbad1 : (v1 < 0 ∨ nI 4 ≤ v1) → wpX_isMapped (fun r => wpY_isMapped (fun r' => r' = r ∧ R) (al, st, op, va) v1 v2) (fr, al, mp, sh, so, va) v1 v2 := by
    intro h
    unfold wpX_isMapped
    dsimp only
    refine cm_xm0 h ?_
    refine br_t cm_m1 ?_
    unfold wpY_isMapped
    dsimp only
    refine cm_yp0 h ?_
    exact br_t rfl ⟨rfl, J⟩
  rcases pk_ix v1 (n := 4) (by decide) with h | h | ⟨i, hi, rfl⟩
  · exact hbad1 (Or.inl h)
  · exact hbad1 (Or.inr h)
  have hbad2 : (v2 < 0 ∨ nI 5 ≤ v2) → wpX_isMapped (fun r => wpY_isMapped (fun r' => r' = r ∧ R) (al, st, op, va) (nI i) v2) (fr, al, mp, sh, so, va) (nI i) v2 := by
    intro h
    unfold wpX_isMapped
    dsimp only
    refine cm_xm1 hi h ?_
    refine br_t cm_m1 ?_
    unfold wpY_isMapped
    dsimp only
    refine cm_yp1 hi ?_
    refine br_f cm_10 ?_
    refine cm_yg0 h ?_
    exact br_t rfl ⟨rfl, J⟩
  rcases pk_ix v2 (n := 5) (by decide) with h | h | ⟨j, hj, rfl⟩
  · exact hbad2 (Or.inl h)
  · exact hbad2 (Or.inr h)
  have ct : (5 * nI i + nI j).toNatClampNeg = 5 * i + j := pk_cl (5 * i + j) (cm_i5 i j)
  have it : vp_in (5 * nI i + nI j) 20 := pk_in (5 * i + j) 20 (by omega) (cm_i5 i j)
  have hun : mp (5 * i + j) = 0 → wpY_isMapped (fun r' => r' = 0 ∧ R) (al, st, op, va) (nI i) (nI j) := by
    intro hm
    have es := cm_un T (t := 5 * i + j) (by omega) hm
    unfold wpY_isMapped
    dsimp only
    refine cm_yp1 hi ?_
    refine br_f cm_10 ?_
    refine cm_yg1 hj ?_
    exact br_f cm_10 ⟨it, br_t (by rw [ct, es]; decide) ⟨rfl, J⟩⟩
  by_cases ha : al i = 0
  · unfold wpX_isMapped
    dsimp only
    refine cm_xm2 hi hj ha ?_
    refine br_t (by decide) ?_
    exact hun (D i j hi hj ha)
  by_cases hm : mp (5 * i + j) = 0
  · unfold wpX_isMapped
    dsimp only
    refine cm_xm3 hi hj ha hm ?_
    refine br_t (by decide) ?_
    exact hun hm
  · obtain ⟨_, s, hs, _, es⟩ := cm_ma T (t := 5 * i + j) (by omega) hm
    unfold wpX_isMapped
    dsimp only
    refine cm_xm4 hi hj ha hm ?_
    refine br_f (nI_pos (by omega)) ?_
    unfold wpY_isMapped
    dsimp only
    refine cm_yp1 hi ?_
    refine br_f cm_10 ?_
    refine cm_yg1 hj ?_
    exact br_f cm_10 ⟨it, br_f (by rw [ct, es]; exact nI_pos (by omega)) ⟨rfl, J⟩⟩
/-! showing -/
theorem i_vc_showing {k : Nat} {u : SX} {v : SY} (I : i_Rel k u v) (hk : k + 4 ≤ 2049) (v1 : Int32) (v2 : Int32) : wpX_showing (fun r => wpY_showing (fun r' => r' = r ∧ i_Rel (k + 4) u v) v v1 v2) u v1 v2 := by
  have J : i_Rel (k + 4) u v := I
  obtain ⟨fr, al, mp, sh, so, va, st, op, rfl, rfl, T, D⟩ := I
  generalize i_Rel (k + 4) (fr, al, mp, sh, so, va) (al, st, op, va) = R at J ⊢
  have hbad1 : (v1 < 0 ∨ nI 4 ≤ v1) → wpX_showing (fun r => wpY_showing (fun r' => r' = r ∧ R) (al, st, op, va) v1 v2) (fr, al, mp, sh, so, va) v1 v2 := by
    intro h
    unfold wpX_showing
    dsimp only
    refine cm_xm0 h ?_
    refine br_f cm_m1' ?_
    unfold wpY_showing
    dsimp only
    refine cm_yp0 h ?_
    exact br_t rfl ⟨rfl, J⟩
  rcases pk_ix v1 (n := 4) (by decide) with h | h | ⟨i, hi, rfl⟩
  · exact hbad1 (Or.inl h)
  · exact hbad1 (Or.inr h)
  have hbad2 : (v2 < 0 ∨ nI 5 ≤ v2) → wpX_showing (fun r => wpY_showing (fun r' => r' = r ∧ R) (al, st, op, va) (nI i) v2) (fr, al, mp, sh, so, va) (nI i) v2 := by
    intro h
    unfold wpX_showing
    dsimp only
    refine cm_xm1 hi h ?_
    refine br_f cm_m1' ?_
    unfold wpY_showing
    dsimp only
    refine cm_yp1 hi ?_
    refine br_f cm_10 ?_
    refine cm_yg0 h ?_
    exact br_t rfl ⟨rfl, J⟩
  rcases pk_ix v2 (n := 5) (by decide) with h | h | ⟨j, hj, rfl⟩
  · exact hbad2 (Or.inl h)
  · exact hbad2 (Or.inr h)
  have ct : (5 * nI i + nI j).toNatClampNeg = 5 * i + j := pk_cl (5 * i + j) (cm_i5 i j)
  have it : vp_in (5 * nI i + nI j) 20 := pk_in (5 * i + j) 20 (by omega) (cm_i5 i j)
  have ci : (nI i).toNatClampNeg = i := nI_clamp (by omega)
  have ii : vp_in (nI i) 4 := vp_in_nI hi (by decide)
  by_cases ha : al i = 0
  · unfold wpX_showing
    dsimp only
    refine cm_xm2 hi hj ha ?_
    refine br_f cm_m2' ?_
    unfold wpY_showing
    dsimp only
    refine cm_yp1 hi ?_
    refine br_f cm_10 ?_
    refine cm_yg1 hj ?_
    exact br_f cm_10 ⟨ii, br_t (by rw [ci]; exact ha) ⟨rfl, J⟩⟩
  by_cases hm : mp (5 * i + j) = 0
  · have es := cm_un T (t := 5 * i + j) (by omega) hm
    unfold wpX_showing
    dsimp only
    refine cm_xm3 hi hj ha hm ?_
    refine br_f cm_m3' ?_
    unfold wpY_showing
    dsimp only
    refine cm_yp1 hi ?_
    refine br_f cm_10 ?_
    refine cm_yg1 hj ?_
    exact br_f cm_10 ⟨ii, br_f (by rw [ci]; exact ha) ⟨it, br_f (by rw [ct, es]; decide) ⟨rfl, J⟩⟩⟩
  · obtain ⟨_, s, hs, eo, es⟩ := cm_ma T (t := 5 * i + j) (by omega) hm
    unfold wpX_showing
    dsimp only
    refine cm_xm4 hi hj ha hm ?_
    refine br_t (cm_ge0 (by omega)) ⟨vp_in_nI (by omega) (by decide), ?_⟩
    rw [nI_clamp (show 5 * i + j < 2 ^ 31 by omega), eo]
    refine cm_xs T (by omega) ?_
    unfold wpY_showing
    dsimp only
    refine cm_yp1 hi ?_
    refine br_f cm_10 ?_
    refine cm_yg1 hj ?_
    refine br_f cm_10 ⟨ii, br_f (by rw [ci]; exact ha) ⟨it, br_t (by rw [ct, es]; exact nI_pos' (by omega)) ?_⟩⟩
    exact ⟨20 + 1, cm_ysh_l hi hj es 20 0 0 rfl ⟨by rw [Nat.zero_add], J⟩⟩
