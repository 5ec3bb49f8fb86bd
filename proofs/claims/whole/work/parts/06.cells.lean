theorem cm_shneg {x s : Int32} (k : Nat) (hs : (s.toBitVec.smod 32).toNat = k) (h : x < 0) : x >>> s < 0 := by
  rw [Int32.lt_iff_toInt_lt] at h ⊢
  rw [pk_shr _ _ k hs, Int.shiftRight_eq_div_pow]
  rw [show (0 : Int32).toInt = 0 from by decide] at h ⊢
  have hk : 0 < ((2 ^ k : Nat) : Int) := Int.ofNat_lt.mpr (Nat.two_pow_pos k)
  exact Int.ediv_neg_of_neg_of_pos h hk
theorem cm_sh2 {n : Nat} (h : n < 2 ^ 31) : nI n >>> ((2 : Int32) &&& 31) = nI (n / 4) := pk_shrN h _ 2 (by decide)
theorem cm_sh3 {n : Nat} (h : n < 2 ^ 31) : nI n >>> ((3 : Int32) &&& 31) = nI (n / 8) := pk_shrN h _ 3 (by decide)
theorem cm_an3 {n : Nat} (h : n < 2 ^ 31) : nI n &&& 3 = nI (n % 4) := pk_andN (by omega) 2 (by decide)
theorem cm_an7 {n : Nat} (h : n < 2 ^ 31) : nI n &&& 7 = nI (n % 8) := pk_andN (by omega) 3 (by decide)
theorem cm_dv4 {n : Nat} (h : n < 2 ^ 31) : nI n / 4 = nI (n / 4) := pk_div (d := 4) h (by decide) (by decide)
theorem cm_dv8 {n : Nat} (h : n < 2 ^ 31) : nI n / 8 = nI (n / 8) := pk_div (d := 8) h (by decide) (by decide)
theorem cm_rm4 {n : Nat} (h : n < 2 ^ 31) : nI n - nI n / 4 * 4 = nI (n % 4) := pk_rem (d := 4) h (by decide) (by decide)
theorem cm_rm8 {n : Nat} (h : n < 2 ^ 31) : nI n - nI n / 8 * 8 = nI (n % 8) := pk_rem (d := 8) h (by decide) (by decide)
theorem cm_40 : ¬ (4 : Int32) = 0 := by decide
theorem cm_80 : ¬ (8 : Int32) = 0 := by decide
theorem cm_pos {x y : Int32} (hy : ¬ y < 0) (h : y ≤ x) : ¬ x < 0 := by
  rw [Int32.lt_iff_toInt_lt] at *
  rw [Int32.le_iff_toInt_le] at h
  omega
theorem cm_ge {a x : Int32} (h : a < x) : ¬ x ≤ a := by
  rw [Int32.lt_iff_toInt_lt] at h
  rw [Int32.le_iff_toInt_le]
  omega
/-- a cell's page is refused just when the cell is -/
theorem cm_cell {x : Int32} (h : x < 0 ∨ nI 20 ≤ x) : x >>> ((2 : Int32) &&& 31) < 0 ∨ nI 5 ≤ x >>> ((2 : Int32) &&& 31) := by
  by_cases h0 : x < 0
  · exact Or.inl (cm_shneg 2 (by decide) h0)
  · obtain ⟨n, hn, rfl⟩ := nI_of h0
    have h2 := (nI_leI (a := 20) (by decide) hn).mp (h.resolve_left h0)
    rw [cm_sh2 hn]
    exact Or.inr (nI_le (by omega) (by omega))
theorem i_vc_write {k : Nat} {u : SX} {v : SY} (I : i_Rel k u v) (hk : k + 4 ≤ 2049) (v1 : Int32) (v2 : Int32) (v3 : Int32) : wpX_write (fun r u' => wpY_write (fun r' v' => r' = r ∧ i_Rel (k + 4) u' v') v v1 v2 v3) u v1 v2 v3 := by
  obtain ⟨fr, al, mp, sh, so, va, st, op, rfl, rfl, T, D⟩ := I
  have J : i_Rel (k + 4) (fr, al, mp, sh, so, va) (al, st, op, va) := ⟨_, _, _, _, _, _, _, _, rfl, rfl, T, D⟩
  have hbad1 : (v1 < 0 ∨ nI 4 ≤ v1) → wpX_write (fun r u' => wpY_write (fun r' v' => r' = r ∧ i_Rel (k + 4) u' v') (al, st, op, va) v1 v2 v3) (fr, al, mp, sh, so, va) v1 v2 v3 := by
    intro h
    unfold wpX_write
    dsimp only
    refine cm_xm0 h ?_
    refine br_f cm_m1' ?_
    unfold wpY_write
    dsimp only
    refine cm_yp0 h ?_
    exact br_t rfl ⟨rfl, J⟩
  rcases pk_ix v1 (n := 4) (by decide) with h | h | ⟨i, hi, rfl⟩
  · exact hbad1 (Or.inl h)
  · exact hbad1 (Or.inr h)
  have hbad2 : (v2 < 0 ∨ nI 20 ≤ v2) → wpX_write (fun r u' => wpY_write (fun r' v' => r' = r ∧ i_Rel (k + 4) u' v') (al, st, op, va) (nI i) v2 v3) (fr, al, mp, sh, so, va) (nI i) v2 v3 := by
    intro h
    unfold wpX_write
    dsimp only
    refine cm_xm1 hi (cm_cell h) ?_
    refine br_f cm_m1' ?_
    unfold wpY_write
    dsimp only
    refine cm_yp1 hi ?_
    refine br_f cm_10 ?_
    by_cases h0 : v2 < 0
    · exact br_t h0 ⟨rfl, J⟩
    · exact br_f h0 (br_f (cm_ge (cm_ltle (b := nI 20) (by decide) (h.resolve_left h0))) ⟨rfl, J⟩)
  rcases pk_ix v2 (n := 20) (by decide) with h | h | ⟨c, hc, rfl⟩
  · exact hbad2 (Or.inl h)
  · exact hbad2 (Or.inr h)
  have hj : c / 4 < 5 := by omega
  have e2 := cm_dv4 (n := c) (by omega)
  have e3 := cm_rm4 (n := c) (by omega)
  have ct : (5 * nI i + nI (c / 4)).toNatClampNeg = 5 * i + c / 4 := pk_cl (5 * i + c / 4) (cm_i5 i (c / 4))
  have it : vp_in (5 * nI i + nI (c / 4)) 20 := pk_in (5 * i + c / 4) 20 (by omega) (cm_i5 i (c / 4))
  have ci : (nI i).toNatClampNeg = i := nI_clamp (by omega)
  have ii : vp_in (nI i) 4 := vp_in_nI hi (by decide)
  have hc0 : ¬ nI c < 0 := nI_pos (by omega)
  have hc19 : nI c ≤ 19 := nI_le (b := 19) (by omega) (by decide)
  by_cases ha : al i = 0
  · unfold wpX_write
    dsimp only
    rw [cm_sh2 (show c < 2 ^ 31 by omega)]
    refine cm_xm2 hi hj ha ?_
    refine br_f cm_m2' ?_
    unfold wpY_write
    dsimp only
    refine cm_yp1 hi ?_
    exact br_f cm_10 (br_f hc0 (br_t hc19 ⟨ii, br_t (by rw [ci]; exact ha) ⟨rfl, J⟩⟩))
  by_cases hm : mp (5 * i + c / 4) = 0
  · have es := cm_un T (t := 5 * i + c / 4) (by omega) hm
    unfold wpX_write
    dsimp only
    rw [cm_sh2 (show c < 2 ^ 31 by omega)]
    refine cm_xm3 hi hj ha hm ?_
    refine br_f cm_m3' ?_
    unfold wpY_write
    dsimp only
    refine cm_yp1 hi ?_
    rw [e3, e2]
    exact br_f cm_10 (br_f hc0 (br_t hc19 ⟨ii, br_f (by rw [ci]; exact ha) ⟨cm_40, it, nm_r (by rw [ct, es]) (br_f (by decide) ⟨rfl, J⟩)⟩⟩))
  · obtain ⟨_, s, hs, eo, es⟩ := cm_ma T (t := 5 * i + c / 4) (by omega) hm
    have cs : (4 * nI s + nI (c % 4)).toNatClampNeg = 4 * s + c % 4 := pk_cl (4 * s + c % 4) (cm_i4 s (c % 4))
    have is : vp_in (4 * nI s + nI (c % 4)) 80 := pk_in (4 * s + c % 4) 80 (by omega) (cm_i4 s (c % 4))
    unfold wpX_write
    dsimp only
    rw [cm_sh2 (show c < 2 ^ 31 by omega), cm_an3 (show c < 2 ^ 31 by omega)]
    refine cm_xm4 hi hj ha hm ?_
    rw [nI_clamp (show 5 * i + c / 4 < 2 ^ 31 by omega), eo]
    refine br_t (cm_ge0 (by omega)) ⟨vp_in_nI (by omega) (by decide), is, nm_r (by rw [cs]) ?_⟩
    unfold wpY_write
    dsimp only
    refine cm_yp1 hi ?_
    rw [e3, e2]
    refine br_f cm_10 (br_f hc0 (br_t hc19 ⟨ii, br_f (by rw [ci]; exact ha) ⟨cm_40, it, nm_r (e' := nI s) (by rw [ct, es]) (br_t (cm_ge0 (by omega)) ⟨cm_40, is, nm_r (by rw [cs]) ?_⟩)⟩⟩))
    exact ⟨rfl, _, _, _, _, _, _, _, _, rfl, rfl, T, D⟩
theorem i_vc_read {k : Nat} {u : SX} {v : SY} (I : i_Rel k u v) (hk : k + 4 ≤ 2049) (v1 : Int32) (v2 : Int32) : wpX_read (fun r => wpY_read (fun r' => r' = r ∧ i_Rel (k + 4) u v) v v1 v2) u v1 v2 := by
  have J : i_Rel (k + 4) u v := I
  obtain ⟨fr, al, mp, sh, so, va, st, op, rfl, rfl, T, D⟩ := I
  generalize i_Rel (k + 4) (fr, al, mp, sh, so, va) (al, st, op, va) = R at J ⊢
  have hbad1 : (v1 < 0 ∨ nI 4 ≤ v1) → wpX_read (fun r => wpY_read (fun r' => r' = r ∧ R) (al, st, op, va) v1 v2) (fr, al, mp, sh, so, va) v1 v2 := by
    intro h
    unfold wpX_read
    dsimp only
    refine cm_xm0 h ?_
    refine br_f cm_m1' ?_
    unfold wpY_read
    dsimp only
    refine cm_yp0 h ?_
    exact br_t rfl ⟨rfl, J⟩
  rcases pk_ix v1 (n := 4) (by decide) with h | h | ⟨i, hi, rfl⟩
  · exact hbad1 (Or.inl h)
  · exact hbad1 (Or.inr h)
  have hbad2 : (v2 < 0 ∨ nI 20 ≤ v2) → wpX_read (fun r => wpY_read (fun r' => r' = r ∧ R) (al, st, op, va) (nI i) v2) (fr, al, mp, sh, so, va) (nI i) v2 := by
    intro h
    unfold wpX_read
    dsimp only
    refine cm_xm1 hi (cm_cell h) ?_
    refine br_f cm_m1' ?_
    unfold wpY_read
    dsimp only
    refine cm_yp1 hi ?_
    refine br_f cm_10 ?_
    by_cases h0 : v2 < 0
    · exact br_t h0 ⟨rfl, J⟩
    · exact br_f h0 (br_t (cm_ltle (b := nI 20) (by decide) (h.resolve_left h0)) ⟨rfl, J⟩)
  rcases pk_ix v2 (n := 20) (by decide) with h | h | ⟨c, hc, rfl⟩
  · exact hbad2 (Or.inl h)
  · exact hbad2 (Or.inr h)
  have hj : c / 4 < 5 := by omega
  have e2 := cm_dv4 (n := c) (by omega)
  have e3 := cm_rm4 (n := c) (by omega)
  have ct : (5 * nI i + nI (c / 4)).toNatClampNeg = 5 * i + c / 4 := pk_cl (5 * i + c / 4) (cm_i5 i (c / 4))
  have it : vp_in (5 * nI i + nI (c / 4)) 20 := pk_in (5 * i + c / 4) 20 (by omega) (cm_i5 i (c / 4))
  have hc0 : ¬ nI c < 0 := nI_pos (by omega)
  have hc19 : ¬ 19 < nI c := nI_nlt (a := 19) (by omega) (by decide)
  have hun : mp (5 * i + c / 4) = 0 → wpY_read (fun r' => r' = 0 ∧ R) (al, st, op, va) (nI i) (nI c) := by
    intro hm
    have es := cm_un T (t := 5 * i + c / 4) (by omega) hm
    unfold wpY_read
    dsimp only
    refine cm_yp1 hi ?_
    rw [e3, e2]
    exact br_f cm_10 (br_f hc0 (br_f hc19 ⟨cm_40, it, br_f (by rw [ct, es]; decide) ⟨rfl, J⟩⟩))
  by_cases ha : al i = 0
  · unfold wpX_read
    dsimp only
    rw [cm_sh2 (show c < 2 ^ 31 by omega)]
    refine cm_xm2 hi hj ha ?_
    refine br_f cm_m2' ?_
    exact hun (D i (c / 4) hi hj ha)
  by_cases hm : mp (5 * i + c / 4) = 0
  · unfold wpX_read
    dsimp only
    rw [cm_sh2 (show c < 2 ^ 31 by omega)]
    refine cm_xm3 hi hj ha hm ?_
    refine br_f cm_m3' ?_
    exact hun hm
  · obtain ⟨_, s, hs, eo, es⟩ := cm_ma T (t := 5 * i + c / 4) (by omega) hm
    have cs : (4 * nI s + nI (c % 4)).toNatClampNeg = 4 * s + c % 4 := pk_cl (4 * s + c % 4) (cm_i4 s (c % 4))
    have is : vp_in (4 * nI s + nI (c % 4)) 80 := pk_in (4 * s + c % 4) 80 (by omega) (cm_i4 s (c % 4))
    unfold wpX_read
    dsimp only
    rw [cm_sh2 (show c < 2 ^ 31 by omega), cm_an3 (show c < 2 ^ 31 by omega)]
    refine cm_xm4 hi hj ha hm ?_
    rw [nI_clamp (show 5 * i + c / 4 < 2 ^ 31 by omega), eo]
    refine br_t (cm_ge0 (by omega)) ⟨vp_in_nI (by omega) (by decide), is, ?_⟩
    unfold wpY_read
    dsimp only
    refine cm_yp1 hi ?_
    rw [e3, e2, ct, es]
    exact br_f cm_10 (br_f hc0 (br_f hc19 ⟨cm_40, it, br_t (cm_ge0 (by omega)) ⟨cm_40, it, cm_40, is, rfl, J⟩⟩))
