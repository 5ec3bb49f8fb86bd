section
variable {fr : Int32} {al mp sh so va st op : Nat → Int32}
theorem cm_sh_l (T : cm_T mp sh so st op) : ∀ d i c, i + d = 20 → ∃ r : Int32,
    (∀ post : Int32 → Prop, post r → wX_sheets_4 post fr al mp sh so va (d + 1) (nI c) (nI i))
    ∧ (∀ post : Int32 → Prop, post r → wY_sheets_4 post al st op va (d + 1) (nI c) (nI i)) := by
  intro d
  induction d with
  | zero =>
    intro i c hi
    exact ⟨nI c, fun _ h => br_t (nI_le (a := 20) (by omega) (by omega)) h, fun _ h => br_t (nI_le (a := 20) (by omega) (by omega)) h⟩
  | succ d ih =>
    intro i c hi
    have hge : ¬ (20 : Int32) ≤ nI i := nI_ge (b := 20) (by omega) (by decide)
    have hle := cm_c_le st (nI i) 20 0
    by_cases z : cm_c st (nI i) 20 0 = 0
    · obtain ⟨r, hX, hY⟩ := ih (i + 1) c (by omega)
      refine ⟨r, fun post h => br_f hge (cm_xs T (by omega) ?_), fun post h => br_f hge (cm_yu (fun _ => ?_) (fun y => absurd z y))⟩
      · rw [z]
        exact br_t (by decide) (nm_r (nI_1 i) (hX post h))
      · exact br_t rfl (nm_r (nI_1 i) (hY post h))
    · obtain ⟨r, hX, hY⟩ := ih (i + 1) (c + 1) (by omega)
      refine ⟨r, fun post h => br_f hge (cm_xs T (by omega) ?_), fun post h => br_f hge (cm_yu (fun y => absurd y z) (fun _ => ?_))⟩
      · exact br_f (nI_nle (by omega) (by omega)) (nm_r (nI_1 c) (nm_r (nI_1 i) (hX post h)))
      · exact br_f cm_10 (nm_r (nI_1 c) (nm_r (nI_1 i) (hY post h)))
theorem cm_yt_l {post : Int64 → Prop} {K : Int64 → Int32 → Prop} {s : Nat} (hs : s < 20) (z : ¬ cm_c st (nI s) 20 0 = 0) : ∀ d i (a : Int64), i + d = 4 → K (cm_sum va s d i a) (nI (s + 1)) → wY_total_13 post K (nI s) al st op va (d + 1) a (nI i) := by
  intro d
  induction d with
  | zero =>
    intro i a hi h
    exact br_t (nI_le (a := 4) (by omega) (by omega)) (nm_r (nI_1 s) h)
  | succ d ih =>
    intro i a hi h
    have hge : ¬ (4 : Int32) ≤ nI i := nI_ge (b := 4) (by omega) (by decide)
    have c1 := pk_cl (4 * s + i) (cm_i4 s i)
    refine br_f hge (cm_yu (fun y => absurd y z) (fun _ => ?_))
    exact br_f cm_10 ⟨pk_in (4 * s + i) 80 (by omega) (cm_i4 s i), nm_r (by rw [c1]) (nm_r (nI_1 i) (ih (i + 1) _ (by omega) h))⟩
theorem cm_yt_0 {post : Int64 → Prop} {K : Int64 → Int32 → Prop} {s : Nat} (z : cm_c st (nI s) 20 0 = 0) (a : Int64) (h : K a (nI (s + 1))) : ∀ d i, i + d = 4 → wY_total_13 post K (nI s) al st op va (d + 1) a (nI i) := by
  intro d
  induction d with
  | zero =>
    intro i hi
    exact br_t (nI_le (a := 4) (by omega) (by omega)) (nm_r (nI_1 s) h)
  | succ d ih =>
    intro i hi
    have hge : ¬ (4 : Int32) ≤ nI i := nI_ge (b := 4) (by omega) (by decide)
    refine br_f hge (cm_yu (fun _ => ?_) (fun y => absurd z y))
    exact br_t rfl (nm_r (nI_1 i) (ih (i + 1) (by omega)))
theorem cm_to_l (T : cm_T mp sh so st op) : ∀ d i (a : Int64), i + d = 20 → ∃ r : Int64,
    (∀ post : Int64 → Prop, post r → wX_total_4 post fr al mp sh so va (d + 1) a (nI i))
    ∧ (∀ post : Int64 → Prop, post r → wY_total_4 post al st op va (d + 1) a (nI i)) := by
  intro d
  induction d with
  | zero =>
    intro i a hi
    exact ⟨a, fun _ h => br_t (nI_le (a := 20) (by omega) (by omega)) h, fun _ h => br_t (nI_le (a := 20) (by omega) (by omega)) h⟩
  | succ d ih =>
    intro i a hi
    have hge : ¬ (20 : Int32) ≤ nI i := nI_ge (b := 20) (by omega) (by decide)
    have hle := cm_c_le st (nI i) 20 0
    by_cases z : cm_c st (nI i) 20 0 = 0
    · obtain ⟨r, hX, hY⟩ := ih (i + 1) a (by omega)
      refine ⟨r, fun post h => br_f hge (cm_xs T (by omega) ?_), fun post h => br_f hge ⟨4 + 1, cm_yt_0 z a (hY post h) 4 0 rfl⟩⟩
      rw [z]
      exact br_t (by decide) (nm_r (nI_1 i) (hX post h))
    · obtain ⟨r, hX, hY⟩ := ih (i + 1) (cm_sum va i 4 0 a) (by omega)
      refine ⟨r, fun post h => br_f hge (cm_xs T (by omega) ?_), fun post h => br_f hge ⟨4 + 1, cm_yt_l (by omega) z 4 0 a rfl (hY post h)⟩⟩
      refine br_f (nI_nle (by omega) (by omega)) ?_
      refine cm_xsum (by omega) ?_
      exact nm_r (by rw [cm_sum_add, Int64.add_zero]) (nm_r (nI_1 i) (hX post h))
end
theorem i_vc_total {k : Nat} {u : SX} {v : SY} (I : i_Rel k u v) (hk : k + 4 ≤ 2049) : wpX_total (fun r => wpY_total (fun r' => r' = r ∧ i_Rel (k + 4) u v) v) u := by
  have J : i_Rel (k + 4) u v := I
  obtain ⟨fr, al, mp, sh, so, va, st, op, rfl, rfl, T, D⟩ := I
  obtain ⟨r, hX, hY⟩ := cm_to_l (fr := fr) (al := al) (va := va) T 20 0 0 rfl
  exact ⟨20 + 1, hX _ ⟨20 + 1, hY _ ⟨rfl, J⟩⟩⟩
theorem i_vc_sheets {k : Nat} {u : SX} {v : SY} (I : i_Rel k u v) (hk : k + 4 ≤ 2049) : wpX_sheets (fun r => wpY_sheets (fun r' => r' = r ∧ i_Rel (k + 4) u v) v) u := by
  have J : i_Rel (k + 4) u v := I
  obtain ⟨fr, al, mp, sh, so, va, st, op, rfl, rfl, T, D⟩ := I
  obtain ⟨r, hX, hY⟩ := cm_sh_l (fr := fr) (al := al) (va := va) T 20 0 0 rfl
  exact ⟨20 + 1, hX _ ⟨20 + 1, hY _ ⟨rfl, J⟩⟩⟩
