section
variable {fr : Int32} {al : Nat → Int32}
/-- one page copied, on both sides -/
theorem cm_cp {mp sh so va st op : Nat → Int32} (T : cm_T mp sh so st op) {a b : Nat} (ha : a < 20) (hb : b < 20) (hm : ¬ mp a = 0) (hn : mp b = 0) :
    ∃ sh' so' va' st' op' : Nat → Int32, cm_T (upd mp b (vp_nar .boolean 1)) sh' so' st' op'
      ∧ (∀ post : SX → Prop, post (fr, al, upd mp b (vp_nar .boolean 1), sh', so', va') → wpX_copyPage post (fr, al, mp, sh, so, va) (nI a) (nI b))
      ∧ (∀ post : SY → Prop, post (al, st', op', va') → wpY_copyPage post (al, st, op, va) (nI a) (nI b)) := by
  have ia : vp_in (nI a) 20 := vp_in_nI ha (by decide)
  have ca : (nI a).toNatClampNeg = a := nI_clamp (by omega)
  obtain ⟨eop, o, ho, eo, es⟩ := cm_ma T ha hm
  have en := cm_un T hb hn
  have hf := cm_f_le st 19 0
  by_cases z : op a = 0
  · refine ⟨_, _, cm_cpy o (cm_f st 19 0) 4 0 va, _, _, cm_put T (t := b) (s := cm_f st 19 0) (by omega) (vp_nar .boolean (op a)), fun post hp => ?_, fun post hp => ?_⟩
    · unfold wpX_copyPage
      dsimp only
      rw [ca, eop, eo]
      refine ⟨ia, nm_e ⟨ia, br_t z ?_⟩⟩
      refine cm_xy T ho ?_
      dsimp only
      refine ⟨ia, ?_⟩
      rw [ca, eop]
      refine cm_xpl hb ?_
      exact hp
    · unfold wpY_copyPage
      dsimp only
      refine ⟨ia, nm_e ⟨ia, br_t (by rw [ca]; exact z) ?_⟩⟩
      refine cm_yn hb en ?_
      exact ⟨4 + 1, cm_yc_l ha hb ho (by omega) es 4 0 va rfl hp⟩
  · refine ⟨_, _, va, _, _, cm_put T (t := b) (s := o) ho (vp_nar .boolean (op a)), fun post hp => ?_, fun post hp => ?_⟩
    · unfold wpX_copyPage
      dsimp only
      rw [ca, eop, eo]
      refine ⟨ia, nm_e ⟨ia, br_f z ?_⟩⟩
      refine ⟨ia, ?_⟩
      rw [ca, eop]
      refine cm_xpl hb ?_
      exact hp
    · unfold wpY_copyPage
      dsimp only
      refine ⟨ia, nm_r (e' := nI o) (by rw [ca, es]) ⟨ia, br_f (by rw [ca]; exact z) ?_⟩⟩
      exact cm_yc_e ha hb hp
/-- the pages from j on, on both sides -/
theorem cm_fk {p q : Nat} (hp : p < 4) (hq : q < 4) (hal : ¬ al q = 0) : ∀ d j c (mp sh so va st op : Nat → Int32), j + d = 5 → cm_T mp sh so st op → cm_D al mp → (∀ j', j ≤ j' → j' < 5 → mp (5 * q + j') = 0) →
    ∃ (c' : Nat) (mp' sh' so' va' st' op' : Nat → Int32), cm_T mp' sh' so' st' op' ∧ cm_D al mp'
      ∧ (∀ post : Int32 → SX → Prop, post (nI c') (fr, al, mp', sh', so', va') → wX_fork_52 post (nI p) (nI q) (d + 1) (nI c) (nI j) fr al mp sh so va)
      ∧ (∀ post : Int32 → SY → Prop, post (nI c') (al, st', op', va') → wY_fork_54 post (nI p) (nI q) (d + 1) (nI c) (nI j) al st op va) := by
  intro d
  induction d with
  | zero =>
    intro j c mp sh so va st op hj T D U
    exact ⟨c, mp, sh, so, va, st, op, T, D, fun post h => br_t (nI_le (a := 5) (by omega) (by omega)) h, fun post h => br_t (nI_le (a := 5) (by omega) (by omega)) h⟩
  | succ d ih =>
    intro j c mp sh so va st op hj T D U
    have hge : ¬ (5 : Int32) ≤ nI j := nI_ge (b := 5) (by omega) (by decide)
    have it : vp_in (nI (5 * p + j)) 20 := vp_in_nI (by omega) (by decide)
    have ct : (nI (5 * p + j)).toNatClampNeg = 5 * p + j := nI_clamp (by omega)
    by_cases hm : mp (5 * p + j) = 0
    · have es := cm_un T (t := 5 * p + j) (by omega) hm
      obtain ⟨c', mp', sh', so', va', st', op', T', D', hX, hY⟩ := ih (j + 1) c mp sh so va st op (by omega) T D (fun j' h1 h2 => U j' (by omega) h2)
      refine ⟨c', mp', sh', so', va', st', op', T', D', fun post h => ?_, fun post h => ?_⟩
      · refine br_f hge (nm_r (cm_i5 p j) ⟨it, br_t (by rw [ct]; exact hm) (nm_r (nI_1 j) (hX post h))⟩)
      · refine br_f hge ?_
        rw [cm_i5, cm_i5]
        exact ⟨it, br_t (by rw [ct, es]; decide) (nm_r (nI_1 j) (hY post h))⟩
    · obtain ⟨_, o, ho, eo, es⟩ := cm_ma T (t := 5 * p + j) (by omega) hm
      obtain ⟨sh1, so1, va1, st1, op1, T1, hX1, hY1⟩ := cm_cp (fr := fr) (al := al) (va := va) T (a := 5 * p + j) (b := 5 * q + j) (by omega) (by omega) hm (U j (by omega) (by omega))
      obtain ⟨c', mp', sh', so', va', st', op', T', D', hX, hY⟩ := ih (j + 1) (c + 1) (upd mp (5 * q + j) (vp_nar .boolean 1)) sh1 so1 va1 st1 op1 (by omega) T1 (cm_D_put D (by omega) hal _) (fun j' h1 h2 => by rw [pk_un (by omega)]; exact U j' (by omega) h2)
      refine ⟨c', mp', sh', so', va', st', op', T', D', fun post h => ?_, fun post h => ?_⟩
      · refine br_f hge (nm_r (cm_i5 p j) ⟨it, br_f (by rw [ct]; exact hm) ?_⟩)
        rw [cm_i5]
        refine hX1 _ ?_
        exact nm_r (nI_1 c) (nm_r (nI_1 j) (hX post h))
      · refine br_f hge ?_
        rw [cm_i5, cm_i5]
        refine ⟨it, br_f (by rw [ct, es]; exact nI_pos (by omega)) ?_⟩
        refine hY1 _ ?_
        exact nm_r (nI_1 c) (nm_r (nI_1 j) (hY post h))
end
theorem i_vc_fork {k : Nat} {u : SX} {v : SY} (I : i_Rel k u v) (hk : k + 4 ≤ 2049) (v1 : Int32) (v2 : Int32) : wpX_fork (fun r u' => wpY_fork (fun r' v' => r' = r ∧ i_Rel (k + 4) u' v') v v1 v2) u v1 v2 := by
  obtain ⟨fr, al, mp, sh, so, va, st, op, rfl, rfl, T, D⟩ := I
  have J : i_Rel (k + 4) (fr, al, mp, sh, so, va) (al, st, op, va) := ⟨_, _, _, _, _, _, _, _, rfl, rfl, T, D⟩
  have hbad1 : (v1 < 0 ∨ nI 4 ≤ v1) → wpX_fork (fun r u' => wpY_fork (fun r' v' => r' = r ∧ i_Rel (k + 4) u' v') (al, st, op, va) v1 v2) (fr, al, mp, sh, so, va) v1 v2 := by
    intro h
    unfold wpX_fork
    dsimp only
    refine cm_xp0 h ?_
    refine br_t rfl ?_
    unfold wpY_fork
    dsimp only
    refine cm_yp0 h ?_
    exact br_t rfl ⟨rfl, J⟩
  rcases pk_ix v1 (n := 4) (by decide) with h | h | ⟨p, hp, rfl⟩
  · exact hbad1 (Or.inl h)
  · exact hbad1 (Or.inr h)
  have hbad2 : (v2 < 0 ∨ nI 4 ≤ v2) → wpX_fork (fun r u' => wpY_fork (fun r' v' => r' = r ∧ i_Rel (k + 4) u' v') (al, st, op, va) (nI p) v2) (fr, al, mp, sh, so, va) (nI p) v2 := by
    intro h
    unfold wpX_fork
    dsimp only
    refine cm_xp1 hp ?_
    refine br_f cm_10 ?_
    refine cm_xp0 h ?_
    refine br_t rfl ?_
    unfold wpY_fork
    dsimp only
    refine cm_yp1 hp ?_
    refine br_f cm_10 ?_
    refine cm_yp0 h ?_
    exact br_t rfl ⟨rfl, J⟩
  rcases pk_ix v2 (n := 4) (by decide) with h | h | ⟨q, hq, rfl⟩
  · exact hbad2 (Or.inl h)
  · exact hbad2 (Or.inr h)
  have cp : (nI p).toNatClampNeg = p := nI_clamp (by omega)
  have ip : vp_in (nI p) 4 := vp_in_nI hp (by decide)
  have cq : (nI q).toNatClampNeg = q := nI_clamp (by omega)
  have iq : vp_in (nI q) 4 := vp_in_nI hq (by decide)
  unfold wpX_fork
  dsimp only
  refine cm_xp1 hp ?_
  refine br_f cm_10 ?_
  refine cm_xp1 hq ?_
  refine br_f cm_10 ⟨ip, ?_⟩
  by_cases ha : al p = 0
  · refine br_t (by rw [cp]; exact ha) ?_
    unfold wpY_fork
    dsimp only
    refine cm_yp1 hp ?_
    refine br_f cm_10 ?_
    refine cm_yp1 hq ?_
    exact br_f cm_10 ⟨ip, br_t (by rw [cp]; exact ha) ⟨rfl, J⟩⟩
  refine br_f (by rw [cp]; exact ha) ⟨iq, ?_⟩
  by_cases hb : al q = 0
  · have hal : ¬ upd al q (vp_nar .boolean 1) q = 0 := by rw [pk_us]; exact cm_nar1
    have D1 : cm_D (upd al q (vp_nar .boolean 1)) mp := by
      intro i j hi hj h
      by_cases e : i = q
      · exact absurd (e ▸ h) hal
      · rw [pk_un e] at h
        exact D i j hi hj h
    obtain ⟨c', mp', sh', so', va', st', op', T', D', hX, hY⟩ := cm_fk (fr := fr) hp hq hal 5 0 0 mp sh so va st op rfl T D1 (fun j' _ h => D q j' hq h hb)
    refine br_t (by rw [cq]; exact hb) ⟨iq, nm_r (by rw [cq]) ⟨5 + 1, hX _ ?_⟩⟩
    unfold wpY_fork
    dsimp only
    refine cm_yp1 hp ?_
    refine br_f cm_10 ?_
    refine cm_yp1 hq ?_
    refine br_f cm_10 ⟨ip, br_f (by rw [cp]; exact ha) ⟨iq, br_t (by rw [cq]; exact hb) ⟨iq, nm_r (by rw [cq]) ⟨5 + 1, hY _ ?_⟩⟩⟩⟩
    exact ⟨rfl, _, _, _, _, _, _, _, _, rfl, rfl, T', D'⟩
  · refine br_f (by rw [cq]; exact hb) ?_
    unfold wpY_fork
    dsimp only
    refine cm_yp1 hp ?_
    refine br_f cm_10 ?_
    refine cm_yp1 hq ?_
    exact br_f cm_10 ⟨ip, br_f (by rw [cp]; exact ha) ⟨iq, br_f (by rw [cq]; exact hb) ⟨rfl, J⟩⟩⟩
