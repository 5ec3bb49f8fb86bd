section
variable {fr : Int32} {al al1 sh so va op : Nat → Int32}
theorem cm_ex {p : Nat} (hp : p < 4) : ∀ d j c (mp st : Nat → Int32), j + d = 5 → cm_T mp sh so st op → (∀ i j', i < 4 → j' < 5 → i ≠ p → al i = 0 → mp (5 * i + j') = 0) → (∀ j', j' < j → mp (5 * p + j') = 0) →
    ∃ (c' : Nat) (mp' st' : Nat → Int32), cm_T mp' sh so st' op ∧ cm_D (upd al p (vp_nar .boolean 0)) mp'
      ∧ (∀ post : Int32 → SX → Prop, post (nI c') (fr, al1, mp', sh, so, va) → wX_exit_32 post (nI p) fr (d + 1) (nI c) (nI j) al1 mp sh so va)
      ∧ (∀ post : Int32 → SY → Prop, post (nI c') (upd al p (vp_nar .boolean 0), st', op, va) → wY_exit_26 post (nI p) (d + 1) (nI c) (nI j) al st op va) := by
  intro d
  induction d with
  | zero =>
    intro j c mp st hj T E F
    have cp : (nI p).toNatClampNeg = p := nI_clamp (by omega)
    have ip : vp_in (nI p) 4 := vp_in_nI hp (by decide)
    refine ⟨c, mp, st, T, ?_, fun post h => br_t (nI_le (a := 5) (by omega) (by omega)) h, fun post h => br_t (nI_le (a := 5) (by omega) (by omega)) ⟨ip, nm_r (by rw [cp]) h⟩⟩
    intro i j' hi hj' h
    by_cases e : i = p
    · rw [e]; exact F j' (by omega)
    · rw [pk_un e] at h
      exact E i j' hi hj' e h
  | succ d ih =>
    intro j c mp st hj T E F
    have hge : ¬ (5 : Int32) ≤ nI j := nI_ge (b := 5) (by omega) (by decide)
    have it : vp_in (nI (5 * p + j)) 20 := vp_in_nI (by omega) (by decide)
    have ct : (nI (5 * p + j)).toNatClampNeg = 5 * p + j := nI_clamp (by omega)
    have it2 : vp_in (5 * nI p + nI j) 20 := by rw [cm_i5]; exact it
    have ct2 : (5 * nI p + nI j).toNatClampNeg = 5 * p + j := by rw [cm_i5]; exact ct
    by_cases hm : mp (5 * p + j) = 0
    · have es := cm_un T (t := 5 * p + j) (by omega) hm
      obtain ⟨c', mp', st', T', D', hX, hY⟩ := ih (j + 1) c mp (upd st (5 * p + j) (-1)) (by omega) (cm_drop0 T hm) E (fun j' h => by
        by_cases e : j' = j
        · rw [e]; exact hm
        · exact F j' (by omega))
      refine ⟨c', mp', st', T', D', fun post h => ?_, fun post h => ?_⟩
      · exact br_f hge (nm_r (cm_i5 p j) ⟨it, br_t (by rw [ct]; exact hm) (nm_r (nI_1 j) (hX post h))⟩)
      · exact br_f hge ⟨it2, br_t (by rw [ct2, es]; decide) ⟨it2, nm_r (by rw [ct2]) (nm_r (nI_1 j) (hY post h))⟩⟩
    · obtain ⟨_, o, ho, eo, es⟩ := cm_ma T (t := 5 * p + j) (by omega) hm
      obtain ⟨c', mp', st', T', D', hX, hY⟩ := ih (j + 1) (c + 1) (upd mp (5 * p + j) (vp_nar .boolean 0)) (upd st (5 * p + j) (-1)) (by omega) (cm_drop T)
        (fun i j' hi hj' hne h => by rw [pk_un (by omega)]; exact E i j' hi hj' hne h)
        (fun j' h => by
          by_cases e : j' = j
          · rw [e, pk_us]; exact cm_nar0
          · rw [pk_un (by omega)]; exact F j' (by omega))
      refine ⟨c', mp', st', T', D', fun post h => ?_, fun post h => ?_⟩
      · exact br_f hge (nm_r (cm_i5 p j) ⟨it, br_f (by rw [ct]; exact hm) ⟨it, nm_r (by rw [ct]) (nm_r (nI_1 c) (nm_r (nI_1 j) (hX post h)))⟩⟩)
      · exact br_f hge ⟨it2, br_f (by rw [ct2, es]; exact nI_pos (by omega)) (nm_r (nI_1 c) ⟨it2, nm_r (by rw [ct2]) (nm_r (nI_1 j) (hY post h))⟩)⟩
end
theorem i_vc_exit {k : Nat} {u : SX} {v : SY} (I : i_Rel k u v) (hk : k + 4 ≤ 2049) (v1 : Int32) : wpX_exit (fun r u' => wpY_exit (fun r' v' => r' = r ∧ i_Rel (k + 4) u' v') v v1) u v1 := by
  obtain ⟨fr, al, mp, sh, so, va, st, op, rfl, rfl, T, D⟩ := I
  have J : i_Rel (k + 4) (fr, al, mp, sh, so, va) (al, st, op, va) := ⟨_, _, _, _, _, _, _, _, rfl, rfl, T, D⟩
  have hbad1 : (v1 < 0 ∨ nI 4 ≤ v1) → wpX_exit (fun r u' => wpY_exit (fun r' v' => r' = r ∧ i_Rel (k + 4) u' v') (al, st, op, va) v1) (fr, al, mp, sh, so, va) v1 := by
    intro h
    unfold wpX_exit
    dsimp only
    refine cm_xp0 h ?_
    refine br_t rfl ?_
    unfold wpY_exit
    dsimp only
    refine cm_yp0 h ?_
    exact br_t rfl ⟨rfl, J⟩
  rcases pk_ix v1 (n := 4) (by decide) with h | h | ⟨p, hp, rfl⟩
  · exact hbad1 (Or.inl h)
  · exact hbad1 (Or.inr h)
  have cp : (nI p).toNatClampNeg = p := nI_clamp (by omega)
  have ip : vp_in (nI p) 4 := vp_in_nI hp (by decide)
  unfold wpX_exit
  dsimp only
  refine cm_xp1 hp ?_
  refine br_f cm_10 ⟨ip, ?_⟩
  by_cases ha : al p = 0
  · refine br_t (by rw [cp]; exact ha) ?_
    unfold wpY_exit
    dsimp only
    refine cm_yp1 hp ?_
    exact br_f cm_10 ⟨ip, br_t (by rw [cp]; exact ha) ⟨rfl, J⟩⟩
  obtain ⟨c', mp', st', T', D', hX, hY⟩ := cm_ex (fr := fr) (al := al) (al1 := upd al p (vp_nar .boolean 0)) (va := va) hp 5 0 0 mp st rfl T (fun i j' hi hj' _ h => D i j' hi hj' h) (fun j' h => absurd h (Nat.not_lt_zero j'))
  refine br_f (by rw [cp]; exact ha) ⟨ip, nm_r (by rw [cp]) ⟨5 + 1, hX _ ?_⟩⟩
  unfold wpY_exit
  dsimp only
  refine cm_yp1 hp ?_
  refine br_f cm_10 ⟨ip, br_f (by rw [cp]; exact ha) ⟨5 + 1, hY _ ?_⟩⟩
  exact ⟨rfl, _, _, _, _, _, _, _, _, rfl, rfl, T', D'⟩
