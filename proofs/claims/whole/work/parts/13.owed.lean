/-! what is owed -/
/-- both hold the row (r, s): the class as its code, beside the finished table; the reference as its array, and its distances where it says that it knows them -/
def i_Rel (_ : Nat) (u : SX) (v : SY) : Prop := ∃ r s t q kn a o, r < 120 ∧ s < 32 ∧ gs_TF t ∧ gs_K kn a ∧ u = (nI (gs_cd r s), t, q, 161051) ∧ v = (kn, gs_R r s, a, o)
theorem i_up {k : Nat} {u : SX} {v : SY} (h : i_Rel k u v) : i_Rel (k + 3) u v := h
theorem i_vc0 : wpX_init (fun u => wpY_init (fun v => i_Rel 0 u v)) := by
  refine gs_xinit (fun t q hT => gs_yinit ⟨0, 0, t, q, 0, _, _, by decide, by decide, hT, Or.inl rfl, ?_, rfl⟩)
  rw [gs_cd00]
  rfl
theorem i_vc_load {k : Nat} {u : SX} {v : SY} (I : i_Rel k u v) (hk : k + 3 ≤ 1536) (v1 : Int32) : wpX_load (fun r u' => wpY_load (fun r' v' => r' = r ∧ i_Rel (k + 3) u' v') v v1) u v1 := by
  obtain ⟨r, s, t, q, kn, a, o, hr, hs, hT, hK, rfl, rfl⟩ := I
  have keep : ∀ o, i_Rel (k + 3) (nI (gs_cd r s), t, q, 161051) (kn, gs_R r s, a, o) := fun o => ⟨r, s, t, q, kn, a, o, hr, hs, hT, hK, rfl, rfl⟩
  unfold wpX_load
  dsimp only
  refine gs_xdo_any ?_ ?_
  · intro hb
    refine br_t (show (-1 : Int32) = -1 from rfl) (gs_yload (gs_R5_R r s) (fun _ o => ⟨rfl, keep o⟩) (fun c _ _ o _ => ⟨rfl, keep o⟩) ?_)
    intro c hc e o w' hl
    subst e
    rcases hb with z | z
    · exact absurd z (nI_pos hc)
    · exact absurd z (nI_ge (b := 161051) hl (by decide))
  · intro c hc e
    by_cases hm : gs_mk (gs_ds c) 5 = 62
    · obtain ⟨r', s', hr', hs', ec, hd⟩ := gs_ld1 hc hm
      have h6 := gs_D6 hr' hs'
      have et : t c - 1 = nI (gs_D r' s') := by rw [ec, hT.1 r' s' hr' hs', nI_pred]
      rw [et]
      refine br_f (gs_nm1 (by omega)) (gs_yload (gs_R5_R r s) ?_ ?_ ?_)
      · intro z
        rw [e] at z
        exact absurd z (nI_pos (by omega))
      · intro c' hc' e' o hb
        have ee := (nI_eq (by omega) hc').mp (e.symm.trans e')
        subst ee
        rcases hb with z | z
        · omega
        · exact absurd hm z
      · intro c' hc' e' o w' _ _ h5 hw
        have ee := (nI_eq (by omega) hc').mp (e.symm.trans e')
        subst ee
        refine ⟨rfl, r', s', t, q, kn, a, o, hr', hs', hT, hK, by rw [e, ← ec], ?_⟩
        have ew : w' = gs_R r' s' := by
          funext x
          by_cases z : x < 5
          · rw [hw x z, ← hd x z, gs_sv_dg hr' z, gs_R_p z]
          · rw [h5 x (by omega)]; exact (if_neg z).symm
        rw [ew]
    · have et : t c - 1 = -1 := by rw [hT.2 c (gs_ld0 hm)]; decide
      rw [et]
      refine br_t (show (-1 : Int32) = -1 from rfl) (gs_yload (gs_R5_R r s) (fun _ o => ⟨rfl, keep o⟩) (fun c _ _ o _ => ⟨rfl, keep o⟩) ?_)
      intro c' hc' e' o w' _ hm'
      have ee := (nI_eq (by omega) hc').mp (e.symm.trans e')
      subst ee
      exact absurd hm' hm
theorem i_vc_code {k : Nat} {u : SX} {v : SY} (I : i_Rel k u v) (hk : k + 3 ≤ 1536) : wpX_code (fun r => wpY_code (fun r' => r' = r ∧ i_Rel (k + 3) u v) v) u := by
  obtain ⟨r, s, t, q, kn, a, o, hr, hs, hT, hK, rfl, rfl⟩ := I
  exact gs_ycode hr ⟨rfl, r, s, t, q, kn, a, o, hr, hs, hT, hK, rfl, rfl⟩
theorem i_vc_at {k : Nat} {u : SX} {v : SY} (I : i_Rel k u v) (hk : k + 3 ≤ 1536) (v1 : Int32) : wpX_at (fun r => wpY_at (fun r' => r' = r ∧ i_Rel (k + 3) u v) v v1) u v1 := by
  obtain ⟨r, s, t, q, kn, a, o, hr, hs, hT, hK, rfl, rfl⟩ := I
  have R : i_Rel (k + 3) (nI (gs_cd r s), t, q, 161051) (kn, gs_R r s, a, o) := ⟨r, s, t, q, kn, a, o, hr, hs, hT, hK, rfl, rfl⟩
  unfold wpX_at wpY_at
  dsimp only
  refine gs_xplace ?_ ?_
  · intro n hn e
    subst e
    refine br_f (show ¬ (1 : Int32) = 0 by decide) (gs_xmk hr hn (gs_yplace ?_ ?_))
    · intro n' hn' e'
      refine br_f (show ¬ (1 : Int32) = 0 by decide) ⟨vp_in_nI hn (by decide), ?_, R⟩
      rw [nI_clamp (by omega), gs_R_p hn]
    · intro z
      rcases z with z | z
      · exact absurd z (nI_pos (by omega))
      · exact absurd z (nI_ge (b := 5) hn (by decide))
  · intro z
    refine br_t (show (0 : Int32) = 0 from rfl) (gs_yplace ?_ ?_)
    · intro n hn e
      subst e
      rcases z with z | z
      · exact absurd z (nI_pos (by omega))
      · exact absurd z (nI_ge (b := 5) hn (by decide))
    · intro _
      exact br_t (show (0 : Int32) = 0 from rfl) ⟨rfl, R⟩
theorem i_vc_turn {k : Nat} {u : SX} {v : SY} (I : i_Rel k u v) (hk : k + 3 ≤ 1536) (v1 : Int32) (v2 : Int32) : wpX_turn (fun r u' => wpY_turn (fun r' v' => r' = r ∧ i_Rel (k + 3) u' v') v v1 v2) u v1 v2 := by
  obtain ⟨r, s, t, q, kn, a, o, hr, hs, hT, hK, rfl, rfl⟩ := I
  unfold wpX_turn
  dsimp only
  refine gs_xpiece ?_ ?_
  · rintro ⟨i, j, hij, hj, rfl, rfl⟩
    refine br_f (show ¬ (1 : Int32) = 0 by decide) (gs_xturned hr hs hij hj (gs_yturn hr hs ?_ ?_))
    · intro i' j' hij' hj' e1 e2
      have ei := (nI_eq (by omega) (by omega)).mp e1
      have ej := (nI_eq (by omega) (by omega)).mp e2
      subst ei ej
      exact ⟨rfl, _, _, t, q, kn, a, o, (gs_tr_in hr hij hj).1, (gs_ts_in hs hij hj).1, hT, hK, rfl, rfl⟩
    · intro n
      exact absurd ⟨i, j, hij, hj, rfl, rfl⟩ n
  · intro n
    refine br_t (show (0 : Int32) = 0 from rfl) (gs_yturn hr hs ?_ ?_)
    · intro i j hij hj e1 e2
      exact absurd ⟨i, j, hij, hj, e1, e2⟩ n
    · intro _
      exact ⟨rfl, r, s, t, q, kn, a, o, hr, hs, hT, hK, rfl, rfl⟩
theorem gs_R_sw {r s i j : Nat} (hr : r < 120) (hs : s < 32) (hi : i < 5) (hj : j < 5) : upd (upd (gs_R r s) i (gs_R r s j)) j (gs_R r s i) = gs_R (gs_sw r i j) (gs_ss s i j) := by
  funext x
  by_cases c5 : x < 5
  · rw [gs_R_p (r := gs_sw r i j) (s := gs_ss s i j) c5, gs_sv_s hr hs hi hj c5, gs_R_p hi, gs_R_p hj]
    by_cases c1 : x = j
    · rw [c1, pk_us]
      by_cases c2 : j = i
      · rw [if_pos c2, c2]
      · rw [if_neg c2, if_pos rfl]
    · rw [pk_un c1]
      by_cases c2 : x = i
      · rw [c2, pk_us, if_pos rfl]
      · rw [pk_un c2, if_neg c2, if_neg c1, gs_R_p c5]
  · rw [pk_un (by omega), pk_un (by omega)]
    exact (if_neg c5).trans (if_neg c5).symm
theorem i_vc_swap {k : Nat} {u : SX} {v : SY} (I : i_Rel k u v) (hk : k + 3 ≤ 1536) (v1 : Int32) (v2 : Int32) : wpX_swap (fun r u' => wpY_swap (fun r' v' => r' = r ∧ i_Rel (k + 3) u' v') v v1 v2) u v1 v2 := by
  obtain ⟨r, s, t, q, kn, a, o, hr, hs, hT, hK, rfl, rfl⟩ := I
  have R : i_Rel (k + 3) (nI (gs_cd r s), t, q, 161051) (kn, gs_R r s, a, o) := ⟨r, s, t, q, kn, a, o, hr, hs, hT, hK, rfl, rfl⟩
  have no : ∀ (x : Int32) (n : Nat), n < 5 → (x < 0 ∨ 5 ≤ x) → ¬ x = nI n := by
    intro x n hn z e
    subst e
    rcases z with z | z
    · exact nI_pos (by omega) z
    · exact nI_ge (b := 5) hn (by decide) z
  unfold wpX_swap wpY_swap
  dsimp only
  refine br_c (fun e => br_t e ⟨rfl, R⟩) (fun e => gs_xplace ?_ ?_)
  · intro i hi e1
    refine br_f (show ¬ (1 : Int32) = 0 by decide) (gs_xplace ?_ ?_)
    · intro j hj e2
      subst e1 e2
      refine br_f (show ¬ (1 : Int32) = 0 by decide) (gs_xswapped hr hs hi hj (br_f e (gs_yplace ?_ (fun z => absurd rfl (no _ i hi z)))))
      intro i' hi' e1'
      refine br_f (show ¬ (1 : Int32) = 0 by decide) (gs_yplace ?_ (fun z => absurd rfl (no _ j hj z)))
      intro j' hj' e2'
      refine br_f (show ¬ (1 : Int32) = 0 by decide) ?_
      rw [nI_clamp (by omega), nI_clamp (by omega)]
      refine ⟨vp_in_nI hi (by decide), nm_e ⟨vp_in_nI hj (by decide), vp_in_nI hi (by decide), nm_e ⟨vp_in_nI hj (by decide), nm_r (gs_R_sw hr hs hi hj) ⟨rfl, ?_⟩⟩⟩⟩
      exact ⟨_, _, t, q, kn, a, o, gs_sw_in hr hi hj, gs_ss_in hs hi hj, hT, hK, rfl, rfl⟩
    · intro z
      refine br_t (show (0 : Int32) = 0 from rfl) (br_f e (gs_yplace ?_ ?_))
      · intro i' hi' e1'
        refine br_f (show ¬ (1 : Int32) = 0 by decide) (gs_yplace ?_ ?_)
        · intro j' hj' e2'
          exact absurd e2' (no _ j' hj' z)
        · intro _
          exact br_t (show (0 : Int32) = 0 from rfl) ⟨rfl, R⟩
      · intro z'
        exact absurd e1 (no _ i hi z')
  · intro z
    refine br_t (show (0 : Int32) = 0 from rfl) (br_f e (gs_yplace ?_ ?_))
    · intro i' hi' e1'
      exact absurd e1' (no _ i' hi' z)
    · intro _
      exact br_t (show (0 : Int32) = 0 from rfl) ⟨rfl, R⟩
theorem gs_R_fl {r s p : Nat} (hr : r < 120) (hs : s < 32) (hp : p < 5) : upd (gs_R r s) p (-(gs_R r s p)) = gs_R (gs_tr r p p) (gs_ts s p p) := by
  funext x
  by_cases c5 : x < 5
  · rw [gs_R_p (r := gs_tr r p p) (s := gs_ts s p p) c5, gs_sv_t hr hs (Nat.le_refl p) hp c5]
    by_cases c : x = p
    · rw [c, pk_us, if_pos ⟨Nat.le_refl p, Nat.le_refl p⟩, gs_R_p hp, show p + p - p = p from by omega]
    · rw [pk_un c, if_neg (by omega), gs_R_p c5]
  · rw [pk_un (by omega)]
    exact (if_neg c5).trans (if_neg c5).symm
theorem i_vc_flip {k : Nat} {u : SX} {v : SY} (I : i_Rel k u v) (hk : k + 3 ≤ 1536) (v1 : Int32) : wpX_flip (fun r u' => wpY_flip (fun r' v' => r' = r ∧ i_Rel (k + 3) u' v') v v1) u v1 := by
  obtain ⟨r, s, t, q, kn, a, o, hr, hs, hT, hK, rfl, rfl⟩ := I
  have R : i_Rel (k + 3) (nI (gs_cd r s), t, q, 161051) (kn, gs_R r s, a, o) := ⟨r, s, t, q, kn, a, o, hr, hs, hT, hK, rfl, rfl⟩
  unfold wpX_flip wpY_flip
  dsimp only
  refine gs_xplace ?_ ?_
  · intro n hn e
    subst e
    refine br_f (show ¬ (1 : Int32) = 0 by decide) (gs_xturned hr hs (Nat.le_refl n) hn (gs_yplace ?_ ?_))
    · intro n' hn' e'
      refine br_f (show ¬ (1 : Int32) = 0 by decide) ?_
      rw [nI_clamp (by omega)]
      refine ⟨vp_in_nI hn (by decide), vp_in_nI hn (by decide), nm_r (gs_R_fl hr hs hn) ⟨rfl, ?_⟩⟩
      exact ⟨_, _, t, q, kn, a, o, (gs_tr_in hr (Nat.le_refl n) hn).1, (gs_ts_in hs (Nat.le_refl n) hn).1, hT, hK, rfl, rfl⟩
    · intro z
      rcases z with z | z
      · exact absurd z (nI_pos (by omega))
      · exact absurd z (nI_ge (b := 5) hn (by decide))
  · intro z
    refine br_t (show (0 : Int32) = 0 from rfl) (gs_yplace ?_ ?_)
    · intro n hn e
      subst e
      rcases z with z | z
      · exact absurd z (nI_pos (by omega))
      · exact absurd z (nI_ge (b := 5) hn (by decide))
    · intro _
      exact br_t (show (0 : Int32) = 0 from rfl) ⟨rfl, R⟩
theorem i_vc_distance {k : Nat} {u : SX} {v : SY} (I : i_Rel k u v) (hk : k + 3 ≤ 1536) : wpX_distance (fun r => wpY_distance (fun r' v' => r' = r ∧ i_Rel (k + 3) u v') v) u := by
  obtain ⟨r, s, t, q, kn, a, o, hr, hs, hT, hK, rfl, rfl⟩ := I
  unfold wpX_distance
  dsimp only
  exact gs_xdot hT hr hs (gs_ydist hr hs hK (fun kn' b hF => ⟨rfl, r, s, t, q, kn', b, o, hr, hs, hT, Or.inr hF, rfl, rfl⟩))
theorem i_vc_distanceAfter {k : Nat} {u : SX} {v : SY} (I : i_Rel k u v) (hk : k + 3 ≤ 1536) (v1 : Int32) (v2 : Int32) : wpX_distanceAfter (fun r => wpY_distanceAfter (fun r' v' => r' = r ∧ i_Rel (k + 3) u v') v v1 v2) u v1 v2 := by
  obtain ⟨r, s, t, q, kn, a, o, hr, hs, hT, hK, rfl, rfl⟩ := I
  unfold wpX_distanceAfter
  dsimp only
  refine gs_xpiece ?_ ?_
  · rintro ⟨i, j, hij, hj, rfl, rfl⟩
    refine br_f (show ¬ (1 : Int32) = 0 by decide) (gs_xdt hT hr hs hij hj (gs_yda hr hs hK ?_ ?_))
    · intro i' j' hij' hj' e1 e2 kn' b hF
      have ei := (nI_eq (by omega) (by omega)).mp e1
      have ej := (nI_eq (by omega) (by omega)).mp e2
      subst ei ej
      exact ⟨rfl, r, s, t, q, kn', b, o, hr, hs, hT, Or.inr hF, rfl, rfl⟩
    · intro n
      exact absurd ⟨i, j, hij, hj, rfl, rfl⟩ n
  · intro n
    refine br_t (show (0 : Int32) = 0 from rfl) (gs_yda hr hs hK ?_ ?_)
    · intro i j hij hj e1 e2
      exact absurd ⟨i, j, hij, hj, e1, e2⟩ n
    · intro _
      exact ⟨rfl, r, s, t, q, kn, a, o, hr, hs, hT, hK, rfl, rfl⟩
theorem i_vc_goodTurns {k : Nat} {u : SX} {v : SY} (I : i_Rel k u v) (hk : k + 3 ≤ 1536) : wpX_goodTurns (fun r => wpY_goodTurns (fun r' v' => r' = r ∧ i_Rel (k + 3) u v') v) u := by
  obtain ⟨r, s, t, q, kn, a, o, hr, hs, hT, hK, rfl, rfl⟩ := I
  exact gs_xgood hT hr hs (gs_ygood hr hs hK (fun kn' b hK' => ⟨rfl, r, s, t, q, kn', b, o, hr, hs, hT, hK', rfl, rfl⟩))
theorem i_vc_firstGood {k : Nat} {u : SX} {v : SY} (I : i_Rel k u v) (hk : k + 3 ≤ 1536) : wpX_firstGood (fun r => wpY_firstGood (fun r' v' => r' = r ∧ i_Rel (k + 3) u v') v) u := by
  obtain ⟨r, s, t, q, kn, a, o, hr, hs, hT, hK, rfl, rfl⟩ := I
  exact gs_xfirst hT hr hs (fun x hx => gs_yfirst hr hs hK (fun y kn' b hy hK' => ⟨gs_Fst_u hy hx, r, s, t, q, kn', b, o, hr, hs, hT, hK', rfl, rfl⟩))
theorem gs_sortM {k M r s : Nat} {t q a o : Nat → Int32} {kn : Int32} (hM : M ≤ 9) (hr : r < 120) (hs : s < 32) (hT : gs_TF t) (hK : gs_K kn a) (W : (Int32 → SY → Prop) → Prop) (hW : ∀ post, wY_sort_12 post (nI M) kn (gs_R r s) a o → W post) : wX_sort_15 (fun r u' => W (fun r' v' => r' = r ∧ i_Rel k u' v')) (nI M) t q 161051 (M + 1) 0 (nI (gs_cd r s)) := by
  refine gs_x15 hT hM M 0 r s (by omega) hr hs ?_
  intro d r' s' hr' hs' hS
  refine hW _ ?_
  unfold wY_sort_12
  refine gs_yfirst hr hs hK (fun x kn' b hx hK' => ⟨M + 1, ?_⟩)
  refine gs_y21 hM M 0 r s x kn' b (by omega) hr hs hK' hx ?_
  intro d' r'' s'' kn'' b' hr'' hs'' hS' hK''
  obtain ⟨e1, e2, e3⟩ := gs_So_u _ _ _ _ _ _ _ _ _ hS hS'
  subst e1 e2 e3
  exact ⟨rfl, _, _, t, q, kn'', b', o, hr', hs', hT, hK'', rfl, rfl⟩
theorem i_vc_sort {k : Nat} {u : SX} {v : SY} (I : i_Rel k u v) (hk : k + 3 ≤ 1536) (v1 : Int32) : wpX_sort (fun r u' => wpY_sort (fun r' v' => r' = r ∧ i_Rel (k + 3) u' v') v v1) u v1 := by
  obtain ⟨r, s, t, q, kn, a, o, hr, hs, hT, hK, rfl, rfl⟩ := I
  unfold wpX_sort wpY_sort
  dsimp only
  refine br_c (fun h9 => ?_) (fun h9 => ?_)
  · by_cases hn : v1 < 0
    · refine ⟨1, br_t (Int32.le_of_lt hn) (br_t h9 ?_)⟩
      unfold wY_sort_12
      exact gs_yfirst hr hs hK (fun x kn' b hx hK' => ⟨1, br_t (Int32.le_of_lt hn) ⟨rfl, r, s, t, q, kn', b, o, hr, hs, hT, hK', rfl, rfl⟩⟩)
    · obtain ⟨M, hM, e⟩ := nI_of2 (M := 9) (n := 9) (by decide) hn h9
      subst e
      exact ⟨M + 1, gs_sortM hM hr hs hT hK (fun post => (nI M ≤ 9 → wY_sort_12 post (nI M) kn (gs_R r s) a o) ∧ (¬ nI M ≤ 9 → wY_sort_12 post 9 kn (gs_R r s) a o)) (fun post h => br_t h9 h)⟩
  · exact ⟨10, gs_sortM (M := 9) (Nat.le_refl 9) hr hs hT hK (fun post => (v1 ≤ 9 → wY_sort_12 post v1 kn (gs_R r s) a o) ∧ (¬ v1 ≤ 9 → wY_sort_12 post 9 kn (gs_R r s) a o)) (fun post h => br_f h9 h)⟩
theorem i_vc_breaks {k : Nat} {u : SX} {v : SY} (I : i_Rel k u v) (hk : k + 3 ≤ 1536) : wpX_breaks (fun r => wpY_breaks (fun r' => r' = r ∧ i_Rel (k + 3) u v) v) u := by
  obtain ⟨r, s, t, q, kn, a, o, hr, hs, hT, hK, rfl, rfl⟩ := I
  exact gs_xbreaks hr (gs_ybreaks ⟨rfl, r, s, t, q, kn, a, o, hr, hs, hT, hK, rfl, rfl⟩)
theorem i_vc_worstSigns {k : Nat} {u : SX} {v : SY} (I : i_Rel k u v) (hk : k + 3 ≤ 1536) : wpX_worstSigns (fun r => wpY_worstSigns (fun r' v' => r' = r ∧ i_Rel (k + 3) u v') v) u := by
  obtain ⟨r, s, t, q, kn, a, o, hr, hs, hT, hK, rfl, rfl⟩ := I
  exact gs_xworst hT hr hs (fun x hx => gs_yworst hr hs hK (fun y kn' b hy hK' => ⟨gs_Big_u hy hx, r, s, t, q, kn', b, o, hr, hs, hT, hK', rfl, rfl⟩))
theorem i_vc_bestSigns {k : Nat} {u : SX} {v : SY} (I : i_Rel k u v) (hk : k + 3 ≤ 1536) : wpX_bestSigns (fun r => wpY_bestSigns (fun r' v' => r' = r ∧ i_Rel (k + 3) u v') v) u := by
  obtain ⟨r, s, t, q, kn, a, o, hr, hs, hT, hK, rfl, rfl⟩ := I
  exact gs_xbest hT hr hs (fun x hx => gs_ybest hr hs hK (fun y kn' b hy hK' => ⟨gs_Sml_u hy hx, r, s, t, q, kn', b, o, hr, hs, hT, hK', rfl, rfl⟩))
theorem i_vc_idleTurns {k : Nat} {u : SX} {v : SY} (I : i_Rel k u v) (hk : k + 3 ≤ 1536) : wpX_idleTurns (fun r => wpY_idleTurns (fun r' v' => r' = r ∧ i_Rel (k + 3) u v') v) u := by
  obtain ⟨r, s, t, q, kn, a, o, hr, hs, hT, hK, rfl, rfl⟩ := I
  exact gs_xidle hT hr hs (gs_yidle hr hs hK (fun kn' b hK' => ⟨rfl, r, s, t, q, kn', b, o, hr, hs, hT, hK', rfl, rfl⟩))
