/-! the reference's questions -/
theorem gs_yda {post : Int32 → SY → Prop} {kn p0 p1 : Int32} {a o : Nat → Int32} {r s : Nat} (hr : r < 120) (hs : s < 32) (hK : gs_K kn a) (h1 : ∀ i j, i ≤ j → j < 5 → p0 = nI i → p1 = nI j → ∀ kn' b, gs_Fu b → post (nI (gs_D (gs_tr r i j) (gs_ts s i j))) (kn', gs_R r s, b, o)) (h0 : ¬ gs_Pc p0 p1 → post (-1) (kn, gs_R r s, a, o)) : wpY_distanceAfter post (kn, gs_R r s, a, o) p0 p1 := by
  unfold wpY_distanceAfter
  dsimp only
  refine gs_yturn hr hs ?_ (fun n => br_t (show (0 : Int32) = 0 from rfl) (h0 n))
  intro i j hij hj e1 e2
  have t := gs_tr_in hr hij hj
  have u := gs_ts_in hs hij hj
  refine br_f (show ¬ (1 : Int32) = 0 by decide) (gs_ydist t.1 u.1 hK (fun kn' b hF => gs_yturn t.1 u.1 ?_ ?_))
  · intro i' j' hij' hj' e1' e2'
    have ei := (nI_eq (by omega) (by omega)).mp (e1.symm.trans e1')
    have ej := (nI_eq (by omega) (by omega)).mp (e2.symm.trans e2')
    subst ei ej
    rw [t.2, u.2]
    exact h1 i j hij hj e1 e2 kn' b hF
  · intro n
    exact absurd ⟨i, j, hij, hj, e1, e2⟩ n
theorem gs_ct_n {P : Nat → Nat → Bool} {c : Nat} (hn : ¬ gs_Pc (nI (c / 5)) (nI (c % 5))) : gs_ct P (c + 1) = gs_ct P c := by
  rw [gs_ct, if_neg (fun z => hn ⟨c / 5, c % 5, z.1, by omega, rfl, rfl⟩), Nat.add_zero]
theorem gs_yg {post : Int32 → SY → Prop} {o : Nat → Int32} {r s : Nat} (hr : r < 120) (hs : s < 32) (hp : ∀ kn b, gs_K kn b → post (nI (gs_ct (gs_G r s) 25)) (kn, gs_R r s, b, o)) :
    ∀ m c kn a, c + m = 25 → gs_K kn a → wY_goodTurns_9 post (nI (gs_D r s)) (m + 1) (nI (gs_ct (gs_G r s) c)) (nI c) kn (gs_R r s) a o := by
  intro m
  induction m with
  | zero =>
    intro c kn a hc hK
    have e : c = 25 := by omega
    subst e
    exact br_t (show (25 : Int32) ≤ nI 25 by decide) (hp kn a hK)
  | succ m ih =>
    intro c kn a hc hK
    have hc25 : c < 25 := by omega
    have e := gs_c5 hc25
    have h6 := gs_D6 hr hs
    refine br_f (nI_ge (b := 25) hc25 (by decide)) ⟨by decide, by decide, ?_⟩
    rw [e.2, e.1]
    refine gs_yda hr hs hK ?_ ?_
    · intro i j hij hj e1 e2 kn' b hF
      have ec := gs_pc5 hc25 hij hj e1 e2
      have h6' := gs_D6 (gs_tr_in hr hij hj).1 (gs_ts_in hs hij hj).1
      have k := ih (c + 1) kn' b (by omega) (Or.inr hF)
      refine br_f (nI_pos (by omega)) ?_
      by_cases g : gs_D (gs_tr r i j) (gs_ts s i j) < gs_D r s
      · rw [ec, gs_ct_t hij hj (decide_eq_true g)] at k
        rw [ec]
        exact br_f (nI_ge g (by omega)) (nm_r (nI_1 _) (nm_r (nI_1 _) k))
      · rw [ec, gs_ct_f hj (fun z => g (of_decide_eq_true z.2))] at k
        rw [ec]
        exact br_t (nI_le (by omega) (by omega)) (nm_r (nI_1 _) k)
    · intro n
      have k := ih (c + 1) kn a (by omega) hK
      rw [gs_ct_n n] at k
      exact br_t (show (-1 : Int32) < 0 by decide) (nm_r (nI_1 c) k)
theorem gs_ygood {post : Int32 → SY → Prop} {kn : Int32} {a o : Nat → Int32} {r s : Nat} (hr : r < 120) (hs : s < 32) (hK : gs_K kn a) (hp : ∀ kn b, gs_K kn b → post (nI (gs_ct (gs_G r s) 25)) (kn, gs_R r s, b, o)) : wpY_goodTurns post (kn, gs_R r s, a, o) := by
  unfold wpY_goodTurns
  dsimp only
  exact gs_ydist hr hs hK (fun kn' b hF => ⟨26, gs_yg hr hs hp 25 0 kn' b rfl (Or.inr hF)⟩)
theorem gs_yi {post : Int32 → SY → Prop} {o : Nat → Int32} {r s : Nat} (hr : r < 120) (hs : s < 32) (hp : ∀ kn b, gs_K kn b → post (nI (gs_ct (gs_E r s) 25)) (kn, gs_R r s, b, o)) :
    ∀ m c kn a, c + m = 25 → gs_K kn a → wY_idleTurns_9 post (nI (gs_D r s)) (m + 1) (nI (gs_ct (gs_E r s) c)) (nI c) kn (gs_R r s) a o := by
  intro m
  induction m with
  | zero =>
    intro c kn a hc hK
    have e : c = 25 := by omega
    subst e
    exact br_t (show (25 : Int32) ≤ nI 25 by decide) (hp kn a hK)
  | succ m ih =>
    intro c kn a hc hK
    have hc25 : c < 25 := by omega
    have e := gs_c5 hc25
    have h6 := gs_D6 hr hs
    refine br_f (nI_ge (b := 25) hc25 (by decide)) ⟨by decide, by decide, ?_⟩
    rw [e.2, e.1]
    refine gs_yda hr hs hK ?_ ?_
    · intro i j hij hj e1 e2 kn' b hF
      have ec := gs_pc5 hc25 hij hj e1 e2
      have h6' := gs_D6 (gs_tr_in hr hij hj).1 (gs_ts_in hs hij hj).1
      have k := ih (c + 1) kn' b (by omega) (Or.inr hF)
      by_cases g : gs_D (gs_tr r i j) (gs_ts s i j) = gs_D r s
      · rw [ec, gs_ct_t hij hj (decide_eq_true g)] at k
        rw [ec]
        exact br_t (by rw [g]) (nm_r (nI_1 _) (nm_r (nI_1 _) k))
      · rw [ec, gs_ct_f hj (fun z => g (of_decide_eq_true z.2))] at k
        rw [ec]
        exact br_f (fun z => g ((nI_eq (by omega) (by omega)).mp z)) (nm_r (nI_1 _) k)
    · intro n
      have k := ih (c + 1) kn a (by omega) hK
      rw [gs_ct_n n] at k
      exact br_f (fun z => gs_nm1 (by omega) z.symm) (nm_r (nI_1 c) k)
theorem gs_yidle {post : Int32 → SY → Prop} {kn : Int32} {a o : Nat → Int32} {r s : Nat} (hr : r < 120) (hs : s < 32) (hK : gs_K kn a) (hp : ∀ kn b, gs_K kn b → post (nI (gs_ct (gs_E r s) 25)) (kn, gs_R r s, b, o)) : wpY_idleTurns post (kn, gs_R r s, a, o) := by
  unfold wpY_idleTurns
  dsimp only
  exact gs_ydist hr hs hK (fun kn' b hF => ⟨26, gs_yi hr hs hp 25 0 kn' b rfl (Or.inr hF)⟩)
theorem gs_yf {post : Int32 → SY → Prop} {o : Nat → Int32} {r s : Nat} (hr : r < 120) (hs : s < 32) (hp : ∀ x kn b, gs_Fst (gs_G r s) x → gs_K kn b → post x (kn, gs_R r s, b, o)) :
    ∀ m c kn a, c + m = 25 → gs_K kn a → (∀ i j, i ≤ j → j < 5 → 5 * i + j < c → gs_G r s i j = false) → wY_firstGood_7 post (nI (gs_D r s)) (m + 1) (nI c) kn (gs_R r s) a o := by
  intro m
  induction m with
  | zero =>
    intro c kn a hc hK hf
    have e : c = 25 := by omega
    subst e
    exact br_t (show (25 : Int32) ≤ nI 25 by decide) (hp _ kn a (Or.inl ⟨rfl, fun i j h1 h2 => hf i j h1 h2 (by omega)⟩) hK)
  | succ m ih =>
    intro c kn a hc hK hf
    have hc25 : c < 25 := by omega
    have e := gs_c5 hc25
    have h6 := gs_D6 hr hs
    refine br_f (nI_ge (b := 25) hc25 (by decide)) ⟨by decide, by decide, ?_⟩
    rw [e.2, e.1]
    refine gs_yda hr hs hK ?_ ?_
    · intro i j hij hj e1 e2 kn' b hF
      have ec := gs_pc5 hc25 hij hj e1 e2
      have h6' := gs_D6 (gs_tr_in hr hij hj).1 (gs_ts_in hs hij hj).1
      refine br_f (nI_pos (by omega)) ?_
      by_cases g : gs_D (gs_tr r i j) (gs_ts s i j) < gs_D r s
      · refine br_f (nI_ge g (by omega)) ⟨by decide, by decide, hp _ kn' b (Or.inr ⟨i, j, hij, hj, decide_eq_true g, fun i' j' h1 h2 h3 => hf i' j' h1 h2 (by omega), ?_⟩) (Or.inr hF)⟩
        rw [e1, e2, show (8 : Int32) = nI 8 from rfl, pk_mul, nI_add]
      · refine br_t (nI_le (by omega) (by omega)) (nm_r (nI_1 c) (ih (c + 1) kn' b (by omega) (Or.inr hF) ?_))
        intro i' j' h1 h2 h3
        by_cases z : 5 * i' + j' < c
        · exact hf i' j' h1 h2 z
        · have ei : i' = i := by omega
          have ej : j' = j := by omega
          rw [ei, ej]
          exact decide_eq_false g
    · intro n
      refine br_t (show (-1 : Int32) < 0 by decide) (nm_r (nI_1 c) (ih (c + 1) kn a (by omega) hK ?_))
      intro i j h1 h2 h3
      by_cases z : 5 * i + j < c
      · exact hf i j h1 h2 z
      · refine absurd ⟨i, j, h1, h2, ?_, ?_⟩ n
        · exact congrArg nI (by omega)
        · exact congrArg nI (by omega)
theorem gs_yfirst {post : Int32 → SY → Prop} {kn : Int32} {a o : Nat → Int32} {r s : Nat} (hr : r < 120) (hs : s < 32) (hK : gs_K kn a) (hp : ∀ x kn b, gs_Fst (gs_G r s) x → gs_K kn b → post x (kn, gs_R r s, b, o)) : wpY_firstGood post (kn, gs_R r s, a, o) := by
  unfold wpY_firstGood
  dsimp only
  exact gs_ydist hr hs hK (fun kn' b hF => ⟨26, gs_yf hr hs hp 25 0 kn' b rfl (Or.inr hF) (fun i j _ _ h => by omega)⟩)
theorem gs_y21 {post : Int32 → SY → Prop} {o : Nat → Int32} {M : Nat} (hM : M ≤ 9) :
    ∀ m d0 r s x kn a, d0 + m = M → r < 120 → s < 32 → gs_K kn a → gs_Fst (gs_G r s) x → (∀ d r' s' kn b, r' < 120 → s' < 32 → gs_So m r s d r' s' → gs_K kn b → post (nI (d0 + d)) (kn, gs_R r' s', b, o)) → wY_sort_21 post (nI M) (m + 1) (nI d0) x kn (gs_R r s) a o := by
  intro m
  induction m with
  | zero =>
    intro d0 r s x kn a hd hr hs hK hx hp
    exact br_t (nI_le (by omega) (by omega)) (hp 0 r s kn a hr hs ⟨rfl, rfl, rfl⟩ hK)
  | succ m ih =>
    intro d0 r s x kn a hd hr hs hK hx hp
    refine br_f (nI_ge (by omega) (by omega)) ?_
    rcases id hx with ⟨e, _⟩ | ⟨i, j, hij, hj, _, _, e⟩
    · exact br_t (by rw [e]; decide) (hp 0 r s kn a hr hs ⟨x, hx, Or.inl ⟨e, rfl, rfl, rfl⟩⟩ hK)
    · have z := gs_86 hij hj
      refine br_f (by rw [e]; exact nI_pos (by omega)) ⟨by decide, by decide, ?_⟩
      rw [e, z.2, z.1]
      have t := (gs_tr_in hr hij hj).1
      have u := (gs_ts_in hs hij hj).1
      refine gs_yturn hr hs ?_ (fun n => absurd ⟨i, j, hij, hj, rfl, rfl⟩ n)
      intro i' j' hij' hj' e1 e2
      have ei := (nI_eq (by omega) (by omega)).mp e1
      have ej := (nI_eq (by omega) (by omega)).mp e2
      subst ei ej
      refine nm_r (nI_1 d0) (gs_yfirst t u hK ?_)
      intro x' kn' b hx' hK'
      refine ih (d0 + 1) _ _ x' kn' b (by omega) t u hK' hx' ?_
      intro d r' s' kn'' b' hr' hs' h hK''
      have k := hp (d + 1) r' s' kn'' b' hr' hs' ⟨x, hx, Or.inr ⟨i, j, d, hij, hj, e, rfl, h⟩⟩ hK''
      rw [show d0 + (d + 1) = d0 + 1 + d from by omega] at k
      exact k
theorem gs_yb {post : Int32 → Prop} {kn : Int32} {a o : Nat → Int32} {r s : Nat} (hp : post (gs_bc r s 6)) :
    ∀ m p, p + m = 6 → wY_breaks_6 post kn (gs_R r s) a o (m + 1) (gs_bc r s p) (gs_bx r s p) (nI p) := by
  intro m
  induction m with
  | zero =>
    intro p h
    have e : p = 6 := by omega
    subst e
    exact br_t (show (5 : Int32) < nI 6 by decide) hp
  | succ m ih =>
    intro p h
    have k := ih (p + 1) (by omega)
    have st : ∀ z, z = gs_y r s p → wY_breaks_27 post (wY_breaks_6 post kn (gs_R r s) a o (m + 1)) (gs_bc r s p) (gs_bx r s p) (nI p) z kn (gs_R r s) a o := by
      intro z hz
      subst hz
      by_cases c : gs_y r s p = gs_bx r s p + 1
      · rw [show gs_bc r s (p + 1) = gs_bc r s p from if_pos c] at k
        exact br_t c (nm_r (nI_1 p) k)
      · rw [show gs_bc r s (p + 1) = gs_bc r s p + 1 from if_neg c] at k
        exact br_f c (nm_e (nm_r (nI_1 p) k))
    refine br_f (nI_nlt (a := 5) (b := p) (by omega) (by decide)) ?_
    by_cases c : p < 5
    · refine br_f (nI_ge (b := 5) c (by decide)) ⟨vp_in_nI c (by decide), st _ ?_⟩
      rw [nI_clamp (by omega), gs_R_p c]
      exact (if_pos c).symm
    · exact br_t (nI_le (a := 5) (by omega) (by omega)) (st _ (if_neg c).symm)
theorem gs_ybreaks {post : Int32 → Prop} {kn : Int32} {a o : Nat → Int32} {r s : Nat} (hp : post (gs_bc r s 6)) : wpY_breaks post (kn, gs_R r s, a, o) :=
  ⟨7, gs_yb hp 6 0 rfl⟩
theorem gs_yw {post : Int32 → SY → Prop} {kn : Int32} {a o : Nat → Int32} {r s : Nat} (hr : r < 120) (hF : gs_Fu a) (hp : ∀ x, gs_Big r x → post x (kn, gs_R r s, a, o)) :
    ∀ m c M, c + m = 32 → (∃ s', s' < 32 ∧ M = gs_D r s') → (∀ c', c' < c → gs_D r c' ≤ M) → wY_signs_19 post 1 (nI r) kn (gs_R r s) a o (m + 1) (nI M) (nI c) := by
  intro m
  induction m with
  | zero =>
    intro c M hc hM hb
    have e : c = 32 := by omega
    subst e
    exact br_t (show (32 : Int32) ≤ nI 32 by decide) (hp _ ⟨M, rfl, hM, hb⟩)
  | succ m ih =>
    intro c M hc hM hb
    have hc32 : c < 32 := by omega
    have h6 := gs_D6 hr hc32
    obtain ⟨s', hs', eM⟩ := hM
    have hM6 : M ≤ 6 := by rw [eM]; exact gs_D6 hr hs'
    have e : 32 * nI r + nI c = nI (32 * r + c) := by rw [show (32 : Int32) = nI 32 from rfl, pk_mul, nI_add]
    refine br_f (nI_ge (b := 32) hc32 (by decide)) ?_
    rw [e, nI_clamp (by omega), hF r c hr hc32]
    refine ⟨vp_in_nI (by omega) (by decide), nm_e (br_f (show ¬ (1 : Int32) = 0 by decide) ?_)⟩
    by_cases g : gs_D r c ≤ M
    · refine br_t (nI_le g (by omega)) (nm_r (nI_1 c) (ih (c + 1) M (by omega) ⟨s', hs', eM⟩ ?_))
      intro c' h'
      by_cases z : c' < c
      · exact hb c' z
      · have e : c' = c := by omega
        rw [e]; exact g
    · refine br_f (nI_ge (by omega) (by omega)) (nm_r (nI_1 c) (ih (c + 1) _ (by omega) ⟨_, hc32, rfl⟩ ?_))
      intro c' h'
      by_cases z : c' < c
      · have k := hb c' z; omega
      · have e : c' = c := by omega
        rw [e]; exact Nat.le_refl _
theorem gs_yv {post : Int32 → SY → Prop} {kn : Int32} {a o : Nat → Int32} {r s : Nat} (hr : r < 120) (hF : gs_Fu a) (hp : ∀ x, gs_Sml r x → post x (kn, gs_R r s, a, o)) :
    ∀ m c M, c + m = 32 → (∃ s', s' < 32 ∧ M = gs_D r s') → (∀ c', c' < c → M ≤ gs_D r c') → wY_signs_19 post 0 (nI r) kn (gs_R r s) a o (m + 1) (nI M) (nI c) := by
  intro m
  induction m with
  | zero =>
    intro c M hc hM hb
    have e : c = 32 := by omega
    subst e
    exact br_t (show (32 : Int32) ≤ nI 32 by decide) (hp _ ⟨M, rfl, hM, hb⟩)
  | succ m ih =>
    intro c M hc hM hb
    have hc32 : c < 32 := by omega
    have h6 := gs_D6 hr hc32
    obtain ⟨s', hs', eM⟩ := hM
    have hM6 : M ≤ 6 := by rw [eM]; exact gs_D6 hr hs'
    have e : 32 * nI r + nI c = nI (32 * r + c) := by rw [show (32 : Int32) = nI 32 from rfl, pk_mul, nI_add]
    refine br_f (nI_ge (b := 32) hc32 (by decide)) ?_
    rw [e, nI_clamp (by omega), hF r c hr hc32]
    refine ⟨vp_in_nI (by omega) (by decide), nm_e (br_t (show (0 : Int32) = 0 from rfl) ?_)⟩
    by_cases g : M ≤ gs_D r c
    · refine br_t (nI_le g (by omega)) (nm_r (nI_1 c) (ih (c + 1) M (by omega) ⟨s', hs', eM⟩ ?_))
      intro c' h'
      by_cases z : c' < c
      · exact hb c' z
      · have e : c' = c := by omega
        rw [e]; exact g
    · refine br_f (nI_ge (by omega) (by omega)) (nm_r (nI_1 c) (ih (c + 1) _ (by omega) ⟨_, hc32, rfl⟩ ?_))
      intro c' h'
      by_cases z : c' < c
      · have k := hb c' z; omega
      · have e : c' = c := by omega
        rw [e]; exact Nat.le_refl _
theorem gs_n32 {r s : Nat} (hr : r < 120) (hs : s < 32) : nI (32 * r + s) / 32 = nI r := by
  have k := pk_div (a := 32 * r + s) (d := 32) (by omega) (by decide) (by decide)
  rwa [show (32 * r + s) / 32 = r from by omega] at k
theorem gs_yworst {post : Int32 → SY → Prop} {kn : Int32} {a o : Nat → Int32} {r s : Nat} (hr : r < 120) (hs : s < 32) (hK : gs_K kn a) (hp : ∀ x kn b, gs_Big r x → gs_K kn b → post x (kn, gs_R r s, b, o)) : wpY_worstSigns post (kn, gs_R r s, a, o) := by
  unfold wpY_worstSigns wpY_signs
  dsimp only
  exact gs_ydist hr hs hK (fun kn' b hF => gs_ynum hr hs ⟨by decide, nm_r (gs_n32 hr hs) ⟨33, gs_yw hr hF (fun x hx => hp x kn' b hx (Or.inr hF)) 32 0 _ rfl ⟨s, hs, rfl⟩ (fun c h => by omega)⟩⟩)
theorem gs_ybest {post : Int32 → SY → Prop} {kn : Int32} {a o : Nat → Int32} {r s : Nat} (hr : r < 120) (hs : s < 32) (hK : gs_K kn a) (hp : ∀ x kn b, gs_Sml r x → gs_K kn b → post x (kn, gs_R r s, b, o)) : wpY_bestSigns post (kn, gs_R r s, a, o) := by
  unfold wpY_bestSigns wpY_signs
  dsimp only
  exact gs_ydist hr hs hK (fun kn' b hF => gs_ynum hr hs ⟨by decide, nm_r (gs_n32 hr hs) ⟨33, gs_yv hr hF (fun x hx => hp x kn' b hx (Or.inr hF)) 32 0 _ rfl ⟨s, hs, rfl⟩ (fun c h => by omega)⟩⟩)
