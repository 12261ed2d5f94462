/-! the class's questions -/
def gs_G (r s i j : Nat) : Bool := decide (gs_D (gs_tr r i j) (gs_ts s i j) < gs_D r s)
def gs_E (r s i j : Nat) : Bool := decide (gs_D (gs_tr r i j) (gs_ts s i j) = gs_D r s)
theorem gs_x12 {post : Int32 → Prop} {J : Int32 → Int32 → Prop} {P : Nat → Nat → Bool} {w : Int32} {t q : Nat → Int32} {r s i : Nat} (T : gs_TF t) (hr : r < 120) (hs : s < 32) (hi : i < 5)
    (hw : ∀ i j, i ≤ j → j < 5 → (nI (gs_D (gs_tr r i j) (gs_ts s i j)) = w ↔ P i j = true)) (hJ : J (nI (gs_ct P (5 * i + 5))) (nI (i + 1))) :
    ∀ m j, j + m = 5 → i ≤ j → wX_turnsLeadingTo_12 post J w (nI i) (nI (gs_cd r s)) t q 161051 (m + 1) (nI (gs_ct P (5 * i + j))) (nI j) := by
  intro m
  induction m with
  | zero =>
    intro j hj _
    have ej : j = 5 := by omega
    subst ej
    exact br_t (show (5 : Int32) ≤ nI 5 by decide) (nm_r (nI_1 i) hJ)
  | succ m ih =>
    intro j hj hij
    have hj5 : j < 5 := by omega
    refine br_f (nI_ge (b := 5) hj5 (by decide)) (gs_xdt T hr hs hij hj5 ?_)
    have k := ih (j + 1) (by omega) (by omega)
    by_cases c : P i j = true
    · have e : nI (gs_ct P (5 * i + j)) + 1 = nI (gs_ct P (5 * i + (j + 1))) := by
        rw [nI_1, ← Nat.add_assoc, gs_ct_t hij hj5 c]
      exact br_t ((hw i j hij hj5).mpr c) (nm_r e (nm_r (nI_1 j) k))
    · rw [← Nat.add_assoc, gs_ct_f hj5 (fun z => c z.2)] at k
      exact br_f (fun z => c ((hw i j hij hj5).mp z)) (nm_r (nI_1 j) k)
theorem gs_x4 {post : Int32 → Prop} {P : Nat → Nat → Bool} {w : Int32} {t q : Nat → Int32} {r s : Nat} (T : gs_TF t) (hr : r < 120) (hs : s < 32)
    (hw : ∀ i j, i ≤ j → j < 5 → (nI (gs_D (gs_tr r i j) (gs_ts s i j)) = w ↔ P i j = true)) (hp : post (nI (gs_ct P 25))) :
    ∀ m i, i + m = 5 → wX_turnsLeadingTo_4 post w (nI (gs_cd r s)) t q 161051 (m + 1) (nI (gs_ct P (5 * i))) (nI i) := by
  intro m
  induction m with
  | zero =>
    intro i hi
    have ei : i = 5 := by omega
    subst ei
    exact br_t (show (5 : Int32) ≤ nI 5 by decide) hp
  | succ m ih =>
    intro i hi
    have hi5 : i < 5 := by omega
    have k := gs_x12 (post := post) (q := q) T hr hs hi5 hw (ih (i + 1) (by omega)) (5 - i) i (by omega) (Nat.le_refl i)
    rw [gs_ct_sk P i hi5] at k
    exact br_f (nI_ge (b := 5) hi5 (by decide)) ⟨5 - i + 1, k⟩
theorem gs_xlead {post : Int32 → Prop} {P : Nat → Nat → Bool} {w : Int32} {t q : Nat → Int32} {r s : Nat} (T : gs_TF t) (hr : r < 120) (hs : s < 32)
    (hw : ∀ i j, i ≤ j → j < 5 → (nI (gs_D (gs_tr r i j) (gs_ts s i j)) = w ↔ P i j = true)) (hp : post (nI (gs_ct P 25))) : wpX_turnsLeadingTo post (nI (gs_cd r s), t, q, 161051) w :=
  ⟨6, gs_x4 T hr hs hw hp 5 0 rfl⟩
theorem gs_xgood {post : Int32 → Prop} {t q : Nat → Int32} {r s : Nat} (T : gs_TF t) (hr : r < 120) (hs : s < 32) (hp : post (nI (gs_ct (gs_G r s) 25))) : wpX_goodTurns post (nI (gs_cd r s), t, q, 161051) := by
  unfold wpX_goodTurns
  dsimp only
  refine gs_xdot T hr hs (gs_xlead T hr hs ?_ hp)
  intro i j hij hj
  have a := gs_DR hr hs hij hj
  have b := gs_D6 hr hs
  have c := gs_D6 (gs_tr_in hr hij hj).1 (gs_ts_in hs hij hj).1
  unfold gs_G
  rw [decide_eq_true_eq]
  cases e : gs_D r s with
  | zero =>
    constructor
    · intro z
      rw [show nI 0 - 1 = -1 from by decide] at z
      exact absurd z (gs_nm1 (by omega))
    · intro z; omega
  | succ d =>
    rw [nI_pred, nI_eq (by omega) (by omega)]
    omega
theorem gs_xidle {post : Int32 → Prop} {t q : Nat → Int32} {r s : Nat} (T : gs_TF t) (hr : r < 120) (hs : s < 32) (hp : post (nI (gs_ct (gs_E r s) 25))) : wpX_idleTurns post (nI (gs_cd r s), t, q, 161051) := by
  unfold wpX_idleTurns
  dsimp only
  refine gs_xdot T hr hs (gs_xlead T hr hs ?_ hp)
  intro i j hij hj
  have b := gs_D6 hr hs
  have c := gs_D6 (gs_tr_in hr hij hj).1 (gs_ts_in hs hij hj).1
  unfold gs_E
  rw [decide_eq_true_eq, nI_eq (by omega) (by omega)]
theorem gs_x18 {post : Int32 → Prop} {J : Int32 → Prop} {t q : Nat → Int32} {r s i : Nat} (T : gs_TF t) (hr : r < 120) (hs : s < 32) (hi : i < 5)
    (hp : ∀ x, gs_Fst (gs_G r s) x → post x) (hJ : (∀ i' j', i' ≤ j' → j' < 5 → 5 * i' + j' < 5 * i + 5 → gs_G r s i' j' = false) → J (nI (i + 1))) :
    ∀ m j, j + m = 5 → i ≤ j → (∀ i' j', i' ≤ j' → j' < 5 → 5 * i' + j' < 5 * i + j → gs_G r s i' j' = false) → wX_firstGood_18 post J (nI (gs_D r s)) (nI i) (nI (gs_cd r s)) t q 161051 (m + 1) (nI j) := by
  intro m
  induction m with
  | zero =>
    intro j hj _ hf
    have ej : j = 5 := by omega
    subst ej
    exact br_t (show (5 : Int32) ≤ nI 5 by decide) (nm_r (nI_1 i) (hJ hf))
  | succ m ih =>
    intro j hj hij hf
    have hj5 : j < 5 := by omega
    have b := gs_D6 hr hs
    have c := gs_D6 (gs_tr_in hr hij hj5).1 (gs_ts_in hs hij hj5).1
    refine br_f (nI_ge (b := 5) hj5 (by decide)) (gs_xdt T hr hs hij hj5 ?_)
    by_cases g : gs_G r s i j = true
    · have g' : gs_D (gs_tr r i j) (gs_ts s i j) < gs_D r s := of_decide_eq_true g
      refine br_f (nI_ge g' (by omega)) (hp _ (Or.inr ⟨i, j, hij, hj5, g, hf, ?_⟩))
      rw [show (8 : Int32) = nI 8 from rfl, pk_mul, nI_add]
    · have g' : ¬ gs_D (gs_tr r i j) (gs_ts s i j) < gs_D r s := fun z => g (decide_eq_true z)
      refine br_t (nI_le (by omega) (by omega)) (nm_r (nI_1 j) (ih (j + 1) (by omega) (by omega) ?_))
      intro i' j' h1 h2 h3
      by_cases z : 5 * i' + j' < 5 * i + j
      · exact hf i' j' h1 h2 z
      · have e1 : i' = i := by omega
        have e2 : j' = j := by omega
        rw [e1, e2]
        cases h : gs_G r s i j with
        | true => exact absurd h g
        | false => rfl
theorem gs_x11 {post : Int32 → Prop} {t q : Nat → Int32} {r s : Nat} (T : gs_TF t) (hr : r < 120) (hs : s < 32) (hp : ∀ x, gs_Fst (gs_G r s) x → post x) :
    ∀ m i, i + m = 5 → (∀ i' j', i' ≤ j' → j' < 5 → 5 * i' + j' < 5 * i → gs_G r s i' j' = false) → wX_firstGood_11 post (nI (gs_D r s)) (nI (gs_cd r s)) t q 161051 (m + 1) (nI i) := by
  intro m
  induction m with
  | zero =>
    intro i hi hf
    have ei : i = 5 := by omega
    subst ei
    exact br_t (show (5 : Int32) ≤ nI 5 by decide) (hp _ (Or.inl ⟨rfl, fun i j a b => hf i j a b (by omega)⟩))
  | succ m ih =>
    intro i hi hf
    have hi5 : i < 5 := by omega
    refine br_f (nI_ge (b := 5) hi5 (by decide)) ⟨5 - i + 1, gs_x18 T hr hs hi5 hp (fun h => ih (i + 1) (by omega) (fun i' j' a b c => h i' j' a b (by omega))) (5 - i) i (by omega) (Nat.le_refl i) ?_⟩
    intro i' j' a b c
    exact hf i' j' a b (by omega)
theorem gs_xfirst {post : Int32 → Prop} {t q : Nat → Int32} {r s : Nat} (T : gs_TF t) (hr : r < 120) (hs : s < 32) (hp : ∀ x, gs_Fst (gs_G r s) x → post x) : wpX_firstGood post (nI (gs_cd r s), t, q, 161051) := by
  unfold wpX_firstGood
  dsimp only
  exact gs_xdot T hr hs ⟨6, gs_x11 T hr hs hp 5 0 rfl (fun i j _ _ c => by omega)⟩
/-! sorting: at most m turnings from (r, s) are d, and end at (r', s') -/
def gs_So : Nat → Nat → Nat → Nat → Nat → Nat → Prop
  | 0, r, s, d, r', s' => d = 0 ∧ r' = r ∧ s' = s
  | m + 1, r, s, d, r', s' => ∃ x, gs_Fst (gs_G r s) x ∧ ((x = -1 ∧ d = 0 ∧ r' = r ∧ s' = s) ∨ ∃ i j d0, i ≤ j ∧ j < 5 ∧ x = nI (8 * i + j) ∧ d = d0 + 1 ∧ gs_So m (gs_tr r i j) (gs_ts s i j) d0 r' s')
theorem gs_So_u : ∀ m r s d e r1 s1 r2 s2, gs_So m r s d r1 s1 → gs_So m r s e r2 s2 → d = e ∧ r1 = r2 ∧ s1 = s2 := by
  intro m
  induction m with
  | zero =>
    intro r s d e r1 s1 r2 s2 h k
    obtain ⟨a, b, c⟩ := h
    obtain ⟨a', b', c'⟩ := k
    omega
  | succ m ih =>
    intro r s d e r1 s1 r2 s2 h k
    obtain ⟨x, f, h⟩ := h
    obtain ⟨y, g, k⟩ := k
    have xy := gs_Fst_u f g
    subst xy
    rcases h with ⟨h0, a, b, c⟩ | ⟨i, j, d0, h1, h2, h3, h4, h5⟩ <;> rcases k with ⟨k0, a', b', c'⟩ | ⟨i', j', e0, k1, k2, k3, k4, k5⟩
    · omega
    · rw [k3] at h0; exact absurd h0 (gs_nm1 (by omega))
    · rw [h3] at k0; exact absurd k0 (gs_nm1 (by omega))
    · rw [h3] at k3
      have z := (nI_eq (by omega) (by omega)).mp k3
      have e1 : i = i' := by omega
      have e2 : j = j' := by omega
      subst e1 e2
      have w := ih _ _ _ _ _ _ _ _ h5 k5
      omega
theorem gs_86 {i j : Nat} (hij : i ≤ j) (hj : j < 5) : nI (8 * i + j) / 8 = nI i ∧ nI (8 * i + j) - nI (8 * i + j) / 8 * 8 = nI j := by
  have a := pk_div (a := 8 * i + j) (d := 8) (by omega) (by decide) (by decide)
  have b := pk_rem (a := 8 * i + j) (d := 8) (by omega) (by decide) (by decide)
  rw [show (8 * i + j) / 8 = i from by omega] at a
  rw [show (8 * i + j) % 8 = j from by omega] at b
  exact ⟨a, b⟩
theorem gs_x15 {post : Int32 → SX → Prop} {t q : Nat → Int32} {M : Nat} (T : gs_TF t) (hM : M ≤ 9) :
    ∀ m d0 r s, d0 + m = M → r < 120 → s < 32 → (∀ d r' s', r' < 120 → s' < 32 → gs_So m r s d r' s' → post (nI (d0 + d)) (nI (gs_cd r' s'), t, q, 161051)) → wX_sort_15 post (nI M) t q 161051 (m + 1) (nI d0) (nI (gs_cd r s)) := by
  intro m
  induction m with
  | zero =>
    intro d0 r s hd hr hs hp
    exact br_t (nI_le (by omega) (by omega)) (hp 0 r s hr hs ⟨rfl, rfl, rfl⟩)
  | succ m ih =>
    intro d0 r s hd hr hs hp
    refine br_f (nI_ge (by omega) (by omega)) (gs_xfirst T hr hs ?_)
    intro x hx
    rcases id hx with ⟨e, _⟩ | ⟨i, j, hij, hj, _, _, e⟩
    · exact br_t e (hp 0 r s hr hs ⟨x, hx, Or.inl ⟨e, rfl, rfl, rfl⟩⟩)
    · have z := gs_86 hij hj
      refine br_f (by rw [e]; exact gs_nm1 (by omega)) ⟨by decide, by decide, ?_⟩
      rw [e, z.2, z.1]
      have a := (gs_tr_in hr hij hj).1
      have b := (gs_ts_in hs hij hj).1
      refine gs_xturned hr hs hij hj (nm_r (nI_1 d0) (ih (d0 + 1) _ _ (by omega) a b ?_))
      intro d r' s' hr' hs' h
      have k := hp (d + 1) r' s' hr' hs' ⟨x, hx, Or.inr ⟨i, j, d, hij, hj, e, rfl, h⟩⟩
      rw [show d0 + (d + 1) = d0 + 1 + d from by omega] at k
      exact k
/-! breaks -/
def gs_y (r s p : Nat) : Int32 := if p < 5 then gs_sv r s p else 6
def gs_bx (r s : Nat) : Nat → Int32
  | 0 => 0
  | p + 1 => gs_y r s p
def gs_bc (r s : Nat) : Nat → Int32
  | 0 => 0
  | p + 1 => if gs_y r s p = gs_bx r s p + 1 then gs_bc r s p else gs_bc r s p + 1
theorem gs_xb {post : Int32 → Prop} {t q : Nat → Int32} {r s : Nat} (hr : r < 120) (hp : post (gs_bc r s 6)) :
    ∀ m p, p + m = 6 → wX_breaks_6 post (nI (gs_cd r s)) t q 161051 (m + 1) (gs_bc r s p) (gs_bx r s p) (nI p) := by
  intro m
  induction m with
  | zero =>
    intro p h
    have e : p = 6 := by omega
    subst e
    exact br_t (show (5 : Int32) < nI 6 by decide) hp
  | succ m ih =>
    intro p h
    have k := ih (p + 1) (by omega)
    have st : ∀ z, z = gs_y r s p → wX_breaks_29 post (wX_breaks_6 post (nI (gs_cd r s)) t q 161051 (m + 1)) (gs_bc r s p) (gs_bx r s p) (nI p) z (nI (gs_cd r s)) t q 161051 := by
      intro z hz
      subst hz
      by_cases c : gs_y r s p = gs_bx r s p + 1
      · rw [show gs_bc r s (p + 1) = gs_bc r s p from if_pos c] at k
        exact br_t c (nm_r (nI_1 p) k)
      · rw [show gs_bc r s (p + 1) = gs_bc r s p + 1 from if_neg c] at k
        exact br_f c (nm_e (nm_r (nI_1 p) k))
    refine br_f (nI_nlt (a := 5) (b := p) (by omega) (by decide)) ?_
    by_cases c : p < 5
    · exact br_f (nI_ge (b := 5) c (by decide)) (gs_xmk hr c (st _ (if_pos c).symm))
    · exact br_t (nI_le (a := 5) (by omega) (by omega)) (st _ (if_neg c).symm)
theorem gs_xbreaks {post : Int32 → Prop} {t q : Nat → Int32} {r s : Nat} (hr : r < 120) (hp : post (gs_bc r s 6)) : wpX_breaks post (nI (gs_cd r s), t, q, 161051) :=
  ⟨7, gs_xb hr hp 6 0 rfl⟩
/-! the signs -/
theorem gs_xw {post : Int32 → Prop} {t q : Nat → Int32} {r s : Nat} (T : gs_TF t) (hr : r < 120) (hs : s < 32) (hp : ∀ x, gs_Big r x → post x) :
    ∀ m c M, c + m = 32 → (∃ s', s' < 32 ∧ M = gs_D r s') → (∀ c', c' < c → gs_D r (s ^^^ c') ≤ M) → wX_worstSigns_11 post (nI (gs_cd r s)) t q 161051 (m + 1) (nI M) (nI c) := by
  intro m
  induction m with
  | zero =>
    intro c M hc hM hb
    have e : c = 32 := by omega
    subst e
    refine br_t (show (32 : Int32) ≤ nI 32 by decide) (hp _ ⟨M, rfl, hM, ?_⟩)
    intro s' hs'
    have x := gs_xor hs hs'
    have k := hb (s ^^^ s') x.1
    rwa [x.2] at k
  | succ m ih =>
    intro c M hc hM hb
    have hc32 : c < 32 := by omega
    have x := gs_xor hs hc32
    have h6 := gs_D6 hr x.1
    obtain ⟨s', hs', eM⟩ := hM
    have hM6 : M ≤ 6 := by rw [eM]; exact gs_D6 hr hs'
    refine br_f (nI_ge (b := 32) hc32 (by decide)) (gs_xds T hr hs hc32 ?_)
    by_cases g : gs_D r (s ^^^ c) ≤ M
    · refine br_t (nI_le g (by omega)) (nm_r (nI_1 c) (ih (c + 1) M (by omega) ⟨s', hs', eM⟩ ?_))
      intro c' h'
      by_cases z : c' < c
      · exact hb c' z
      · have e : c' = c := by omega
        rw [e]; exact g
    · refine br_f (nI_ge (by omega) (by omega)) (nm_r (nI_1 c) (ih (c + 1) _ (by omega) ⟨_, x.1, rfl⟩ ?_))
      intro c' h'
      by_cases z : c' < c
      · have k := hb c' z; omega
      · have e : c' = c := by omega
        rw [e]; exact Nat.le_refl _
theorem gs_xworst {post : Int32 → Prop} {t q : Nat → Int32} {r s : Nat} (T : gs_TF t) (hr : r < 120) (hs : s < 32) (hp : ∀ x, gs_Big r x → post x) : wpX_worstSigns post (nI (gs_cd r s), t, q, 161051) := by
  unfold wpX_worstSigns
  dsimp only
  exact gs_xdot T hr hs ⟨33, gs_xw T hr hs hp 32 0 _ rfl ⟨s, hs, rfl⟩ (fun c h => by omega)⟩
theorem gs_xv {post : Int32 → Prop} {t q : Nat → Int32} {r s : Nat} (T : gs_TF t) (hr : r < 120) (hs : s < 32) (hp : ∀ x, gs_Sml r x → post x) :
    ∀ m c M, c + m = 32 → (∃ s', s' < 32 ∧ M = gs_D r s') → (∀ c', c' < c → M ≤ gs_D r (s ^^^ c')) → wX_bestSigns_11 post (nI (gs_cd r s)) t q 161051 (m + 1) (nI M) (nI c) := by
  intro m
  induction m with
  | zero =>
    intro c M hc hM hb
    have e : c = 32 := by omega
    subst e
    refine br_t (show (32 : Int32) ≤ nI 32 by decide) (hp _ ⟨M, rfl, hM, ?_⟩)
    intro s' hs'
    have x := gs_xor hs hs'
    have k := hb (s ^^^ s') x.1
    rwa [x.2] at k
  | succ m ih =>
    intro c M hc hM hb
    have hc32 : c < 32 := by omega
    have x := gs_xor hs hc32
    have h6 := gs_D6 hr x.1
    obtain ⟨s', hs', eM⟩ := hM
    have hM6 : M ≤ 6 := by rw [eM]; exact gs_D6 hr hs'
    refine br_f (nI_ge (b := 32) hc32 (by decide)) (gs_xds T hr hs hc32 ?_)
    by_cases g : M ≤ gs_D r (s ^^^ c)
    · refine br_t (nI_le g (by omega)) (nm_r (nI_1 c) (ih (c + 1) M (by omega) ⟨s', hs', eM⟩ ?_))
      intro c' h'
      by_cases z : c' < c
      · exact hb c' z
      · have e : c' = c := by omega
        rw [e]; exact g
    · refine br_f (nI_ge (by omega) (by omega)) (nm_r (nI_1 c) (ih (c + 1) _ (by omega) ⟨_, x.1, rfl⟩ ?_))
      intro c' h'
      by_cases z : c' < c
      · have k := hb c' z; omega
      · have e : c' = c := by omega
        rw [e]; exact Nat.le_refl _
theorem gs_xbest {post : Int32 → Prop} {t q : Nat → Int32} {r s : Nat} (T : gs_TF t) (hr : r < 120) (hs : s < 32) (hp : ∀ x, gs_Sml r x → post x) : wpX_bestSigns post (nI (gs_cd r s), t, q, 161051) := by
  unfold wpX_bestSigns
  dsimp only
  exact gs_xdot T hr hs ⟨33, gs_xv T hr hs hp 32 0 _ rfl ⟨s, hs, rfl⟩ (fun c h => by omega)⟩
