/-! the reference's search -/
theorem gs_c5 {c : Nat} (h : c < 25) : nI c / 5 = nI (c / 5) ∧ nI c - nI c / 5 * 5 = nI (c % 5) := ⟨pk_div (d := 5) (by omega) (by decide) (by decide), pk_rem (d := 5) (by omega) (by decide) (by decide)⟩
theorem gs_pc5 {c i j : Nat} (h : c < 25) (hij : i ≤ j) (hj : j < 5) (e1 : nI (c / 5) = nI i) (e2 : nI (c % 5) = nI j) : c = 5 * i + j := by
  have a := (nI_eq (by omega) (by omega)).mp e1
  have b := (nI_eq (by omega) (by omega)).mp e2
  omega
theorem gs_Mk_s {d r s c : Nat} {a : Nat → Int32} (h : gs_Mk d r s c a) (k : ∀ i j, i ≤ j → j < 5 → 5 * i + j = c → gs_D (gs_tr r i j) (gs_ts s i j) = d + 1 → a (32 * gs_tr r i j + gs_ts s i j) = nI (d + 1)) : gs_Mk d r s (c + 1) a := by
  intro i j hij hj hc e
  by_cases z : 5 * i + j < c
  · exact h i j hij hj z e
  · exact k i j hij hj (by omega) e
theorem gs_y78 {post : Int32 → SY → Prop} {J : Int32 → Int32 → Int32 → (Nat → Int32) → (Nat → Int32) → (Nat → Int32) → Prop} {kn z v x1 : Int32} {a b o : Nat → Int32} {r s i j c k : Nat} (hr : r < 120) (hs : s < 32) (hij : i ≤ j) (hj : j < 5) (hc : c = 5 * i + j) (hk : k < 3840) (hb : upd a k v = b)
    (hJ : J z (nI (c + 1)) kn (gs_R r s) b o) : wY_spread_78 post J x1 z (nI c) v (nI k) kn (gs_R (gs_tr r i j) (gs_ts s i j)) a o := by
  have t := gs_tr_in hr hij hj
  have u := gs_ts_in hs hij hj
  have e := gs_c5 (c := c) (by omega)
  unfold wY_spread_78
  refine ⟨vp_in_nI hk (by decide), nm_r (e' := b) (by rw [nI_clamp (by omega)]; exact hb) ⟨by decide, by decide, ?_⟩⟩
  rw [e.2, e.1]
  refine gs_yturn t.1 u.1 ?_ ?_
  · intro i' j' hij' hj' e1 e2
    have w := gs_pc5 (by omega) hij' hj' e1 e2
    have ei : i' = i := by omega
    have ej : j' = j := by omega
    subst ei ej
    rw [t.2, u.2]
    exact nm_r (nI_1 c) hJ
  · intro n
    refine absurd ⟨i, j, hij, hj, ?_, ?_⟩ n
    · exact congrArg nI (by omega)
    · exact congrArg nI (by omega)
theorem gs_y48 {post : Int32 → SY → Prop} {J : Int32 → Int32 → Int32 → (Nat → Int32) → (Nat → Int32) → (Nat → Int32) → Prop} {kn z : Int32} {a o : Nat → Int32} {d r s i j c k : Nat} (hr : r < 120) (hs : s < 32) (hij : i ≤ j) (hj : j < 5) (hc : c = 5 * i + j) (hk : k < 3840)
    (hn : a k < 0 → J z (nI (c + 1)) kn (gs_R r s) (upd a k (nI (d + 1))) o) (hp : ¬ a k < 0 → J z (nI (c + 1)) kn (gs_R r s) a o) : wY_spread_48 post J (nI d) (nI c) (nI k) z kn (gs_R (gs_tr r i j) (gs_ts s i j)) a o := by
  have ek : (nI k).toNatClampNeg = k := nI_clamp (by omega)
  unfold wY_spread_48
  refine ⟨vp_in_nI hk (by decide), ?_⟩
  rw [ek]
  refine br_c (fun y => ⟨vp_in_nI hk (by decide), ?_⟩) (fun y => ?_)
  · exact gs_y78 hr hs hij hj hc hk (gs_upd_id a k) (hp (Int32.not_lt.mpr y))
  · exact gs_y78 hr hs hij hj hc hk (by rw [nI_1]) (hn (Int32.not_le.mp y))
theorem gs_nbl {z : Int32} (h : z = 0 ∨ z = 1) : narrow .boolean (.int z) = .int z := by
  rcases h with e | e <;> subst e <;> rfl
theorem gs_y4 {post : Int32 → SY → Prop} {kn : Int32} {a0 o : Nat → Int32} {d r s : Nat} (hr : r < 120) (hs : s < 32) (hd : d < 3840) (hD : gs_D r s = d)
    (hp : ∀ z a, gs_In d a → gs_Mk d r s 25 a → gs_Up d a0 a → (z = 0 → a = a0) → post z (kn, gs_R r s, a, o)) :
    ∀ m c z a, c + m = 25 → gs_In d a → gs_Mk d r s c a → gs_Up d a0 a → (z = 0 → a = a0) → (z = 0 ∨ z = 1) → wY_spread_4 post (nI d) (m + 1) z (nI c) kn (gs_R r s) a o := by
  intro m
  induction m with
  | zero =>
    intro c z a hc hI hM hU h0 hz
    have e : c = 25 := by omega
    subst e
    exact br_t (show (25 : Int32) ≤ nI 25 by decide) ⟨gs_nbl hz, hp z a hI hM hU h0⟩
  | succ m ih =>
    intro c z a hc hI hM hU h0 hz
    have hc25 : c < 25 := by omega
    have e := gs_c5 hc25
    refine br_f (nI_ge (b := 25) hc25 (by decide)) ⟨by decide, by decide, ?_⟩
    rw [e.2, e.1]
    refine gs_yturn hr hs ?_ ?_
    · intro i j hij hj e1 e2
      have ec := gs_pc5 hc25 hij hj e1 e2
      have t := (gs_tr_in hr hij hj).1
      have u := (gs_ts_in hs hij hj).1
      have hk : 32 * gs_tr r i j + gs_ts s i j < 3840 := by omega
      have ek : (nI (32 * gs_tr r i j + gs_ts s i j)).toNatClampNeg = 32 * gs_tr r i j + gs_ts s i j := nI_clamp (by omega)
      have hL := gs_DL hr hs hij hj
      rw [hD] at hL
      -- the two ways on
      have wn : a (32 * gs_tr r i j + gs_ts s i j) < 0 → wY_spread_4 post (nI d) (m + 1) 1 (nI (c + 1)) kn (gs_R r s) (upd a (32 * gs_tr r i j + gs_ts s i j) (nI (d + 1))) o := by
        intro hn
        obtain ⟨q1, q2, q3⟩ := gs_st hI t u (by omega) hL hn
        refine ih (c + 1) 1 _ (by omega) q1 (gs_Mk_s (gs_Mk_u hM q2) ?_) (gs_Up_t hU q2) (fun y => absurd y (by decide)) (Or.inr rfl)
        intro i' j' h1 h2 h3 _
        have ei : i' = i := by omega
        have ej : j' = j := by omega
        subst ei ej
        exact pk_us
      have wp : ∀ z', (z' = 0 → a = a0) → (z' = 0 ∨ z' = 1) → ¬ a (32 * gs_tr r i j + gs_ts s i j) < 0 → wY_spread_4 post (nI d) (m + 1) z' (nI (c + 1)) kn (gs_R r s) a o := by
        intro z' h0' hz' hn
        refine ih (c + 1) z' a (by omega) hI (gs_Mk_s hM ?_) hU h0' hz'
        intro i' j' h1 h2 h3 h4
        have ei : i' = i := by omega
        have ej : j' = j := by omega
        subst ei ej
        exact gs_st2 hI t u hn h4
      refine br_f (show ¬ (1 : Int32) = 0 by decide) (gs_ynum t u ?_)
      refine br_c (fun y => ⟨vp_in_nI hk (by decide), ?_⟩) (fun y => ?_)
      · rw [ek]
        refine br_c (fun v => ?_) (fun v => ?_)
        · exact gs_y48 hr hs hij hj ec hk (fun n => absurd n (Int32.not_lt.mpr v)) (wp 0 (fun _ => h0 y) (Or.inl rfl))
        · exact gs_y48 hr hs hij hj ec hk wn (fun n => absurd (Int32.not_le.mp v) n)
      · exact gs_y48 hr hs hij hj ec hk wn (wp 1 (fun v => absurd v (by decide)) (Or.inr rfl))
    · intro n
      refine br_t (show (0 : Int32) = 0 from rfl) (nm_r (nI_1 c) (ih (c + 1) z a (by omega) hI (gs_Mk_s hM ?_) hU h0 hz))
      intro i j hij hj ec _
      refine absurd ⟨i, j, hij, hj, ?_, ?_⟩ n
      · exact congrArg nI (by omega)
      · exact congrArg nI (by omega)
theorem gs_yspread {post : Int32 → SY → Prop} {kn : Int32} {a o : Nat → Int32} {d r s : Nat} (hr : r < 120) (hs : s < 32) (hd : d < 3840) (hD : gs_D r s = d) (hI : gs_In d a)
    (hp : ∀ z b, gs_In d b → gs_Mk d r s 25 b → gs_Up d a b → (z = 0 → b = a) → post z (kn, gs_R r s, b, o)) : wpY_spread post (kn, gs_R r s, a, o) (nI d) :=
  ⟨26, gs_y4 hr hs hd hD hp 25 0 0 a rfl hI (fun i j _ _ h _ => by omega) gs_Up_r (fun _ => rfl) (Or.inl rfl)⟩
theorem gs_Pr_s {d k : Nat} {a : Nat → Int32} (h : gs_Pr d k a) (m : ∀ r s, r < 120 → s < 32 → 32 * r + s = k → gs_D r s = d → gs_Mk d r s 25 a) : gs_Pr d (k + 1) a := by
  intro r s hr hs hk e
  by_cases z : 32 * r + s < k
  · exact h r s hr hs z e
  · exact m r s hr hs (by omega) e
theorem gs_y55 {post : SY → Prop} {J : Int32 → Int32 → Int32 → (Nat → Int32) → (Nat → Int32) → (Nat → Int32) → Prop} {kn x1 : Int32} {o : Nat → Int32} {d : Nat} (hd : d < 3840)
    (hJ : ∀ z w a, gs_R5 w → gs_In d a → gs_Pr d 3840 a → (z = 0 → gs_Fr d a) → J z (nI (d + 1)) kn w a o) :
    ∀ m k z w a, k + m = 3840 → gs_R5 w → gs_In d a → gs_Pr d k a → (z = 0 → gs_Fr d a) → wY_search_55 post J x1 (nI d) (m + 1) z (nI k) kn w a o := by
  intro m
  induction m with
  | zero =>
    intro k z w a hk h5 hI hP hF
    have e : k = 3840 := by omega
    subst e
    exact br_t (nI_le (a := 3840) (Nat.le_refl _) (by decide)) (nm_r (nI_1 d) (hJ z w a h5 hI hP hF))
  | succ m ih =>
    intro k z w a hk h5 hI hP hF
    have hk' : k < 3840 := by omega
    have ek : 32 * (k / 32) + k % 32 = k := by omega
    have hr : k / 32 < 120 := by omega
    have hs : k % 32 < 32 := by omega
    have eq := gs_eqd hI hr hs hd
    rw [ek] at eq
    refine br_f (nI_ge (b := 3840) hk' (by decide)) ⟨vp_in_nI hk' (by decide), ?_⟩
    rw [nI_clamp (by omega)]
    by_cases c : a k = nI d
    · have hD := eq.mp c
      refine br_t c ?_
      have mk : wpY_make (fun u => wpY_spread (fun r_24 u => match u with | (f, w, a, o) => (r_24 = 0 → (z = 0 → ∀ y, y = nI k + 1 → wY_search_55 post J x1 (nI d) (m + 1) 0 y f w a o) ∧ (¬ z = 0 → ∀ y, y = nI k + 1 → wY_search_55 post J x1 (nI d) (m + 1) 1 y f w a o)) ∧ (¬ r_24 = 0 → ∀ y, y = nI k + 1 → wY_search_55 post J x1 (nI d) (m + 1) 1 y f w a o)) u (nI d)) (kn, w, a, o) (nI (32 * (k / 32) + k % 32)) := by
        refine gs_ymake hr hs h5 (gs_yspread hr hs hd hD hI ?_)
        intro z' b hI' hM' hU' h0'
        have hP' : gs_Pr d (k + 1) b := by
          refine gs_Pr_s (gs_Pr_u hP hU') ?_
          intro r s _ hs' e _
          have er : r = k / 32 := by omega
          have es : s = k % 32 := by omega
          rw [er, es]
          exact hM'
        refine br_c (fun y => br_c (fun x => nm_r (nI_1 k) (ih (k + 1) 0 _ b (by omega) (gs_R5_R _ _) hI' hP' ?_)) (fun x => nm_r (nI_1 k) (ih (k + 1) 1 _ b (by omega) (gs_R5_R _ _) hI' hP' (fun v => absurd v (by decide))))) (fun y => nm_r (nI_1 k) (ih (k + 1) 1 _ b (by omega) (gs_R5_R _ _) hI' hP' (fun v => absurd v (by decide))))
        intro _
        rw [h0' y]
        exact hF x
      rw [ek] at mk
      exact mk
    · refine br_f c (nm_r (nI_1 k) (ih (k + 1) z w a (by omega) h5 hI (gs_Pr_s hP ?_) hF))
      intro r s _ hs' e hD
      have er : r = k / 32 := by omega
      have es : s = k % 32 := by omega
      rw [er, es] at hD
      exact absurd (eq.mpr hD) c
theorem gs_y39 {post : SY → Prop} {kn x1 : Int32} {o : Nat → Int32} (hp : ∀ w a, gs_R5 w → gs_Fu a → wY_search_110 post x1 kn w a o) :
    ∀ m d z w a, d + m = 3840 → gs_R5 w → gs_In d a → gs_Fr d a → (z = 0 → gs_Fu a) → wY_search_39 post x1 (m + 1) z (nI d) kn w a o := by
  intro m
  induction m with
  | zero =>
    intro d z w a hd h5 hI hF h0
    have e : d = 3840 := by omega
    subst e
    exact br_t (nI_le (a := 3840) (Nat.le_refl _) (by decide)) (hp w a h5 (gs_ly_f hI (by decide)))
  | succ m ih =>
    intro d z w a hd h5 hI hF h0
    have hd' : d < 3840 := by omega
    refine br_f (nI_ge (b := 3840) hd' (by decide)) (br_c (fun y => hp w a h5 (h0 y)) (fun y => ⟨3841, ?_⟩))
    refine gs_y55 hd' ?_ 3840 0 0 w a rfl h5 hI (fun r s _ _ h _ => by omega) (fun _ => hF)
    intro z' w' a' h5' hI' hP' hF'
    have l := gs_ly hI' hP'
    exact ih (d + 1) z' w' a' (by omega) h5' l.1 l.2 (fun v => gs_ly_0 hI' hP' (hF' v))
theorem gs_y7 {post : SY → Prop} {kn x1 : Int32} {w o : Nat → Int32} (h5 : gs_R5 w) (hp : ∀ w a, gs_R5 w → gs_Fu a → wY_search_110 post x1 kn w a o) :
    ∀ m k a, k + m = 3840 → (0 < k → a 0 = 0) → (∀ q, 0 < q → q < k → a q = -1) → wY_search_7 post x1 kn (m + 1) (nI k) w a o := by
  intro m
  induction m with
  | zero =>
    intro k a hk h0 h1
    have e : k = 3840 := by omega
    subst e
    have i0 := gs_in0 (h0 (by decide)) h1
    exact br_t (nI_le (a := 3840) (Nat.le_refl _) (by decide)) ⟨3841, gs_y39 hp 3840 0 1 w a rfl h5 i0.1 i0.2 (fun v => absurd v (by decide))⟩
  | succ m ih =>
    intro k a hk h0 h1
    have hk' : k < 3840 := by omega
    refine br_f (nI_ge (b := 3840) hk' (by decide)) ?_
    by_cases c : k = 0
    · subst c
      refine br_t (show nI 0 = 0 from rfl) ⟨vp_in_nI hk' (by decide), ?_⟩
      rw [nI_clamp (by omega)]
      refine nm_e (nm_r (nI_1 0) (ih 1 _ (by omega) (fun _ => pk_us) (fun q h2 h3 => by omega)))
    · refine br_f (nI_ne0 (by omega) (by omega)) ⟨vp_in_nI hk' (by decide), ?_⟩
      rw [nI_clamp (by omega)]
      refine nm_e (nm_r (nI_1 k) (ih (k + 1) _ (by omega) (fun _ => ?_) (fun q h2 h3 => ?_)))
      · rw [pk_un (by omega)]; exact h0 (by omega)
      · by_cases e : q = k
        · rw [e, pk_us]
        · rw [pk_un e]; exact h1 q h2 (by omega)
theorem gs_ysearch {post : SY → Prop} {kn : Int32} {a o : Nat → Int32} {r s : Nat} (hr : r < 120) (hs : s < 32) (hp : ∀ b, gs_Fu b → post (1, gs_R r s, b, o)) : wpY_search post (kn, gs_R r s, a, o) := by
  unfold wpY_search
  dsimp only
  refine gs_ynum hr hs ⟨3841, gs_y7 (gs_R5_R r s) ?_ 3840 0 a rfl (fun h => by omega) (fun q _ h => by omega)⟩
  intro w b h5 hF
  unfold wY_search_110
  exact gs_ymake hr hs h5 (hp b hF)
/-- what is known of the reference's array -/
def gs_K (kn : Int32) (a : Nat → Int32) : Prop := kn = 0 ∨ gs_Fu a
theorem gs_ydist {post : Int32 → SY → Prop} {kn : Int32} {a o : Nat → Int32} {r s : Nat} (hr : r < 120) (hs : s < 32) (hK : gs_K kn a) (hp : ∀ kn' b, gs_Fu b → post (nI (gs_D r s)) (kn', gs_R r s, b, o)) : wpY_distance post (kn, gs_R r s, a, o) := by
  have fin : ∀ kn' b, gs_Fu b → wY_distance_11 post kn' (gs_R r s) b o := by
    intro kn' b hF
    unfold wY_distance_11
    refine gs_ynum hr hs ⟨vp_in_nI (by omega) (by decide), ?_⟩
    rw [nI_clamp (by omega), hF r s hr hs]
    exact hp kn' b hF
  unfold wpY_distance
  dsimp only
  refine br_c (fun z => gs_ysearch hr hs (fun b hF => fin 1 b hF)) (fun z => ?_)
  rcases hK with e | e
  · exact absurd e z
  · exact fin kn a e
