/-! the class's private methods, each with a general post -/
theorem gs_xmk4 {post : Int32 → Prop} : ∀ d j c p : Nat, c < 2 ^ 31 → j + d = p → p < 2 ^ 31 → post (nI (c / 11 ^ d % 11) - 5) → wX_markerIn_4 post (nI p) (d + 1) (nI c) (nI j) := by
  intro d
  induction d with
  | zero =>
    intro j c p hc hj hp h
    have e : nI c - nI c / 11 * 11 = nI (c % 11) := pk_rem (d := 11) hc (by decide) (by decide)
    refine br_t (nI_le (by omega) (by omega)) ⟨by decide, ?_⟩
    rw [e]
    rw [Nat.pow_zero, Nat.div_one] at h
    exact h
  | succ d ih =>
    intro j c p hc hj hp h
    have e : nI c / 11 = nI (c / 11) := pk_div (d := 11) hc (by decide) (by decide)
    refine br_f (nI_ge (by omega) (by omega)) ⟨by decide, nm_r e (nm_r (nI_1 j) (ih (j + 1) (c / 11) p (by omega) (by omega) hp ?_))⟩
    rw [Nat.div_div_eq_div_mul, ← Nat.pow_succ']
    exact h
theorem gs_xmk {post : Int32 → Prop} {r s p : Nat} (hr : r < 120) (hp : p < 5) (h : post (gs_sv r s p)) : wpX_markerIn post (nI (gs_cd r s)) (nI p) :=
  ⟨p + 1, gs_xmk4 p 0 (gs_cd r s) p (by have := gs_cd_lt (s := s) hr; omega) (by omega) (by omega) (by rw [gs_cd_dg hr hp, gs_sv_dg hr hp]; exact h)⟩
def gs_Hn (f : Nat → Nat) : Nat → Nat
  | 0 => 0
  | n + 1 => gs_Hn f n * 11 + f (4 - n)
theorem gs_Hn5 (f : Nat → Nat) : gs_Hn f 5 = gs_H f := by
  simp [gs_Hn, gs_H]
  omega
theorem gs_hz {f : Nat → Nat} {n m : Nat} {z : Int32} (hz : z = nI (f m) - 5) (hn : n + (m + 1) = 5) : nI (gs_Hn f n) * 11 + z + 5 = nI (gs_Hn f (n + 1)) := by
  rw [hz, gs_hx, gs_Hn, show 4 - n = m from by omega]
theorem gs_xt5 {post : Int32 → Prop} {r s i j : Nat} (hr : r < 120) (hs : s < 32) (h : i ≤ j) (hj : j < 5) (hp : post (nI (gs_cd (gs_tr r i j) (gs_ts s i j)))) : ∀ m n, n + m = 5 → wX_turned_5 post (nI (gs_cd r s)) (nI i) (nI j) (m + 1) (nI (gs_Hn (gs_dg (gs_tr r i j) (gs_ts s i j)) n)) (nI m + (-1)) := by
  have ht := (gs_tr_in hr h hj).1
  intro m
  induction m with
  | zero =>
    intro n hn
    refine br_t (by decide) ?_
    have e : n = 5 := by omega
    rw [e, gs_Hn5]
    exact hp
  | succ m ih =>
    intro n hn
    have hm : m < 5 := by omega
    have e1 : nI (m + 1) + (-1) = nI m := pk_m1 m
    have st : ∀ z0 : Int32, z0 = gs_sv (gs_tr r i j) (gs_ts s i j) m → wX_turned_54 post (wX_turned_5 post (nI (gs_cd r s)) (nI i) (nI j) (m + 1)) (nI (gs_cd r s)) (nI i) (nI j) (nI (gs_Hn (gs_dg (gs_tr r i j) (gs_ts s i j)) n)) (nI m) z0 := by
      intro z0 hz
      exact nm_r (gs_hz (hz.trans (gs_sv_dg ht hm).symm) hn) (nm_e (ih (n + 1) (by omega)))
    have sv := gs_sv_t hr hs h hj hm
    rw [e1]
    refine br_f (nI_pos (by omega)) ?_
    by_cases c1 : m < i
    · refine br_t (nI_lt c1 (by omega)) ?_
      rw [if_neg (by omega)] at sv
      exact br_t (show (0 : Int32) = 0 from rfl) (gs_xmk hr hm (st _ sv.symm))
    · refine br_f (nI_nlt (by omega) (by omega)) ?_
      by_cases c2 : j < m
      · refine br_t (nI_lt c2 (by omega)) ?_
        rw [if_neg (by omega)] at sv
        exact br_t (show (0 : Int32) = 0 from rfl) (gs_xmk hr hm (st _ sv.symm))
      · refine br_f (nI_nlt (by omega) (by omega)) ?_
        rw [if_pos (by omega)] at sv
        refine br_f (show ¬ (1 : Int32) = 0 by decide) ?_
        have e2 : nI i + nI j - nI m = nI (i + j - m) := by rw [nI_add, pk_sub (by omega)]
        rw [e2]
        exact gs_xmk hr (by omega) (st _ sv.symm)
theorem gs_xturned {post : Int32 → Prop} {r s i j : Nat} (hr : r < 120) (hs : s < 32) (h : i ≤ j) (hj : j < 5) (hp : post (nI (gs_cd (gs_tr r i j) (gs_ts s i j)))) : wpX_turned post (nI (gs_cd r s)) (nI i) (nI j) :=
  ⟨6, gs_xt5 hr hs h hj hp 5 0 rfl⟩
theorem gs_xs5 {post : Int32 → Prop} {r s i j : Nat} (hr : r < 120) (hs : s < 32) (hi : i < 5) (hj : j < 5) (hp : post (nI (gs_cd (gs_sw r i j) (gs_ss s i j)))) : ∀ m n, n + m = 5 → wX_swapped_5 post (nI (gs_cd r s)) (nI i) (nI j) (m + 1) (nI (gs_Hn (gs_dg (gs_sw r i j) (gs_ss s i j)) n)) (nI m + (-1)) := by
  have ht := gs_sw_in hr hi hj
  intro m
  induction m with
  | zero =>
    intro n hn
    refine br_t (by decide) ?_
    have e : n = 5 := by omega
    rw [e, gs_Hn5]
    exact hp
  | succ m ih =>
    intro n hn
    have hm : m < 5 := by omega
    have e1 : nI (m + 1) + (-1) = nI m := pk_m1 m
    have st : ∀ q : Nat, q < 5 → gs_sv r s q = gs_sv (gs_sw r i j) (gs_ss s i j) m → wX_swapped_32 post (wX_swapped_5 post (nI (gs_cd r s)) (nI i) (nI j) (m + 1)) (nI (gs_cd r s)) (nI i) (nI j) (nI (gs_Hn (gs_dg (gs_sw r i j) (gs_ss s i j)) n)) (nI m) (nI q) := by
      intro q hq hz
      exact gs_xmk hr hq (nm_r (gs_hz (hz.trans (gs_sv_dg ht hm).symm) hn) (nm_e (ih (n + 1) (by omega))))
    have sv := gs_sv_s hr hs hi hj hm
    rw [e1]
    refine br_f (nI_pos (by omega)) ?_
    by_cases c1 : m = i
    · refine br_t (by rw [c1]) ?_
      rw [if_pos c1] at sv
      exact st j hj sv.symm
    · refine br_f (fun z => c1 ((nI_eq (by omega) (by omega)).mp z)) ?_
      rw [if_neg c1] at sv
      by_cases c2 : m = j
      · refine br_t (by rw [c2]) ?_
        rw [if_pos c2] at sv
        exact st i hi sv.symm
      · refine br_f (fun z => c2 ((nI_eq (by omega) (by omega)).mp z)) ?_
        rw [if_neg c2] at sv
        exact st m hm sv.symm
theorem gs_xswapped {post : Int32 → Prop} {r s i j : Nat} (hr : r < 120) (hs : s < 32) (hi : i < 5) (hj : j < 5) (hp : post (nI (gs_cd (gs_sw r i j) (gs_ss s i j)))) : wpX_swapped post (nI (gs_cd r s)) (nI i) (nI j) :=
  ⟨6, gs_xs5 hr hs hi hj hp 5 0 rfl⟩
theorem gs_xc4 {post : Int32 → Prop} {r s c : Nat} (hr : r < 120) (hc : c < 32) (hp : post (nI (gs_cd r (s ^^^ c)))) : ∀ m n, n + m = 5 → wX_withSignsChanged_4 post (nI (gs_cd r s)) (nI c) (m + 1) (nI (gs_Hn (gs_dg r (s ^^^ c)) n)) (nI m + (-1)) := by
  intro m
  induction m with
  | zero =>
    intro n hn
    refine br_t (by decide) ?_
    have e : n = 5 := by omega
    rw [e, gs_Hn5]
    exact hp
  | succ m ih =>
    intro n hn
    have hm : m < 5 := by omega
    have e1 : nI (m + 1) + (-1) = nI m := pk_m1 m
    have sv := gs_sv_x (r := r) (s := s) (c := c) (p := m)
    rw [e1]
    refine br_f (nI_pos (by omega)) (gs_xmk hr hm ?_)
    by_cases b : Nat.testBit c m = true
    · rw [if_pos b] at sv
      exact br_t ((gs_shr (by omega) (by omega)).1.mpr b) (br_f (show ¬ (1 : Int32) = 0 by decide) (nm_r (gs_hz (sv.symm.trans (gs_sv_dg hr hm).symm) hn) (nm_e (ih (n + 1) (by omega)))))
    · rw [if_neg b] at sv
      exact br_f (fun z => b ((gs_shr (by omega) (by omega)).1.mp z)) (br_t (show (0 : Int32) = 0 from rfl) (nm_r (gs_hz (sv.symm.trans (gs_sv_dg hr hm).symm) hn) (nm_e (ih (n + 1) (by omega)))))
theorem gs_xsigns {post : Int32 → Prop} {r s c : Nat} (hr : r < 120) (hc : c < 32) (hp : post (nI (gs_cd r (s ^^^ c)))) : wpX_withSignsChanged post (nI (gs_cd r s)) (nI c) :=
  ⟨6, gs_xc4 hr hc hp 5 0 rfl⟩
theorem gs_xin {post : Int32 → Prop} {c : Nat} (hc : c < 161051) (h : post 1) : wpX_isInTable post (nI c) :=
  br_f (nI_pos (by omega)) (br_f (nI_ge (b := 161051) hc (by decide)) h)
theorem gs_xdo {post : Int32 → Prop} {x : Int32} {t q : Nat → Int32} {c d : Nat} (hc : c < 161051) (ht : t c = nI (d + 1)) (h : post (nI d)) : wpX_distanceOf post (x, t, q, 161051) (nI c) := by
  unfold wpX_distanceOf
  dsimp only
  refine gs_xin hc (br_f (show ¬ (1 : Int32) = 0 by decide) ⟨vp_in_nI hc (by decide), ?_⟩)
  rw [nI_clamp (by omega), ht, nI_pred]
  exact h
theorem gs_xdot {post : Int32 → Prop} {x : Int32} {t q : Nat → Int32} {r s : Nat} (T : gs_TF t) (hr : r < 120) (hs : s < 32) (h : post (nI (gs_D r s))) : wpX_distanceOf post (x, t, q, 161051) (nI (gs_cd r s)) :=
  gs_xdo (gs_cd_lt hr) (T.1 r s hr hs) h
theorem gs_xun {post : Int32 → Prop} {x : Int32} {t q : Nat → Int32} {c : Nat} (hc : c < 161051) (h1 : t c = 0 → post 1) (h0 : ¬ t c = 0 → post 0) : wpX_isUnreached post (x, t, q, 161051) (nI c) := by
  unfold wpX_isUnreached
  dsimp only
  refine gs_xin hc (br_f (show ¬ (1 : Int32) = 0 by decide) ⟨vp_in_nI hc (by decide), ?_⟩)
  rw [nI_clamp (by omega)]
  exact ⟨h1, h0⟩
theorem gs_xplace {post : Int32 → Prop} {p : Int32} (h1 : ∀ n, n < 5 → p = nI n → post 1) (h0 : (p < 0 ∨ 5 ≤ p) → post 0) : wpX_isPlace post p := by
  refine br_c (fun z => h0 (Or.inl z)) (fun z => br_c (fun y => h0 (Or.inr y)) (fun y => ?_))
  obtain ⟨n, hn, e⟩ := nI_of z
  refine h1 n ?_ e
  by_cases c : n < 5
  · exact c
  · exact absurd (e ▸ nI_le (a := 5) (by omega) hn) y
/-- p0 and p1 are a piece -/
def gs_Pc (p0 p1 : Int32) : Prop := ∃ i j, i ≤ j ∧ j < 5 ∧ p0 = nI i ∧ p1 = nI j
theorem gs_xpiece {post : Int32 → Prop} {p0 p1 : Int32} (h1 : gs_Pc p0 p1 → post 1) (h0 : ¬ gs_Pc p0 p1 → post 0) : wpX_isPiece post p0 p1 := by
  refine br_c (fun z => h0 ?_) (fun z => br_c (fun y => h0 ?_) (fun y => br_c (fun w => h0 ?_) (fun w => h1 ?_)))
  · rintro ⟨i, j, a, b, rfl, rfl⟩
    exact nI_pos (by omega) z
  · rintro ⟨i, j, a, b, rfl, rfl⟩
    exact nI_nlt a (by omega) y
  · rintro ⟨i, j, a, b, rfl, rfl⟩
    exact nI_ge (b := 5) b (by decide) w
  · obtain ⟨i, hi, rfl⟩ := nI_of z
    have hp1 : ¬ p1 < 0 := fun u => y (Int32.lt_of_lt_of_le u (Int32.not_lt.mp z))
    obtain ⟨j, hj, rfl⟩ := nI_of hp1
    refine ⟨i, j, ?_, ?_, rfl, rfl⟩
    · by_cases c : i ≤ j
      · exact c
      · exact absurd (nI_lt (by omega) hi) y
    · by_cases c : j < 5
      · exact c
      · exact absurd (nI_le (a := 5) (by omega) hj) w
theorem gs_xdt {post : Int32 → Prop} {t q : Nat → Int32} {r s i j : Nat} (T : gs_TF t) (hr : r < 120) (hs : s < 32) (h : i ≤ j) (hj : j < 5) (hp : post (nI (gs_D (gs_tr r i j) (gs_ts s i j)))) : wpX_distanceOfTurned post (nI (gs_cd r s), t, q, 161051) (nI i) (nI j) := by
  unfold wpX_distanceOfTurned
  dsimp only
  exact gs_xturned hr hs h hj (gs_xdot T (gs_tr_in hr h hj).1 (gs_ts_in hs h hj).1 hp)
theorem gs_xds {post : Int32 → Prop} {t q : Nat → Int32} {r s c : Nat} (T : gs_TF t) (hr : r < 120) (hs : s < 32) (hc : c < 32) (hp : post (nI (gs_D r (s ^^^ c)))) : wpX_distanceWithSigns post (nI (gs_cd r s), t, q, 161051) (nI c) := by
  unfold wpX_distanceWithSigns
  dsimp only
  exact gs_xsigns hr hc (gs_xdot T hr (gs_xor hs hc).1 hp)
