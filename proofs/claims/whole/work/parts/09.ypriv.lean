/-! the reference's private methods -/
theorem gs_yabs {post : Int32 → Prop} {kn : Int32} {w a o : Nat → Int32} {r s p : Nat} (hr : r < 120) (hp : p < 5) (h : post (nI (gs_m r p))) : wpY_abs post (kn, w, a, o) (gs_sv r s p) := by
  have k := gs_sv_abs (s := s) hr hp
  unfold wpY_abs
  dsimp only
  refine br_c (fun z => ?_) (fun z => ?_)
  · rw [k.2 (Int32.not_lt.mpr z)]; exact h
  · rw [k.1 (Int32.not_le.mp z)]; exact h
theorem gs_yplace {post : Int32 → Prop} {kn p : Int32} {w a o : Nat → Int32} (h1 : ∀ n, n < 5 → p = nI n → post 1) (h0 : (p < 0 ∨ 5 ≤ p) → post 0) : wpY_place post (kn, w, a, o) p := by
  unfold wpY_place
  dsimp only
  refine br_c (fun z => h0 (Or.inl z)) (fun z => ?_)
  obtain ⟨n, hn, e⟩ := nI_of z
  subst e
  by_cases c : n < 5
  · exact br_f (nI_nlt (a := 4) (b := n) (by omega) (by decide)) (h1 n c rfl)
  · exact br_t (nI_lt (a := 4) (by omega) hn) (h0 (Or.inr (nI_le (a := 5) (by omega) hn)))
theorem gs_ypiece {post : Int32 → Prop} {kn p0 p1 : Int32} {w a o : Nat → Int32} (h1 : gs_Pc p0 p1 → post 1) (h0 : ¬ gs_Pc p0 p1 → post 0) : wpY_piece post (kn, w, a, o) p0 p1 := by
  unfold wpY_piece
  dsimp only
  refine br_c (fun z => h0 ?_) (fun z => br_c (fun y => h0 ?_) (fun y => br_c (fun w => h0 ?_) (fun w => h1 ?_)))
  · rintro ⟨i, j, a, b, rfl, rfl⟩
    exact nI_pos (by omega) z
  · rintro ⟨i, j, a, b, rfl, rfl⟩
    exact nI_nlt a (by omega) y
  · rintro ⟨i, j, a, b, rfl, rfl⟩
    exact nI_nlt (a := 4) (b := j) (by omega) (by decide) w
  · obtain ⟨i, hi, rfl⟩ := nI_of z
    have hp1 : ¬ p1 < 0 := fun u => y (Int32.lt_of_lt_of_le u (Int32.not_lt.mp z))
    obtain ⟨j, hj, rfl⟩ := nI_of hp1
    refine ⟨i, j, ?_, ?_, rfl, rfl⟩
    · by_cases c : i ≤ j
      · exact c
      · exact absurd (nI_lt (by omega) hi) y
    · by_cases c : j < 5
      · exact c
      · exact absurd (nI_lt (a := 4) (by omega) hj) w
/-- the row with its piece i .. j turned from both ends as far as p -/
def gs_Tp (g : Nat → Int32) (i j p : Nat) : Nat → Int32 := fun q => if (i ≤ q ∧ q < p) ∨ (i + j < q + p ∧ q ≤ j) then -(g (i + j - q)) else g q
theorem gs_Tp_s {g : Nat → Int32} {i j p : Nat} (hi : i ≤ p) (hp : p ≤ i + j - p) (hle : p ≤ i + j) : upd (upd (gs_Tp g i j p) p (-(gs_Tp g i j p (i + j - p)))) (i + j - p) (-(gs_Tp g i j p p)) = gs_Tp g i j (p + 1) := by
  have e1 : gs_Tp g i j p p = g p := if_neg (by omega)
  have e2 : gs_Tp g i j p (i + j - p) = g (i + j - p) := if_neg (by omega)
  rw [e1, e2]
  funext x
  by_cases c1 : x = i + j - p
  · rw [c1, pk_us]
    unfold gs_Tp
    rw [if_pos (by omega), show i + j - (i + j - p) = p from by omega]
  · rw [pk_un c1]
    by_cases c2 : x = p
    · rw [c2, pk_us]
      unfold gs_Tp
      rw [if_pos (by omega)]
    · rw [pk_un c2]
      unfold gs_Tp
      by_cases c3 : (i ≤ x ∧ x < p) ∨ (i + j < x + p ∧ x ≤ j)
      · rw [if_pos c3, if_pos (by omega)]
      · rw [if_neg c3, if_neg (by omega)]
theorem gs_Tp_0 {g : Nat → Int32} {i j : Nat} : gs_Tp g i j i = g := by
  funext q
  exact if_neg (by omega)
theorem gs_Tp_e {r s i j p : Nat} (hr : r < 120) (hs : s < 32) (h : i ≤ j) (hj : j < 5) (h1 : i + j < 2 * p) (h2 : 2 * p ≤ i + j + 2) : gs_Tp (gs_R r s) i j p = gs_R (gs_tr r i j) (gs_ts s i j) := by
  funext q
  unfold gs_Tp
  by_cases c : q < 5
  · rw [gs_R_p (r := gs_tr r i j) (s := gs_ts s i j) c, gs_sv_t hr hs h hj c]
    by_cases d : i ≤ q ∧ q ≤ j
    · rw [if_pos d, if_pos (by omega), gs_R_p (by omega)]
    · rw [if_neg d, if_neg (by omega), gs_R_p c]
  · rw [if_neg (by omega)]
    exact (if_neg c).trans (if_neg c).symm
theorem gs_y13 {post : Int32 → SY → Prop} {kn : Int32} {a o : Nat → Int32} {r s i j : Nat} (hr : r < 120) (hs : s < 32) (h : i ≤ j) (hj : j < 5) (hp : post 1 (kn, gs_R (gs_tr r i j) (gs_ts s i j), a, o)) :
    ∀ m p, p + m = 5 → i ≤ p → 2 * p ≤ i + j + 2 → wY_turn_13 post (nI i) (nI j) kn (m + 1) (nI p) (gs_Tp (gs_R r s) i j p) a o := by
  have ex : ∀ m p, p ≤ 5 → i + j < 2 * p → 2 * p ≤ i + j + 2 → wY_turn_13 post (nI i) (nI j) kn (m + 1) (nI p) (gs_Tp (gs_R r s) i j p) a o := by
    intro m p h5 h1 h2
    rw [gs_Tp_e hr hs h hj h1 h2]
    refine br_t ?_ hp
    rw [nI_add]
    by_cases c : p ≤ i + j
    · rw [pk_sub c]
      exact nI_lt (by omega) (by omega)
    · exact Int32.lt_of_lt_of_le (pk_sneg (by omega) (by omega)) (nI_pos' (by omega))
  intro m
  induction m with
  | zero =>
    intro p hp5 hi h2
    exact ex 0 p (by omega) (by omega) h2
  | succ m ih =>
    intro p hp5 hi h2
    by_cases c : i + j < 2 * p
    · exact ex _ p (by omega) c h2
    · have e : nI i + nI j - nI p = nI (i + j - p) := by rw [nI_add, pk_sub (by omega)]
      have k := ih (p + 1) (by omega) (by omega) (by omega)
      rw [← gs_Tp_s hi (by omega) (by omega)] at k
      refine br_f (by rw [e]; exact nI_nlt (by omega) (by omega)) (nm_r e ⟨vp_in_nI (by omega) (by decide), ?_⟩)
      rw [nI_clamp (by omega), nI_clamp (by omega)]
      exact nm_e ⟨vp_in_nI (by omega) (by decide), vp_in_nI (by omega) (by decide), nm_e ⟨vp_in_nI (by omega) (by decide), nm_e (nm_r (nI_1 p) k)⟩⟩
theorem gs_yturn {post : Int32 → SY → Prop} {kn p0 p1 : Int32} {a o : Nat → Int32} {r s : Nat} (hr : r < 120) (hs : s < 32) (h1 : ∀ i j, i ≤ j → j < 5 → p0 = nI i → p1 = nI j → post 1 (kn, gs_R (gs_tr r i j) (gs_ts s i j), a, o)) (h0 : ¬ gs_Pc p0 p1 → post 0 (kn, gs_R r s, a, o)) : wpY_turn post (kn, gs_R r s, a, o) p0 p1 := by
  unfold wpY_turn
  dsimp only
  refine gs_ypiece ?_ (fun z => br_t (show (0 : Int32) = 0 from rfl) (h0 z))
  rintro ⟨i, j, hij, hj, rfl, rfl⟩
  refine br_f (show ¬ (1 : Int32) = 0 by decide) ⟨5 - i + 1, ?_⟩
  have k := gs_y13 hr hs hij hj (h1 i j hij hj rfl rfl) (5 - i) i (by omega) (Nat.le_refl i) (by omega)
  rw [gs_Tp_0] at k
  exact k
theorem gs_lq_0 (f : Nat → Nat) (p : Nat) : ∀ n, n ≤ p + 1 → gs_lq f p n = 0 := by
  intro n
  induction n with
  | zero => intro _; rfl
  | succ n ih => intro h; unfold gs_lq; rw [ih (by omega), if_neg (by omega)]
theorem gs_sg_c : gs_all (fun s => gs_all (fun p => decide ((Nat.testBit s p = true → (s % 2 ^ p) ||| 2 ^ p = s % 2 ^ (p + 1)) ∧ (Nat.testBit s p = false → s % 2 ^ (p + 1) = s % 2 ^ p))) 5) 32 = true := by decide +kernel
theorem gs_sg {s p : Nat} (hs : s < 32) (hp : p < 5) : (Nat.testBit s p = true → (s % 2 ^ p) ||| 2 ^ p = s % 2 ^ (p + 1)) ∧ (Nat.testBit s p = false → s % 2 ^ (p + 1) = s % 2 ^ p) := of_decide_eq_true (gs_all_e (gs_all_e gs_sg_c s hs) p hp)
theorem gs_y19 {post : Int32 → Prop} {J : Int32 → Int32 → Int32 → Prop} {kn x1 x2 : Int32} {a o : Nat → Int32} {r s p : Nat} (hr : r < 120) (hp : p < 5)
    (hJ0 : Nat.testBit s p = false → J (x1 * (5 - nI p) + nI (gs_lq (gs_m r) p 5)) x2 (nI (p + 1))) (hJ1 : Nat.testBit s p = true → J (x1 * (5 - nI p) + nI (gs_lq (gs_m r) p 5)) (x2 ||| ((1 : Int32) <<< (nI p &&& 31))) (nI (p + 1))) :
    ∀ m q, q + m = 5 → p < q → wY_number_19 post J x1 x2 (nI p) kn (gs_R r s) a o (m + 1) (nI (gs_lq (gs_m r) p q)) (nI q) := by
  have ep : gs_R r s (nI p).toNatClampNeg = gs_sv r s p := by rw [nI_clamp (by omega), gs_R_p hp]
  have sn := gs_sv_neg (s := s) hr hp
  intro m
  induction m with
  | zero =>
    intro q hq _
    have e : q = 5 := by omega
    subst e
    refine br_t (show (5 : Int32) ≤ nI 5 by decide) (nm_e ⟨vp_in_nI hp (by decide), ?_⟩)
    rw [ep]
    refine br_c (fun z => nm_r (nI_1 p) (hJ0 ?_)) (fun z => nm_e (nm_r (nI_1 p) (hJ1 (sn.mp (Int32.not_le.mp z)))))
    cases b : Nat.testBit s p with
    | false => rfl
    | true => exact absurd (sn.mpr b) (Int32.not_lt.mpr z)
  | succ m ih =>
    intro q hq hpq
    have hq5 : q < 5 := by omega
    have eq : gs_R r s (nI q).toNatClampNeg = gs_sv r s q := by rw [nI_clamp (by omega), gs_R_p hq5]
    have k := ih (q + 1) (by omega) (by omega)
    have mp := gs_m_in hr hp
    have mq := gs_m_in hr hq5
    refine br_f (nI_ge (b := 5) hq5 (by decide)) ⟨vp_in_nI hq5 (by decide), ?_⟩
    rw [eq]
    refine gs_yabs hr hq5 ⟨vp_in_nI hp (by decide), ?_⟩
    rw [ep]
    refine gs_yabs hr hp ?_
    rw [gs_lq] at k
    by_cases c : gs_m r q < gs_m r p
    · rw [if_pos ⟨hpq, c⟩] at k
      exact br_f (nI_ge c (by omega)) (nm_r (nI_1 _) (nm_r (nI_1 q) k))
    · rw [if_neg (fun z => c z.2), Nat.add_zero] at k
      exact br_t (nI_le (by omega) (by omega)) (nm_r (nI_1 q) k)
theorem gs_y6 {post : Int32 → Prop} {kn : Int32} {a o : Nat → Int32} {r s : Nat} (hr : r < 120) (hs : s < 32) (hpo : post (nI (32 * r + s))) :
    ∀ m p, p + m = 5 → wY_number_6 post kn (gs_R r s) a o (m + 1) (nI (gs_rq (gs_m r) p)) (nI (s % 2 ^ p)) (nI p) := by
  intro m
  induction m with
  | zero =>
    intro p hp
    have e : p = 5 := by omega
    subst e
    refine br_t (show (5 : Int32) ≤ nI 5 by decide) ?_
    rw [gs_rk hr, show s % 2 ^ 5 = s from by omega, show (32 : Int32) = nI 32 from rfl, pk_mul, nI_add]
    exact hpo
  | succ m ih =>
    intro p hp
    have hp5 : p < 5 := by omega
    have k := ih (p + 1) (by omega)
    have e : nI (gs_rq (gs_m r) p) * (5 - nI p) + nI (gs_lq (gs_m r) p 5) = nI (gs_rq (gs_m r) (p + 1)) := by
      rw [show (5 : Int32) = nI 5 from rfl, pk_sub (by omega), pk_mul, nI_add, gs_rq]
    have sg := gs_sg hs hp5
    refine br_f (nI_ge (b := 5) hp5 (by decide)) (nm_r (nI_1 p) ⟨5 - (p + 1) + 1, ?_⟩)
    have z := gs_y19 (post := post) (J := wY_number_6 post kn (gs_R r s) a o (m + 1)) (kn := kn) (x1 := nI (gs_rq (gs_m r) p)) (x2 := nI (s % 2 ^ p)) (a := a) (o := o) (s := s) hr hp5 ?_ ?_ (5 - (p + 1)) (p + 1) (by omega) (by omega)
    · rw [gs_lq_0 _ p (p + 1) (Nat.le_refl _)] at z
      exact z
    · intro b
      rw [e, ← sg.2 b]
      exact k
    · intro b
      rw [e, gs_1sl p (by omega), gs_ors, sg.1 b]
      exact k
theorem gs_ynum {post : Int32 → Prop} {kn : Int32} {a o : Nat → Int32} {r s : Nat} (hr : r < 120) (hs : s < 32) (hp : post (nI (32 * r + s))) : wpY_number post (kn, gs_R r s, a, o) := by
  have k := gs_y6 (kn := kn) (a := a) (o := o) hr hs hp 5 0 rfl
  rw [show s % 2 ^ 0 = 0 from by omega] at k
  exact ⟨6, k⟩
theorem gs_y5 {post : Int32 → Prop} {kn : Int32} {w a o : Nat → Int32} {u l : Nat} (hu : u < 64) (hl : l < 2 ^ 31) :
    ∀ k m n, m + k = 6 → n < m → post (nI (gs_un u l k m n)) → wY_unused_5 post (nI u) (nI l) kn w a o (k + 1) (nI n) (nI m) := by
  intro k
  induction k with
  | zero =>
    intro m n hm _ h
    have e : m = 6 := by omega
    subst e
    exact br_t (show (5 : Int32) < nI 6 by decide) h
  | succ k ih =>
    intro m n hm hn h
    have b := (gs_shr (p := m) hu (by omega)).2
    refine br_f (nI_nlt (a := 5) (b := m) (by omega) (by decide)) ?_
    rw [gs_un] at h
    by_cases c : Nat.testBit u m = false
    · rw [if_pos c] at h
      refine br_t (b.mpr c) ?_
      by_cases d : n = l
      · rw [if_pos d] at h
        exact br_t (by rw [d]) h
      · rw [if_neg d] at h
        exact br_f (fun z => d ((nI_eq (by omega) hl).mp z)) (nm_r (nI_1 n) (nm_r (nI_1 m) (ih (m + 1) (n + 1) (by omega) (by omega) h)))
    · rw [if_neg c] at h
      exact br_f (fun z => c (b.mp z)) (nm_r (nI_1 m) (ih (m + 1) n (by omega) (by omega) h))
theorem gs_yun {post : Int32 → Prop} {kn : Int32} {w a o : Nat → Int32} {u l : Nat} (hu : u < 64) (hl : l < 2 ^ 31) (h : post (nI (gs_un u l 5 1 0))) : wpY_unused post (kn, w, a, o) (nI u) (nI l) :=
  ⟨6, gs_y5 hu hl 5 1 0 rfl (by decide) h⟩
theorem gs_bk_c : gs_all (fun p => decide (0 < gs_bk (p + 1) ∧ gs_bk p < 200)) 5 = true := by decide +kernel
theorem gs_bk_in {p : Nat} (hp : p < 5) : 0 < gs_bk (p + 1) ∧ gs_bk p < 200 := of_decide_eq_true (gs_all_e gs_bk_c p hp)
theorem gs_rs_lt {r : Nat} (hr : r < 120) : ∀ p, gs_rs r p < 120 := by
  intro p
  induction p with
  | zero => exact hr
  | succ p ih => unfold gs_rs; exact Nat.lt_of_le_of_lt (Nat.mod_le _ _) ih
def gs_R5 (w : Nat → Int32) : Prop := ∀ q, 5 ≤ q → w q = 0
theorem gs_R5_R (r s : Nat) : gs_R5 (gs_R r s) := fun q h => if_neg (by omega)
theorem gs_R5_u {w : Nat → Int32} {p : Nat} {x : Int32} (h : gs_R5 w) (hp : p < 5) : gs_R5 (upd w p x) := fun q hq => by rw [pk_un (by omega)]; exact h q hq
theorem gs_y14 {post : SY → Prop} {kn : Int32} {a o : Nat → Int32} {r s : Nat} (hr : r < 120) (hs : s < 32) (hpo : post (kn, gs_R r s, a, o)) :
    ∀ m p w, p + m = 5 → (∀ q, q < p → w q = gs_sv r s q) → gs_R5 w → wY_make_14 post (nI (32 * r + s)) kn (m + 1) (nI (gs_rs r p)) (nI (gs_bk p)) (nI (gs_us r p)) (nI p) w a o := by
  intro m
  induction m with
  | zero =>
    intro p w hp hw h5
    have e : p = 5 := by omega
    subst e
    refine br_t (show (5 : Int32) ≤ nI 5 by decide) ?_
    have ew : w = gs_R r s := by
      funext q
      by_cases c : q < 5
      · rw [gs_R_p c]; exact hw q c
      · rw [h5 q (by omega)]; exact (if_neg c).symm
    rw [ew]
    exact hpo
  | succ m ih =>
    intro p w hp hw h5
    have hp5 : p < 5 := by omega
    have bk := gs_bk_in hp5
    have bk1 : gs_bk (p + 1) < 200 := Nat.lt_of_le_of_lt (Nat.div_le_self _ _) bk.2
    have rs := gs_rs_lt hr p
    have un := gs_un_m hr hp5
    have mi := gs_m_in hr hp5
    have e1 : 5 - nI p = nI (5 - p) := pk_sub (a := 5) (by omega)
    have e2 : nI (gs_bk p) / nI (5 - p) = nI (gs_bk (p + 1)) := pk_div (by omega) (by omega) (by omega)
    have e3 : nI (gs_rs r p) / nI (gs_bk (p + 1)) = nI (gs_rs r p / gs_bk (p + 1)) := pk_div (by omega) bk.1 (by omega)
    have e4 : nI (gs_rs r p) - nI (gs_rs r p) / nI (gs_bk (p + 1)) * nI (gs_bk (p + 1)) = nI (gs_rs r (p + 1)) := pk_rem (by omega) bk.1 (by omega)
    have nb := gs_nb hr hs hp5
    have dl : gs_rs r p / gs_bk (p + 1) ≤ gs_rs r p := Nat.div_le_self _ _
    refine br_f (nI_ge (b := 5) hp5 (by decide)) ⟨by rw [e1]; exact nI_ne0 (by omega) (by omega), nm_r (e' := nI (gs_bk (p + 1))) (by rw [e1]; exact e2) ?_⟩
    refine br_f (nI_nle bk.1 (by omega)) ⟨nI_ne0 bk.1 (by omega), br_f (nI_nle bk.1 (by omega)) ⟨nI_ne0 bk.1 (by omega), ?_⟩⟩
    rw [e4, e3]
    refine gs_yun un.2 (by omega) ?_
    rw [un.1]
    refine nm_r (e' := nI (gs_us r (p + 1))) (by rw [gs_1sl _ (by omega), gs_ors, gs_us]) ?_
    have go : ∀ x, x = gs_sv r s p → wY_make_14 post (nI (32 * r + s)) kn (m + 1) (nI (gs_rs r (p + 1))) (nI (gs_bk (p + 1))) (nI (gs_us r (p + 1))) (nI (p + 1)) (upd w p x) a o := by
      intro x hx
      refine ih (p + 1) _ (by omega) ?_ (gs_R5_u h5 hp5)
      intro q hq
      by_cases c : q = p
      · rw [c, pk_us]; exact hx
      · rw [pk_un c]; exact hw q (by omega)
    by_cases b : Nat.testBit s p = true
    · refine br_t (nb.mpr b) ⟨vp_in_nI hp5 (by decide), ?_⟩
      rw [nI_clamp (by omega)]
      exact nm_e (nm_r (nI_1 p) (go _ (if_pos b).symm))
    · refine br_f (fun z => b (nb.mp z)) ⟨vp_in_nI hp5 (by decide), ?_⟩
      rw [nI_clamp (by omega)]
      exact nm_e (nm_r (nI_1 p) (go _ (if_neg b).symm))
theorem gs_ymake {post : SY → Prop} {kn : Int32} {w a o : Nat → Int32} {r s : Nat} (hr : r < 120) (hs : s < 32) (h5 : gs_R5 w) (hp : post (kn, gs_R r s, a, o)) : wpY_make post (kn, w, a, o) (nI (32 * r + s)) := by
  have e : nI (32 * r + s) / 32 = nI r := by
    have k := pk_div (a := 32 * r + s) (d := 32) (by omega) (by decide) (by decide)
    rwa [show (32 * r + s) / 32 = r from by omega] at k
  unfold wpY_make
  dsimp only
  exact ⟨by decide, nm_r e ⟨6, gs_y14 hr hs hp 5 0 w rfl (fun q hq => by omega) h5⟩⟩
