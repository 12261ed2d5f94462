/-! the class's walk over all rows -/
theorem gs_nar2 {n : Nat} (h : n < 9) : vp_nar .byte (nI n).toInt8.toInt32 = nI n := by
  rw [pk_vb]
  have hc : n = 0 ∨ n = 1 ∨ n = 2 ∨ n = 3 ∨ n = 4 ∨ n = 5 ∨ n = 6 ∨ n = 7 ∨ n = 8 := by omega
  rcases hc with e | e | e | e | e | e | e | e | e <;> subst e <;> decide
theorem gs_x24 {post : Int32 → SX → Prop} {J : Int32 → Int32 → (Nat → Int32) → (Nat → Int32) → Prop} {r s i e : Nat} {f : Int32} (hr : r < 120) (hs : s < 32) (hi : i < 5)
    (hJ : ∀ n t q, gs_TX n t → gs_QX n q → ((i < 4 ∧ ∃ k, gs_w r s (gs_D r s + 1) e k (i + 1) (i + 1) n = true) ∨ (4 ≤ i ∧ n = e)) → J (nI n) (nI (i + 1)) t q) :
    ∀ m j n t q, j + m = 5 → i ≤ j → (∃ k, gs_w r s (gs_D r s + 1) e k i j n = true) → gs_TX n t → gs_QX n q → wX_reachFrom_24 post J (nI (gs_cd r s)) (nI (gs_D r s + 2)) (nI i) f 161051 (m + 1) (nI n) (nI j) t q := by
  intro m
  induction m with
  | zero =>
    intro j n t q hj _ hw hT hQ
    obtain ⟨k, hw⟩ := hw
    have ej : j = 5 := by omega
    subst ej
    refine br_t (show (5 : Int32) ≤ nI 5 by decide) (nm_r (nI_1 i) (hJ n t q hT hQ ?_))
    cases k with
    | zero => exact (gs_w_0 hw).elim
    | succ k =>
      rcases gs_w_i hw with ⟨a, b⟩ | c
      · exact Or.inl ⟨a, k, b⟩
      · exact Or.inr c
  | succ m ih =>
    intro j n t q hj hij hw hT hQ
    obtain ⟨k, hw⟩ := hw
    have hj5 : j < 5 := by omega
    have a := (gs_tr_in hr hij hj5).1
    have b := (gs_ts_in hs hij hj5).1
    have hc := gs_cd_lt (s := gs_ts s i j) a
    have hD := gs_D6 a b
    have hP := (gs_P_in a b).2
    have tv := hT.1 _ _ a b
    refine br_f (nI_ge (b := 5) hj5 (by decide)) (gs_xturned hr hs hij hj5 ?_)
    cases k with
    | zero => exact (gs_w_0 hw).elim
    | succ k =>
      rcases gs_w_j hj5 hw with ⟨w1, w2, w3⟩ | ⟨w1, w2⟩
      · rw [if_neg (by omega)] at tv
        refine gs_xun hc (fun _ => ?_) (fun z => absurd tv z)
        refine br_f (show ¬ (1 : Int32) = 0 by decide) (br_f (nI_ge (b := 3840) (by omega) (by decide)) ⟨vp_in_nI hc (by decide), ?_⟩)
        refine nm_r (e' := upd t (gs_cd (gs_tr r i j) (gs_ts s i j)) (nI (gs_D (gs_tr r i j) (gs_ts s i j) + 1))) ?_ ⟨vp_in_nI (by omega) (by decide), ?_⟩
        · rw [nI_clamp (by omega), gs_nar2 (by omega), w2]
        · refine nm_r (e' := upd q n (nI (gs_cd (gs_tr r i j) (gs_ts s i j)))) ?_ (nm_r (nI_1 n) (nm_r (nI_1 j) (ih (j + 1) (n + 1) _ _ (by omega) (by omega) ⟨k, w3⟩ (gs_TX_s hT a b w1) (gs_QX_s hQ a b w1))))
          rw [nI_clamp (by omega)]
      · rw [if_pos w1] at tv
        refine gs_xun hc (fun z => ?_) (fun _ => ?_)
        · rw [tv] at z
          exact absurd z (nI_ne0 (by omega) (by omega))
        · exact br_t (show (0 : Int32) = 0 from rfl) (nm_r (nI_1 j) (ih (j + 1) n t q (by omega) (by omega) ⟨k, w2⟩ hT hQ))
theorem gs_x14 {post : Int32 → SX → Prop} {r s e : Nat} {f : Int32} (hr : r < 120) (hs : s < 32)
    (hp : ∀ t q, gs_TX e t → gs_QX e q → post (nI e) (f, t, q, 161051)) :
    ∀ m i n t q, i + m = 5 → ((i < 5 ∧ ∃ k, gs_w r s (gs_D r s + 1) e k i i n = true) ∨ (5 ≤ i ∧ n = e)) → gs_TX n t → gs_QX n q → wX_reachFrom_14 post (nI (gs_cd r s)) (nI (gs_D r s + 2)) f 161051 (m + 1) (nI n) (nI i) t q := by
  intro m
  induction m with
  | zero =>
    intro i n t q hi hw hT hQ
    have ei : i = 5 := by omega
    subst ei
    refine br_t (show (5 : Int32) ≤ nI 5 by decide) ?_
    rcases hw with ⟨a, _⟩ | ⟨_, rfl⟩
    · omega
    · exact hp t q hT hQ
  | succ m ih =>
    intro i n t q hi hw hT hQ
    have hi5 : i < 5 := by omega
    refine br_f (nI_ge (b := 5) hi5 (by decide)) ⟨5 - i + 1, ?_⟩
    rcases hw with ⟨_, hw⟩ | ⟨a, _⟩
    · refine gs_x24 hr hs hi5 ?_ (5 - i) i n t q (by omega) (Nat.le_refl i) hw hT hQ
      intro n' t' q' hT' hQ' h'
      refine ih (i + 1) n' t' q' (by omega) ?_ hT' hQ'
      rcases h' with ⟨a, b⟩ | ⟨a, b⟩
      · exact Or.inl ⟨by omega, b⟩
      · exact Or.inr ⟨by omega, b⟩
    · omega
theorem gs_C_lt (n : Nat) : gs_C n < 4096 := Nat.lt_of_le_of_lt (Nat.and_le_right (n := Nat.shiftRight gs_cT (12 * n)) (m := 4095)) (by decide)
theorem gs_xrf {post : Int32 → SX → Prop} {k : Nat} {f : Int32} {t q : Nat → Int32} (hk : k < 3840) (hT : gs_TX (gs_C k) t) (hQ : gs_QX (gs_C k) q)
    (hp : ∀ t q, gs_TX (gs_C (k + 1)) t → gs_QX (gs_C (k + 1)) q → post (nI (gs_C (k + 1))) (f, t, q, 161051)) : wpX_reachFrom post (f, t, q, 161051) (q k) (nI (gs_C k)) := by
  obtain ⟨h1, h2, h3, h4⟩ := gs_QC hk
  have hr : gs_Q k / 32 < 120 := by omega
  have hs : gs_Q k % 32 < 32 := by omega
  have tv := hT.1 _ _ hr hs
  rw [if_pos (by omega)] at tv
  rw [hQ k h1]
  unfold wpX_reachFrom
  dsimp only
  refine gs_xdo (gs_cd_lt hr) tv (nm_r (nI_add _ 2) ⟨6, ?_⟩)
  exact gs_x14 hr hs hp 5 0 (gs_C k) t q rfl (Or.inl ⟨by decide, 21, h4⟩) hT hQ
theorem gs_x20 {post : SX → Prop} {f : Int32} (hp : ∀ t q, gs_TX 3840 t → post (f, t, q, 161051)) :
    ∀ m k t q, k + m = 3840 → gs_TX (gs_C k) t → gs_QX (gs_C k) q → wX_measureAllRows_20 post (m + 1) (nI (gs_C k)) (nI k) f t q 161051 := by
  intro m
  induction m with
  | zero =>
    intro k t q hk hT hQ
    have ek : k = 3840 := by omega
    subst ek
    rw [gs_C0.2.1] at hT
    rw [gs_C0.2.1]
    exact br_t (nI_le (Nat.le_refl 3840) (by decide)) (hp t q hT)
  | succ m ih =>
    intro k t q hk hT hQ
    have hk' : k < 3840 := by omega
    have hc := (gs_QC hk').1
    have hl := gs_C_lt k
    refine br_f (nI_ge hc (by omega)) (br_f (nI_ge (b := 3840) hk' (by decide)) ⟨vp_in_nI hk' (by decide), ?_⟩)
    rw [nI_clamp (by omega)]
    refine gs_xrf hk' hT hQ ?_
    intro t' q' hT' hQ'
    exact nm_r (nI_1 k) (ih (k + 1) t' q' (by omega) hT' hQ')
theorem gs_xinit {post : SX → Prop} (hp : ∀ t q, gs_TF t → post (159440, t, q, 161051)) : wpX_init post := by
  unfold wpX_init
  refine ⟨by decide, nm_r (e' := 161051) (by decide) ⟨Nat.le_refl _, ?_⟩⟩
  unfold wpX_measureAllRows
  dsimp only
  refine ⟨vp_in_nI (n := 159440) (by decide) (by decide), nm_r (e' := upd (fun _ => 0) 159440 1) ?_ (nm_e ⟨3841, ?_⟩)⟩
  · rw [show vp_nar .byte 1 = 1 from gs_nar (n := 1) (by decide), show (159440 : Int32).toNatClampNeg = 159440 from nI_clamp (n := 159440) (by decide)]
  · have a := gs_TX_1
    have b := gs_QX_1
    rw [← gs_C0.1] at a b
    have k := gs_x20 (post := fun u => match u with | (a, b, c, d) => post (a, b, c, d)) (f := 159440) (fun t q h => hp t q (gs_TX_f h)) 3840 0 _ _ rfl a b
    rw [gs_C0.1] at k
    exact k
