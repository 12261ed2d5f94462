/-! loading, the code, the start -/
theorem gs_or64 {a b : Nat} (ha : a < 64) (hb : b < 64) : a ||| b < 64 := Nat.or_lt_two_pow (n := 6) ha hb
theorem gs_p6 : ∀ n, n < 6 → 2 ^ n < 64 := by
  intro n h
  have hc : n = 0 ∨ n = 1 ∨ n = 2 ∨ n = 3 ∨ n = 4 ∨ n = 5 := by omega
  rcases hc with e | e | e | e | e | e <;> subst e <;> decide
theorem gs_mk_lt {d : Nat → Nat} (h : ∀ p, d p < 11) : ∀ p, gs_mk d p < 64 := by
  intro p
  induction p with
  | zero => exact (by decide : 0 < 64)
  | succ p ih => unfold gs_mk; exact gs_or64 ih (gs_p6 _ (gs_ab_lt (h p)))
/-- the digits of a code -/
def gs_ds (c p : Nat) : Nat := c / 11 ^ p % 11
theorem gs_ds_lt (c p : Nat) : gs_ds c p < 11 := Nat.mod_lt _ (by decide)
theorem gs_y76 {post : Int32 → SY → Prop} {kn : Int32} {a o w0 : Nat → Int32} {g : Nat → Int32} (h5 : gs_R5 w0) (ho : ∀ q, q < 5 → o q = g q) (hp : ∀ w, gs_R5 w → (∀ q, q < 5 → w q = g q) → post 1 (kn, w, a, o)) :
    ∀ m p w, p + m = 5 → gs_R5 w → (∀ q, q < p → w q = g q) → wY_load_76 post kn (m + 1) (nI p) w a o := by
  intro m
  induction m with
  | zero =>
    intro p w hm hw hg
    have e : p = 5 := by omega
    subst e
    exact br_t (show (5 : Int32) ≤ nI 5 by decide) (hp w hw hg)
  | succ m ih =>
    intro p w hm hw hg
    have hp5 : p < 5 := by omega
    refine br_f (nI_ge (b := 5) hp5 (by decide)) ⟨vp_in_nI hp5 (by decide), vp_in_nI hp5 (by decide), ?_⟩
    rw [nI_clamp (by omega)]
    refine nm_e (nm_r (nI_1 p) (ih (p + 1) _ (by omega) (gs_R5_u hw hp5) ?_))
    intro q hq
    by_cases c : q = p
    · rw [c, pk_us]; exact ho p hp5
    · rw [pk_un c]; exact hg q (by omega)
theorem gs_y15 {post : Int32 → SY → Prop} {kn : Int32} {w a : Nat → Int32} {c : Nat} (hc : c < 2 ^ 31) (h5 : gs_R5 w) (hbad : ∀ o, (161051 ≤ c ∨ gs_mk (gs_ds c) 5 ≠ 62) → post 0 (kn, w, a, o)) (hok : ∀ o w', c < 161051 → gs_mk (gs_ds c) 5 = 62 → gs_R5 w' → (∀ q, q < 5 → w' q = nI (gs_ds c q) - 5) → post 1 (kn, w', a, o)) :
    ∀ m p o, p + m = 5 → (∀ q, q < p → o q = nI (gs_ds c q) - 5) → wY_load_15 post kn (m + 1) (nI (c / 11 ^ p)) (nI (gs_mk (gs_ds c) p)) (nI p) w a o := by
  intro m
  induction m with
  | zero =>
    intro p o hm ho
    have e : p = 5 := by omega
    subst e
    have hl : c / 11 ^ 5 < 2 ^ 31 := Nat.lt_of_le_of_lt (Nat.div_le_self _ _) hc
    have hk := gs_mk_lt (gs_ds_lt c) 5
    have e5 : c / 11 ^ 5 = c / 161051 := rfl
    refine br_t (show (5 : Int32) ≤ nI 5 by decide) ?_
    by_cases z : 161051 ≤ c
    · refine br_t (nI_lt (a := 0) ?_ hl) (hbad o (Or.inl z))
      rw [e5]
      omega
    · have ez : c / 11 ^ 5 = 0 := by rw [e5]; omega
      rw [ez]
      refine br_f (show ¬ (0 : Int32) < nI 0 by decide) ?_
      by_cases k : gs_mk (gs_ds c) 5 = 62
      · refine br_t (by rw [k]; rfl) ⟨6, gs_y76 h5 ho (fun w' h1 h2 => hok o w' (by omega) k h1 h2) 5 0 w rfl h5 (fun q hq => by omega)⟩
      · refine br_f (fun y => k ((nI_eq (b := 62) (by omega) (by decide)).mp y)) (hbad o (Or.inr k))
  | succ m ih =>
    intro p o hm ho
    have hp5 : p < 5 := by omega
    have hl : c / 11 ^ p < 2 ^ 31 := Nat.lt_of_le_of_lt (Nat.div_le_self _ _) hc
    have e1 : nI (c / 11 ^ p) - nI (c / 11 ^ p) / 11 * 11 = nI (gs_ds c p) := pk_rem (d := 11) hl (by decide) (by decide)
    have e2 : nI (c / 11 ^ p) / 11 = nI (c / 11 ^ (p + 1)) := by
      have k := pk_div (d := 11) hl (by decide) (by decide)
      rw [Nat.div_div_eq_div_mul, ← Nat.pow_succ] at k
      exact k
    have ab := gs_ab_i (gs_ds c p) (gs_ds_lt c p)
    have al := gs_ab_lt (gs_ds_lt c p)
    refine br_f (nI_ge (b := 5) hp5 (by decide)) ⟨by decide, vp_in_nI hp5 (by decide), ?_⟩
    rw [e1, nI_clamp (by omega)]
    refine nm_e ⟨by decide, nm_r e2 ⟨vp_in_nI hp5 (by decide), ?_⟩⟩
    rw [pk_us]
    have go : ∀ x, x = nI (gs_ab (gs_ds c p)) → ∀ y, y = nI (gs_mk (gs_ds c) p) ||| ((1 : Int32) <<< (x &&& 31)) → ∀ z, z = nI p + 1 → wY_load_15 post kn (m + 1) (nI (c / 11 ^ (p + 1))) y z w a (upd o p (nI (gs_ds c p) - 5)) := by
      intro x hx
      subst hx
      refine nm_r (e' := nI (gs_mk (gs_ds c) (p + 1))) (by rw [gs_1sl _ al, gs_ors, gs_mk]) (nm_r (nI_1 p) (ih (p + 1) _ (by omega) ?_))
      intro q hq
      by_cases d : q = p
      · rw [d, pk_us]
      · rw [pk_un d]; exact ho q (by omega)
    unfold wpY_abs
    dsimp only
    exact br_c (fun z => go _ (ab.2 (Int32.not_lt.mpr z))) (fun z => go _ (ab.1 (Int32.not_le.mp z)))
theorem gs_ds0 : gs_mk (gs_ds 0) 5 ≠ 62 := by decide +kernel
theorem gs_yload {post : Int32 → SY → Prop} {kn p0 : Int32} {w a o : Nat → Int32} (h5 : gs_R5 w) (hneg : p0 < 0 → ∀ o, post 0 (kn, w, a, o)) (hbad : ∀ c, c < 2 ^ 31 → p0 = nI c → ∀ o, (161051 ≤ c ∨ gs_mk (gs_ds c) 5 ≠ 62) → post 0 (kn, w, a, o)) (hok : ∀ c, c < 2 ^ 31 → p0 = nI c → ∀ o w', c < 161051 → gs_mk (gs_ds c) 5 = 62 → gs_R5 w' → (∀ q, q < 5 → w' q = nI (gs_ds c q) - 5) → post 1 (kn, w', a, o)) : wpY_load post (kn, w, a, o) p0 := by
  unfold wpY_load
  dsimp only
  refine br_c (fun z => ?_) (fun z => ?_)
  · obtain ⟨c, hc, e⟩ := nI_of (x := p0) (Int32.not_lt.mpr z)
    refine ⟨6, ?_⟩
    have k := gs_y15 hc h5 (hbad c hc e) (hok c hc e) 5 0 o rfl (fun q hq => by omega)
    rw [Nat.pow_zero, Nat.div_one] at k
    rw [e]
    exact k
  · have n := hneg (Int32.not_le.mp z)
    have k := gs_y15 (c := 0) (by decide) h5 (fun o _ => n o) (fun o w' _ y => absurd y gs_ds0) 5 0 o rfl (fun q hq => by omega)
    exact ⟨6, k⟩
theorem gs_xdo_any {post : Int32 → Prop} {x p0 : Int32} {t q : Nat → Int32} (hbad : (p0 < 0 ∨ 161051 ≤ p0) → post (-1)) (hok : ∀ c, c < 161051 → p0 = nI c → post (t c - 1)) : wpX_distanceOf post (x, t, q, 161051) p0 := by
  unfold wpX_distanceOf
  dsimp only
  unfold wpX_isInTable
  refine br_c (fun z => br_t (show (0 : Int32) = 0 from rfl) (hbad (Or.inl z))) (fun z => br_c (fun y => br_t (show (0 : Int32) = 0 from rfl) (hbad (Or.inr y))) (fun y => ?_))
  obtain ⟨c, hc, rfl⟩ := nI_of z
  have hl : c < 161051 := by
    by_cases k : c < 161051
    · exact k
    · exact absurd (nI_le (a := 161051) (by omega) hc) y
  refine br_f (show ¬ (1 : Int32) = 0 by decide) ⟨vp_in_nI hl (by decide), ?_⟩
  rw [nI_clamp hc]
  exact hok c hl rfl
theorem gs_ds_cd {r s : Nat} (hr : r < 120) : ∀ p, p < 5 → gs_ds (gs_cd r s) p = gs_dg r s p := fun _ hp => gs_cd_dg hr hp
theorem gs_mk_c {f g : Nat → Nat} (h : ∀ q, q < 5 → f q = g q) : ∀ p, p ≤ 5 → gs_mk f p = gs_mk g p := by
  intro p
  induction p with
  | zero => intro _; rfl
  | succ p ih => intro hp; unfold gs_mk; rw [ih (by omega), h p (by omega)]
/-- a code below 161051 is some row's just if its digits' marks are all there -/
theorem gs_ld1 {c : Nat} (hc : c < 161051) (h : gs_mk (gs_ds c) 5 = 62) : ∃ r s, r < 120 ∧ s < 32 ∧ c = gs_cd r s ∧ ∀ p, p < 5 → gs_dg r s p = gs_ds c p := by
  obtain ⟨r, s, hr, hs, k⟩ := gs_mk_R (fun p _ => gs_ds_lt c p) h
  exact ⟨r, s, hr, hs, (gs_H_e hc (fun p hp => k p hp)).symm, k⟩
theorem gs_ld0 {c : Nat} (h : gs_mk (gs_ds c) 5 ≠ 62) : ∀ r s, r < 120 → s < 32 → c ≠ gs_cd r s := by
  intro r s hr hs e
  apply h
  rw [e, gs_mk_c (gs_ds_cd hr) 5 (by omega), gs_mk_us hr 5 (by omega), gs_us5 hr]
theorem gs_yc {post : Int32 → Prop} {kn : Int32} {a o : Nat → Int32} {r s : Nat} (hr : r < 120) (hp : post (nI (gs_cd r s))) :
    ∀ m n, n + m = 5 → wY_code_4 post kn (gs_R r s) a o (m + 1) (nI (gs_Hn (gs_dg r s) n)) (nI m + (-1)) := by
  intro m
  induction m with
  | zero =>
    intro n hn
    refine br_t (by decide) ?_
    have e : n = 5 := by omega
    rw [e, gs_Hn5]
    exact hp
  | succ m ih =>
    intro n hn
    have hm : m < 5 := by omega
    rw [pk_m1 m]
    refine br_f (nI_pos (by omega)) ⟨vp_in_nI hm (by decide), ?_⟩
    rw [nI_clamp (by omega), gs_R_p hm, ← gs_sv_dg hr hm, Int32.mul_comm 11]
    exact nm_r (gs_hz rfl hn) (nm_e (ih (n + 1) (by omega)))
theorem gs_ycode {post : Int32 → Prop} {kn : Int32} {a o : Nat → Int32} {r s : Nat} (hr : r < 120) (hp : post (nI (gs_cd r s))) : wpY_code post (kn, gs_R r s, a, o) :=
  ⟨6, gs_yc hr hp 5 0 rfl⟩
theorem gs_R00 : ∀ p, p < 5 → gs_sv 0 0 p = nI (p + 1) := by
  intro p h
  have hc : p = 0 ∨ p = 1 ∨ p = 2 ∨ p = 3 ∨ p = 4 := by omega
  rcases hc with e | e | e | e | e <;> subst e <;> decide +kernel
theorem gs_y29 {post : SY → Prop} {kn : Int32} {a o : Nat → Int32} (hp : post (kn, gs_R 0 0, a, o)) :
    ∀ m p w, p + m = 5 → gs_R5 w → (∀ q, q < p → w q = gs_sv 0 0 q) → wY_init_29 post kn (m + 1) (nI p) w a o := by
  intro m
  induction m with
  | zero =>
    intro p w hm hw hg
    have e : p = 5 := by omega
    subst e
    have ew : w = gs_R 0 0 := by
      funext q
      by_cases c : q < 5
      · rw [gs_R_p c]; exact hg q c
      · rw [hw q (by omega)]; exact (if_neg c).symm
    rw [ew]
    exact br_t (show (5 : Int32) ≤ nI 5 by decide) hp
  | succ m ih =>
    intro p w hm hw hg
    have hp5 : p < 5 := by omega
    refine br_f (nI_ge (b := 5) hp5 (by decide)) ⟨vp_in_nI hp5 (by decide), ?_⟩
    rw [nI_clamp (by omega), nI_1]
    refine nm_e (nm_e (ih (p + 1) _ (by omega) (gs_R5_u hw hp5) ?_))
    intro q hq
    by_cases c : q = p
    · rw [c, pk_us]; exact (gs_R00 p hp5).symm
    · rw [pk_un c]; exact hg q (by omega)
theorem gs_yinit {post : SY → Prop} (hp : post (0, gs_R 0 0, (fun _ => 0), (fun _ => 0))) : wpY_init post :=
  ⟨6, gs_y29 hp 5 0 (fun _ => 0) rfl (fun _ _ => rfl) (fun q hq => by omega)⟩
