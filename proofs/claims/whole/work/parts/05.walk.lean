/-! the class's table and its list of reached rows -/
def gs_TX (n : Nat) (t : Nat → Int32) : Prop := (∀ r s, r < 120 → s < 32 → t (gs_cd r s) = if gs_P r s < n then nI (gs_D r s + 1) else 0) ∧ (∀ c, (∀ r s, r < 120 → s < 32 → c ≠ gs_cd r s) → t c = 0)
def gs_QX (n : Nat) (q : Nat → Int32) : Prop := ∀ j, j < n → q j = nI (gs_cd (gs_Q j / 32) (gs_Q j % 32))
/-- the table when it is done -/
def gs_TF (t : Nat → Int32) : Prop := (∀ r s, r < 120 → s < 32 → t (gs_cd r s) = nI (gs_D r s + 1)) ∧ (∀ c, (∀ r s, r < 120 → s < 32 → c ≠ gs_cd r s) → t c = 0)
theorem gs_P_inj {r s r' s' : Nat} (hr : r < 120) (hs : s < 32) (hr' : r' < 120) (hs' : s' < 32) (h : gs_P r s = gs_P r' s') : r = r' ∧ s = s' := by
  have a := (gs_P_in hr hs).1
  have b := (gs_P_in hr' hs').1
  rw [h] at a
  omega
theorem gs_TX_s {n r s : Nat} {t : Nat → Int32} (h : gs_TX n t) (hr : r < 120) (hs : s < 32) (hP : gs_P r s = n) : gs_TX (n + 1) (upd t (gs_cd r s) (nI (gs_D r s + 1))) := by
  constructor
  · intro r' s' hr' hs'
    by_cases c : gs_cd r' s' = gs_cd r s
    · obtain ⟨rfl, rfl⟩ := gs_cd_inj hr' hs' hr hs c
      rw [pk_us, if_pos (by omega)]
    · rw [pk_un c, h.1 r' s' hr' hs']
      have hne : gs_P r' s' ≠ n := by
        intro e
        obtain ⟨rfl, rfl⟩ := gs_P_inj hr' hs' hr hs (e.trans hP.symm)
        exact c rfl
      by_cases z : gs_P r' s' < n
      · rw [if_pos z, if_pos (by omega)]
      · rw [if_neg z, if_neg (by omega)]
  · intro c hc
    rw [pk_un (hc r s hr hs)]
    exact h.2 c hc
theorem gs_QX_s {n r s : Nat} {q : Nat → Int32} (h : gs_QX n q) (hr : r < 120) (hs : s < 32) (hP : gs_P r s = n) : gs_QX (n + 1) (upd q n (nI (gs_cd r s))) := by
  intro j hj
  by_cases c : j = n
  · subst c
    have a := (gs_P_in hr hs).1
    rw [hP] at a
    rw [pk_us, a, show (32 * r + s) / 32 = r from by omega, show (32 * r + s) % 32 = s from by omega]
  · rw [pk_un c]
    exact h j (by omega)
theorem gs_cd00 : gs_cd 0 0 = 159440 := by decide +kernel
theorem gs_TX_0 : gs_TX 0 (fun _ => 0) := ⟨fun r s _ _ => by rw [if_neg (by omega)], fun _ _ => rfl⟩
theorem gs_TX_1 : gs_TX 1 (upd (fun _ => 0) 159440 1) := by
  have k := gs_TX_s gs_TX_0 (show 0 < 120 by decide) (show 0 < 32 by decide) gs_C0.2.2.2
  rw [gs_cd00, gs_D00] at k
  exact k
theorem gs_QX_1 : gs_QX 1 (upd (fun _ => 0) 0 159440) := by
  have k := gs_QX_s (n := 0) (q := fun _ => 0) (fun j hj => by omega) (show 0 < 120 by decide) (show 0 < 32 by decide) gs_C0.2.2.2
  rw [gs_cd00] at k
  exact k
theorem gs_TX_f {t : Nat → Int32} (h : gs_TX 3840 t) : gs_TF t := ⟨fun r s hr hs => by rw [h.1 r s hr hs, if_pos (gs_P_in hr hs).2], h.2⟩
theorem gs_nar {n : Nat} (h : n < 9) : vp_nar .byte (nI n) = nI n := by
  rw [vp_nar_byte]
  have hc : n = 0 ∨ n = 1 ∨ n = 2 ∨ n = 3 ∨ n = 4 ∨ n = 5 ∨ n = 6 ∨ n = 7 ∨ n = 8 := by omega
  rcases hc with e | e | e | e | e | e | e | e | e <;> subst e <;> decide
/-! counts, the first, the greatest -/
def gs_ct (P : Nat → Nat → Bool) : Nat → Nat
  | 0 => 0
  | c + 1 => gs_ct P c + (if c / 5 ≤ c % 5 ∧ P (c / 5) (c % 5) = true then 1 else 0)
theorem gs_ct_sk (P : Nat → Nat → Bool) : ∀ i, i < 5 → gs_ct P (5 * i + i) = gs_ct P (5 * i) := by
  intro i hi
  have hc : i = 0 ∨ i = 1 ∨ i = 2 ∨ i = 3 ∨ i = 4 := by omega
  rcases hc with e | e | e | e | e <;> subst e
  · rfl
  all_goals (simp [gs_ct])
theorem gs_ct_t {P : Nat → Nat → Bool} {i j : Nat} (h : i ≤ j) (hj : j < 5) (hP : P i j = true) : gs_ct P (5 * i + j + 1) = gs_ct P (5 * i + j) + 1 := by
  have a : (5 * i + j) / 5 = i := by omega
  have b : (5 * i + j) % 5 = j := by omega
  rw [gs_ct, a, b, if_pos ⟨h, hP⟩]
theorem gs_ct_f {P : Nat → Nat → Bool} {i j : Nat} (hj : j < 5) (hP : ¬ (i ≤ j ∧ P i j = true)) : gs_ct P (5 * i + j + 1) = gs_ct P (5 * i + j) := by
  have a : (5 * i + j) / 5 = i := by omega
  have b : (5 * i + j) % 5 = j := by omega
  rw [gs_ct, a, b, if_neg hP, Nat.add_zero]
theorem gs_ct_le (P : Nat → Nat → Bool) : ∀ c, gs_ct P c ≤ c := by
  intro c
  induction c with
  | zero => exact Nat.le_refl _
  | succ c ih => unfold gs_ct; split <;> omega
/-- x is the answer of firstGood where P says which turnings are good -/
def gs_Fst (P : Nat → Nat → Bool) (x : Int32) : Prop := (x = -1 ∧ ∀ i j, i ≤ j → j < 5 → P i j = false) ∨ (∃ i j, i ≤ j ∧ j < 5 ∧ P i j = true ∧ (∀ i' j', i' ≤ j' → j' < 5 → 5 * i' + j' < 5 * i + j → P i' j' = false) ∧ x = nI (8 * i + j))
theorem gs_Fst_u {P : Nat → Nat → Bool} {x y : Int32} (h : gs_Fst P x) (k : gs_Fst P y) : x = y := by
  rcases h with ⟨e, h⟩ | ⟨i, j, a, b, c, d, e⟩ <;> rcases k with ⟨e', h'⟩ | ⟨i', j', a', b', c', d', e'⟩
  · rw [e, e']
  · rw [h i' j' a' b'] at c'; exact absurd c' (by decide)
  · rw [h' i j a b] at c; exact absurd c (by decide)
  · by_cases z : 5 * i + j < 5 * i' + j'
    · rw [d' i j a b z] at c; exact absurd c (by decide)
    · by_cases z' : 5 * i' + j' < 5 * i + j
      · rw [d i' j' a' b' z'] at c'; exact absurd c' (by decide)
      · have : i = i' := by omega
        have : j = j' := by omega
        subst_vars
        rfl
def gs_Big (r : Nat) (x : Int32) : Prop := ∃ m, x = nI m ∧ (∃ s, s < 32 ∧ m = gs_D r s) ∧ ∀ s, s < 32 → gs_D r s ≤ m
def gs_Sml (r : Nat) (x : Int32) : Prop := ∃ m, x = nI m ∧ (∃ s, s < 32 ∧ m = gs_D r s) ∧ ∀ s, s < 32 → m ≤ gs_D r s
theorem gs_Big_u {r : Nat} {x y : Int32} (h : gs_Big r x) (k : gs_Big r y) : x = y := by
  obtain ⟨m, rfl, ⟨s, hs, e⟩, a⟩ := h
  obtain ⟨m', rfl, ⟨s', hs', e'⟩, a'⟩ := k
  have p := a s' hs'
  have q := a' s hs
  exact congrArg nI (by omega)
theorem gs_Sml_u {r : Nat} {x y : Int32} (h : gs_Sml r x) (k : gs_Sml r y) : x = y := by
  obtain ⟨m, rfl, ⟨s, hs, e⟩, a⟩ := h
  obtain ⟨m', rfl, ⟨s', hs', e'⟩, a'⟩ := k
  have p := a s' hs'
  have q := a' s hs
  exact congrArg nI (by omega)
theorem gs_xor_c : gs_all (fun s => gs_all (fun c => decide ((s ^^^ c) < 32 ∧ s ^^^ (s ^^^ c) = c)) 32) 32 = true := by decide +kernel
theorem gs_xor {s c : Nat} (hs : s < 32) (hc : c < 32) : (s ^^^ c) < 32 ∧ s ^^^ (s ^^^ c) = c := of_decide_eq_true (gs_all_e (gs_all_e gs_xor_c s hs) c hc)
theorem gs_sv_x {r s c p : Nat} : gs_sv r (s ^^^ c) p = if Nat.testBit c p = true then -(gs_sv r s p) else gs_sv r s p := by
  unfold gs_sv
  rw [Nat.testBit_xor]
  cases Nat.testBit s p <;> cases Nat.testBit c p <;> simp
/-! loading -/
def gs_ab (d : Nat) : Nat := if d < 5 then 5 - d else d - 5
theorem gs_ab_lt {d : Nat} (h : d < 11) : gs_ab d < 6 := by unfold gs_ab; split <;> omega
theorem gs_ab_i : ∀ d, d < 11 → (nI d - 5 < 0 → -(nI d - 5) = nI (gs_ab d)) ∧ (¬ nI d - 5 < 0 → nI d - 5 = nI (gs_ab d)) := by
  intro d h
  have hc : d = 0 ∨ d = 1 ∨ d = 2 ∨ d = 3 ∨ d = 4 ∨ d = 5 ∨ d = 6 ∨ d = 7 ∨ d = 8 ∨ d = 9 ∨ d = 10 := by omega
  rcases hc with e | e | e | e | e | e | e | e | e | e | e <;> subst e <;> decide
def gs_mk (d : Nat → Nat) : Nat → Nat
  | 0 => 0
  | p + 1 => gs_mk d p ||| 2 ^ gs_ab (d p)
theorem gs_ab_dg {r s p : Nat} (hr : r < 120) (hp : p < 5) : gs_ab (gs_dg r s p) = gs_m r p := by
  have h := gs_m_in hr hp
  unfold gs_ab gs_dg
  split <;> split <;> omega
theorem gs_mk_us {r s : Nat} (hr : r < 120) : ∀ p, p ≤ 5 → gs_mk (gs_dg r s) p = gs_us r p := by
  intro p
  induction p with
  | zero => intro _; rfl
  | succ p ih => intro h; unfold gs_mk gs_us; rw [ih (by omega), gs_ab_dg hr (by omega)]
theorem gs_mk_R {d : Nat → Nat} (h : ∀ p, p < 5 → d p < 11) (hm : gs_mk d 5 = 62) : ∃ r s, r < 120 ∧ s < 32 ∧ ∀ p, p < 5 → gs_dg r s p = d p := by
  have z : ∀ n, 0 ||| n = n := Nat.zero_or
  simp only [gs_mk, z] at hm
  obtain ⟨r, hr, m0, m1, m2, m3, m4⟩ := gs_ld (gs_ab_lt (h 0 (by decide))) (gs_ab_lt (h 1 (by decide))) (gs_ab_lt (h 2 (by decide))) (gs_ab_lt (h 3 (by decide))) (gs_ab_lt (h 4 (by decide))) hm
  obtain ⟨s, hs, b0, b1, b2, b3, b4⟩ := gs_bits (decide (d 0 < 5)) (decide (d 1 < 5)) (decide (d 2 < 5)) (decide (d 3 < 5)) (decide (d 4 < 5))
  refine ⟨r, s, hr, hs, ?_⟩
  have go : ∀ p, p < 5 → gs_m r p = gs_ab (d p) → Nat.testBit s p = decide (d p < 5) → gs_dg r s p = d p := by
    intro p hp e1 e2
    unfold gs_dg
    rw [e1, e2]
    unfold gs_ab
    by_cases c : d p < 5
    · simp only [c, decide_true, if_true]; omega
    · simp only [c, decide_false, Bool.false_eq_true, if_false]; omega
  intro p hp
  have hc : p = 0 ∨ p = 1 ∨ p = 2 ∨ p = 3 ∨ p = 4 := by omega
  rcases hc with e | e | e | e | e <;> subst e
  · exact go 0 hp m0 b0
  · exact go 1 hp m1 b1
  · exact go 2 hp m2 b2
  · exact go 3 hp m3 b3
  · exact go 4 hp m4 b4
theorem gs_H_e {c : Nat} (h : c < 161051) {f : Nat → Nat} (hf : ∀ p, p < 5 → f p = c / 11 ^ p % 11) : gs_H f = c := by
  unfold gs_H
  rw [hf 0 (by decide), hf 1 (by decide), hf 2 (by decide), hf 3 (by decide), hf 4 (by decide)]
  rw [show (11 : Nat) ^ 0 = 1 from rfl, show (11 : Nat) ^ 1 = 11 from rfl, show (11 : Nat) ^ 2 = 121 from rfl, show (11 : Nat) ^ 3 = 1331 from rfl, show (11 : Nat) ^ 4 = 14641 from rfl]
  omega
