/-! the reference's search by layers: what stands in its array -/
theorem gs_nm1 {n : Nat} (h : n < 2 ^ 31) : ¬ nI n = -1 := by
  intro e
  have k := nI_pos h
  rw [e] at k
  exact k (by decide)
def gs_In (d : Nat) (a : Nat → Int32) : Prop := ∀ r s, r < 120 → s < 32 → (gs_D r s ≤ d → a (32 * r + s) = nI (gs_D r s)) ∧ (d + 1 < gs_D r s → a (32 * r + s) = -1) ∧ (gs_D r s = d + 1 → a (32 * r + s) = -1 ∨ a (32 * r + s) = nI (d + 1))
def gs_Fr (d : Nat) (a : Nat → Int32) : Prop := ∀ r s, r < 120 → s < 32 → gs_D r s = d + 1 → a (32 * r + s) = -1
def gs_Fu (a : Nat → Int32) : Prop := ∀ r s, r < 120 → s < 32 → a (32 * r + s) = nI (gs_D r s)
def gs_Up (d : Nat) (a b : Nat → Int32) : Prop := ∀ q, a q = nI (d + 1) → b q = nI (d + 1)
/-- the neighbours of (r, s) by the turnings below c are marked -/
def gs_Mk (d r s c : Nat) (a : Nat → Int32) : Prop := ∀ i j, i ≤ j → j < 5 → 5 * i + j < c → gs_D (gs_tr r i j) (gs_ts s i j) = d + 1 → a (32 * gs_tr r i j + gs_ts s i j) = nI (d + 1)
/-- those of all rows of the layer below k are -/
def gs_Pr (d k : Nat) (a : Nat → Int32) : Prop := ∀ r s, r < 120 → s < 32 → 32 * r + s < k → gs_D r s = d → gs_Mk d r s 25 a
theorem gs_Up_r {d : Nat} {a : Nat → Int32} : gs_Up d a a := fun _ h => h
theorem gs_Up_t {d : Nat} {a b c : Nat → Int32} (h : gs_Up d a b) (k : gs_Up d b c) : gs_Up d a c := fun q e => k q (h q e)
theorem gs_Mk_u {d r s c : Nat} {a b : Nat → Int32} (h : gs_Mk d r s c a) (u : gs_Up d a b) : gs_Mk d r s c b := fun i j hi hj hc e => u _ (h i j hi hj hc e)
theorem gs_Pr_u {d k : Nat} {a b : Nat → Int32} (h : gs_Pr d k a) (u : gs_Up d a b) : gs_Pr d k b := fun r s hr hs hk e => gs_Mk_u (h r s hr hs hk e) u
theorem gs_idx {r s r' s' : Nat} (hs : s < 32) (hs' : s' < 32) (h : 32 * r + s = 32 * r' + s') : r = r' ∧ s = s' := by omega
theorem gs_upd_id (a : Nat → Int32) (k : Nat) : upd a k (a k) = a := by
  funext j
  unfold upd
  split
  · rename_i e; rw [e]
  · rfl
theorem gs_st {d r s : Nat} {a : Nat → Int32} (h : gs_In d a) (hr : r < 120) (hs : s < 32) (hd : d ≤ 3840) (hD : gs_D r s ≤ d + 1) (hn : a (32 * r + s) < 0) : gs_In d (upd a (32 * r + s) (nI (d + 1))) ∧ gs_Up d a (upd a (32 * r + s) (nI (d + 1))) ∧ gs_D r s = d + 1 := by
  have e : gs_D r s = d + 1 := by
    by_cases c : gs_D r s ≤ d
    · have k := (h r s hr hs).1 c
      rw [k] at hn
      exact absurd hn (nI_pos (by omega))
    · omega
  refine ⟨?_, ?_, e⟩
  · intro r' s' hr' hs'
    by_cases c : 32 * r' + s' = 32 * r + s
    · obtain ⟨rfl, rfl⟩ := gs_idx hs' hs c
      rw [pk_us]
      exact ⟨fun z => by omega, fun z => by omega, fun _ => Or.inr rfl⟩
    · rw [pk_un c]
      exact h r' s' hr' hs'
  · intro q hq
    by_cases c : q = 32 * r + s
    · rw [c, pk_us]
    · rw [pk_un c]; exact hq
theorem gs_st2 {d r s : Nat} {a : Nat → Int32} (h : gs_In d a) (hr : r < 120) (hs : s < 32) (hn : ¬ a (32 * r + s) < 0) (e : gs_D r s = d + 1) : a (32 * r + s) = nI (d + 1) := by
  rcases (h r s hr hs).2.2 e with k | k
  · rw [k] at hn; exact absurd (by decide) hn
  · exact k
theorem gs_eqd {d r s : Nat} {a : Nat → Int32} (h : gs_In d a) (hr : r < 120) (hs : s < 32) (hd : d < 3840) : a (32 * r + s) = nI d ↔ gs_D r s = d := by
  have k := h r s hr hs
  have h6 := gs_D6 hr hs
  by_cases c : gs_D r s ≤ d
  · rw [k.1 c]
    exact nI_eq (by omega) (by omega)
  · constructor
    · intro e
      by_cases c2 : gs_D r s = d + 1
      · rcases k.2.2 c2 with z | z
        · rw [z] at e; exact absurd e.symm (gs_nm1 (by omega))
        · rw [z] at e; have := (nI_eq (by omega) (by omega)).mp e; omega
      · rw [k.2.1 (by omega)] at e; exact absurd e.symm (gs_nm1 (by omega))
    · intro e; omega
theorem gs_ly_m {d r s : Nat} {a : Nat → Int32} (p : gs_Pr d 3840 a) (hr : r < 120) (hs : s < 32) (e : gs_D r s = d + 1) : a (32 * r + s) = nI (d + 1) := by
  obtain ⟨i, j, hi, hj, hD⟩ := gs_DP hr hs (by omega)
  have t := gs_tr_in hr hi hj
  have u := gs_ts_in hs hi hj
  have k := p _ _ t.1 u.1 (by omega) (by omega) i j hi hj (by omega)
  rw [t.2, u.2] at k
  exact k e
theorem gs_ly {d : Nat} {a : Nat → Int32} (h : gs_In d a) (p : gs_Pr d 3840 a) : gs_In (d + 1) a ∧ gs_Fr (d + 1) a := by
  constructor
  · intro r s hr hs
    have k := h r s hr hs
    refine ⟨fun z => ?_, fun z => k.2.1 (by omega), fun z => Or.inl (k.2.1 (by omega))⟩
    by_cases c : gs_D r s ≤ d
    · exact k.1 c
    · have e : gs_D r s = d + 1 := by omega
      rw [e]
      exact gs_ly_m p hr hs e
  · intro r s hr hs e
    exact (h r s hr hs).2.1 (by omega)
theorem gs_ly_f {d : Nat} {a : Nat → Int32} (h : gs_In d a) (hd : 6 ≤ d) : gs_Fu a := fun r s hr hs => (h r s hr hs).1 (by have := gs_D6 hr hs; omega)
theorem gs_ly_0 {d : Nat} {a : Nat → Int32} (h : gs_In d a) (p : gs_Pr d 3840 a) (f : gs_Fr d a) : gs_Fu a := by
  have go : ∀ r s, r < 120 → s < 32 → gs_D r s = d + 1 → d < 6 → gs_Fu a := by
    intro r s hr hs e hd
    have k := gs_ly_m p hr hs e
    rw [f r s hr hs e] at k
    exact absurd k.symm (gs_nm1 (by omega))
  by_cases c : 6 ≤ d
  · exact gs_ly_f h c
  · have w := gs_Dn
    have hc : d = 0 ∨ d = 1 ∨ d = 2 ∨ d = 3 ∨ d = 4 ∨ d = 5 := by omega
    rcases hc with e | e | e | e | e | e <;> subst e
    · exact go 0 1 (by omega) (by omega) w.1 (by omega)
    · exact go 0 3 (by omega) (by omega) w.2.1 (by omega)
    · exact go 0 7 (by omega) (by omega) w.2.2.1 (by omega)
    · exact go 0 15 (by omega) (by omega) w.2.2.2.1 (by omega)
    · exact go 0 31 (by omega) (by omega) w.2.2.2.2.1 (by omega)
    · exact go 25 0 (by omega) (by omega) w.2.2.2.2.2 (by omega)
theorem gs_in0 {a : Nat → Int32} (h0 : a 0 = 0) (h : ∀ k, 0 < k → k < 3840 → a k = -1) : gs_In 0 a ∧ gs_Fr 0 a := by
  have g : ∀ r s, r < 120 → s < 32 → gs_D r s ≠ 0 → a (32 * r + s) = -1 := by
    intro r s hr hs hD
    refine h _ ?_ (by omega)
    by_cases c : 32 * r + s = 0
    · exfalso
      have er : r = 0 := by omega
      have es : s = 0 := by omega
      subst er es
      exact hD gs_D00
    · omega
  constructor
  · intro r s hr hs
    refine ⟨fun z => ?_, fun z => g r s hr hs (by omega), fun z => Or.inl (g r s hr hs (by omega))⟩
    have e : gs_D r s = 0 := by omega
    have k := gs_D0 hr hs e
    rw [k, e, h0]
    rfl
  · intro r s hr hs e
    exact g r s hr hs (by omega)
theorem gs_Fu_e {a : Nat → Int32} {k : Nat} (h : gs_Fu a) (hk : k < 3840) : a k = nI (gs_D (k / 32) (k % 32)) := by
  have z := h (k / 32) (k % 32) (by omega) (by omega)
  rwa [show 32 * (k / 32) + k % 32 = k from by omega] at z
