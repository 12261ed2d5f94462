/-! numbers: markers as Int32, codes by Horner's way -/
/-- the marker with its sign at place p -/
def gs_sv (r s p : Nat) : Int32 := if Nat.testBit s p = true then -(nI (gs_m r p)) else nI (gs_m r p)
/-- the row as the reference's array holds it -/
def gs_R (r s : Nat) : Nat → Int32 := fun p => if p < 5 then gs_sv r s p else 0
theorem gs_R_p {r s p : Nat} (hp : p < 5) : gs_R r s p = gs_sv r s p := if_pos hp
theorem gs_sub5 (a : Nat) : nI (5 + a) - 5 = nI a := by
  rw [← nI_add, Int32.add_comm]
  exact Int32.add_sub_cancel _ _
theorem gs_sv_dg {r s p : Nat} (hr : r < 120) (hp : p < 5) : nI (gs_dg r s p) - 5 = gs_sv r s p := by
  have h := gs_m_in hr hp
  unfold gs_dg gs_sv
  split
  · rw [← pk_sub h.2, show nI 5 = 5 from rfl, Int32.sub_eq_add_neg 5, Int32.add_comm, Int32.add_sub_cancel]
  · exact gs_sub5 _
theorem gs_sv_t {r s i j p : Nat} (hr : r < 120) (hs : s < 32) (h : i ≤ j) (hj : j < 5) (hp : p < 5) : gs_sv (gs_tr r i j) (gs_ts s i j) p = if i ≤ p ∧ p ≤ j then -(gs_sv r s (i + j - p)) else gs_sv r s p := by
  unfold gs_sv
  rw [gs_tm hr h hj hp, gs_tb hs h hj hp]
  by_cases c : i ≤ p ∧ p ≤ j
  · rw [if_pos c, if_pos c, if_pos c]
    cases Nat.testBit s (i + j - p) <;> simp
  · rw [if_neg c, if_neg c, if_neg c]
theorem gs_sv_s {r s i j p : Nat} (hr : r < 120) (hs : s < 32) (hi : i < 5) (hj : j < 5) (hp : p < 5) : gs_sv (gs_sw r i j) (gs_ss s i j) p = if p = i then gs_sv r s j else if p = j then gs_sv r s i else gs_sv r s p := by
  unfold gs_sv
  rw [gs_sm hr hi hj hp, gs_sb hs hi hj hp]
  by_cases c : p = i
  · rw [if_pos c, if_pos c, if_pos c]
  · rw [if_neg c, if_neg c, if_neg c]
    by_cases c2 : p = j
    · rw [if_pos c2, if_pos c2, if_pos c2]
    · rw [if_neg c2, if_neg c2, if_neg c2]
theorem gs_m5 : ∀ m : Nat, 1 ≤ m → m ≤ 5 → -(nI m) < 0 ∧ ¬ nI m < 0 := by
  intro m h1 h2
  have hc : m = 1 ∨ m = 2 ∨ m = 3 ∨ m = 4 ∨ m = 5 := by omega
  rcases hc with e | e | e | e | e <;> subst e <;> decide
theorem gs_sv_neg {r s p : Nat} (hr : r < 120) (hp : p < 5) : gs_sv r s p < 0 ↔ Nat.testBit s p = true := by
  have h := gs_m_in hr hp
  have k := gs_m5 _ h.1 h.2
  unfold gs_sv
  cases Nat.testBit s p
  · simp only [Bool.false_eq_true, if_false, iff_false]; exact k.2
  · simp only [if_true, iff_true]; exact k.1
theorem gs_sv_abs {r s p : Nat} (hr : r < 120) (hp : p < 5) : (gs_sv r s p < 0 → -(gs_sv r s p) = nI (gs_m r p)) ∧ (¬ gs_sv r s p < 0 → gs_sv r s p = nI (gs_m r p)) := by
  rw [gs_sv_neg hr hp]
  unfold gs_sv
  constructor
  · intro h; rw [if_pos h, Int32.neg_neg]
  · intro h; rw [if_neg h]
/-- one digit more -/
theorem gs_hx (a d : Nat) : nI a * 11 + (nI d - 5) + 5 = nI (a * 11 + d) := by
  rw [Int32.add_assoc, Int32.sub_add_cancel, show (11 : Int32) = nI 11 from rfl, pk_mul, nI_add]
theorem gs_hy (a d : Nat) : 11 * nI a + (nI d - 5) + 5 = nI (11 * a + d) := by
  rw [Int32.add_assoc, Int32.sub_add_cancel, show (11 : Int32) = nI 11 from rfl, pk_mul, nI_add]
theorem gs_ors (a b : Nat) : nI a ||| nI b = nI (a ||| b) := by
  apply Int32.toBitVec_inj.mp
  apply BitVec.eq_of_toNat_eq
  rw [Int32.toBitVec_or, BitVec.toNat_or]
  show (BitVec.ofNat 32 a).toNat ||| (BitVec.ofNat 32 b).toNat = (BitVec.ofNat 32 (a ||| b)).toNat
  rw [BitVec.toNat_ofNat, BitVec.toNat_ofNat, BitVec.toNat_ofNat, Nat.or_mod_two_pow]
theorem gs_1sl : ∀ p, p < 6 → (1 : Int32) <<< (nI p &&& 31) = nI (2 ^ p) := by
  intro p h
  have hc : p = 0 ∨ p = 1 ∨ p = 2 ∨ p = 3 ∨ p = 4 ∨ p = 5 := by omega
  rcases hc with e | e | e | e | e | e <;> subst e <;> decide
theorem gs_shr_c : gs_all (fun s => gs_all (fun p => decide (((nI s >>> (nI p &&& 31)) &&& 1 = 1 ↔ Nat.testBit s p = true) ∧ ((nI s >>> (nI p &&& 31)) &&& 1 = 0 ↔ Nat.testBit s p = false))) 6) 64 = true := by decide +kernel
theorem gs_shr {s p : Nat} (hs : s < 64) (hp : p < 6) : ((nI s >>> (nI p &&& 31)) &&& 1 = 1 ↔ Nat.testBit s p = true) ∧ ((nI s >>> (nI p &&& 31)) &&& 1 = 0 ↔ Nat.testBit s p = false) := of_decide_eq_true (gs_all_e (gs_all_e gs_shr_c s hs) p hp)
