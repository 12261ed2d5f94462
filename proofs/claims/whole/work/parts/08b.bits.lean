/-! two rows of the kit's own pages, pasted; the bits of a number -/
theorem pk_sub_toInt {a b : Nat} (ha : a < 2 ^ 30) (hb : b < 2 ^ 30) : (nI a - nI b).toInt = (a : Int) - b := by
  rw [Int32.toInt_sub, nI_toInt (by omega), nI_toInt (by omega)]
  exact Int.bmod_eq_of_le (by omega) (by omega)
theorem pk_sneg {a b : Nat} (hb : b < 2 ^ 30) (h : a < b) : nI a - nI b < 0 := by
  rw [Int32.lt_iff_toInt_lt, pk_sub_toInt (by omega) hb, show (0 : Int32).toInt = 0 from by decide]
  omega
theorem gs_nb_c : gs_all (fun r => gs_all (fun s => gs_all (fun p => decide ((nI (32 * r + s) >>> (nI p &&& 31)) &&& 1 = 1 ↔ Nat.testBit s p = true)) 5) 32) 120 = true := by decide +kernel
theorem gs_nb {r s p : Nat} (hr : r < 120) (hs : s < 32) (hp : p < 5) : (nI (32 * r + s) >>> (nI p &&& 31)) &&& 1 = 1 ↔ Nat.testBit s p = true := of_decide_eq_true (gs_all_e (gs_all_e (gs_all_e gs_nb_c r hr) s hs) p hp)
