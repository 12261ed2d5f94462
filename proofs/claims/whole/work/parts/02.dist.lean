/-! what the kernel reads off the distances and off the order of the class's walk -/
theorem gs_D6_c : gs_all (fun r => gs_all (fun s => Nat.ble (gs_D r s) 6) 32) 120 = true := by decide +kernel
theorem gs_D6 {r s : Nat} (hr : r < 120) (hs : s < 32) : gs_D r s ≤ 6 := Nat.le_of_ble_eq_true (gs_all_e (gs_all_e gs_D6_c r hr) s hs)
theorem gs_D0_c : gs_all (fun r => gs_all (fun s => cond (Nat.beq (gs_D r s) 0) (Nat.beq (32 * r + s) 0) true) 32) 120 = true := by decide +kernel
theorem gs_D0 {r s : Nat} (hr : r < 120) (hs : s < 32) (h : gs_D r s = 0) : 32 * r + s = 0 := by
  have k := gs_all_e (gs_all_e gs_D0_c r hr) s hs
  try dsimp only at k
  rw [h] at k
  exact Nat.eq_of_beq_eq_true k
theorem gs_D00 : gs_D 0 0 = 0 := by decide +kernel
theorem gs_Dn : gs_D 0 1 = 1 ∧ gs_D 0 3 = 2 ∧ gs_D 0 7 = 3 ∧ gs_D 0 15 = 4 ∧ gs_D 0 31 = 5 ∧ gs_D 25 0 = 6 := by decide +kernel
/-- a turning from (r, s) goes no farther than one more -/
noncomputable def gs_kL (r : Nat) : Bool := gs_all (fun s => gs_all (fun i => gs_all (fun j => cond (Nat.ble i j) (Nat.ble (gs_D (gs_tr r i j) (gs_ts s i j)) (Nat.succ (gs_D r s))) true) 5) 5) 32
/-- some turning from (r, s) goes one nearer -/
noncomputable def gs_kP (r : Nat) : Bool := gs_all (fun s => cond (Nat.beq (gs_D r s) 0) true (gs_any (fun i => gs_any (fun j => cond (Nat.ble i j) (Nat.beq (Nat.succ (gs_D (gs_tr r i j) (gs_ts s i j))) (gs_D r s)) false) 5) 5)) 32
theorem gs_kL0 : gs_all (fun r => gs_kL (r + 0)) 15 = true := by decide +kernel
theorem gs_kP0 : gs_all (fun r => gs_kP (r + 0)) 15 = true := by decide +kernel
theorem gs_kL1 : gs_all (fun r => gs_kL (r + 15)) 15 = true := by decide +kernel
theorem gs_kP1 : gs_all (fun r => gs_kP (r + 15)) 15 = true := by decide +kernel
theorem gs_kL2 : gs_all (fun r => gs_kL (r + 30)) 15 = true := by decide +kernel
theorem gs_kP2 : gs_all (fun r => gs_kP (r + 30)) 15 = true := by decide +kernel
theorem gs_kL3 : gs_all (fun r => gs_kL (r + 45)) 15 = true := by decide +kernel
theorem gs_kP3 : gs_all (fun r => gs_kP (r + 45)) 15 = true := by decide +kernel
theorem gs_kL4 : gs_all (fun r => gs_kL (r + 60)) 15 = true := by decide +kernel
theorem gs_kP4 : gs_all (fun r => gs_kP (r + 60)) 15 = true := by decide +kernel
theorem gs_kL5 : gs_all (fun r => gs_kL (r + 75)) 15 = true := by decide +kernel
theorem gs_kP5 : gs_all (fun r => gs_kP (r + 75)) 15 = true := by decide +kernel
theorem gs_kL6 : gs_all (fun r => gs_kL (r + 90)) 15 = true := by decide +kernel
theorem gs_kP6 : gs_all (fun r => gs_kP (r + 90)) 15 = true := by decide +kernel
theorem gs_kL7 : gs_all (fun r => gs_kL (r + 105)) 15 = true := by decide +kernel
theorem gs_kP7 : gs_all (fun r => gs_kP (r + 105)) 15 = true := by decide +kernel
theorem gs_kLa {r : Nat} (h : r < 120) : gs_kL r = true := by
  by_cases h0 : r < 15
  · have k := gs_all_e gs_kL0 (r - 0) (by omega)
    try dsimp only at k
    rwa [show r - 0 + 0 = r from by omega] at k
  by_cases h1 : r < 30
  · have k := gs_all_e gs_kL1 (r - 15) (by omega)
    try dsimp only at k
    rwa [show r - 15 + 15 = r from by omega] at k
  by_cases h2 : r < 45
  · have k := gs_all_e gs_kL2 (r - 30) (by omega)
    try dsimp only at k
    rwa [show r - 30 + 30 = r from by omega] at k
  by_cases h3 : r < 60
  · have k := gs_all_e gs_kL3 (r - 45) (by omega)
    try dsimp only at k
    rwa [show r - 45 + 45 = r from by omega] at k
  by_cases h4 : r < 75
  · have k := gs_all_e gs_kL4 (r - 60) (by omega)
    try dsimp only at k
    rwa [show r - 60 + 60 = r from by omega] at k
  by_cases h5 : r < 90
  · have k := gs_all_e gs_kL5 (r - 75) (by omega)
    try dsimp only at k
    rwa [show r - 75 + 75 = r from by omega] at k
  by_cases h6 : r < 105
  · have k := gs_all_e gs_kL6 (r - 90) (by omega)
    try dsimp only at k
    rwa [show r - 90 + 90 = r from by omega] at k
  by_cases h7 : r < 120
  · have k := gs_all_e gs_kL7 (r - 105) (by omega)
    try dsimp only at k
    rwa [show r - 105 + 105 = r from by omega] at k
  · omega
theorem gs_kPa {r : Nat} (h : r < 120) : gs_kP r = true := by
  by_cases h0 : r < 15
  · have k := gs_all_e gs_kP0 (r - 0) (by omega)
    try dsimp only at k
    rwa [show r - 0 + 0 = r from by omega] at k
  by_cases h1 : r < 30
  · have k := gs_all_e gs_kP1 (r - 15) (by omega)
    try dsimp only at k
    rwa [show r - 15 + 15 = r from by omega] at k
  by_cases h2 : r < 45
  · have k := gs_all_e gs_kP2 (r - 30) (by omega)
    try dsimp only at k
    rwa [show r - 30 + 30 = r from by omega] at k
  by_cases h3 : r < 60
  · have k := gs_all_e gs_kP3 (r - 45) (by omega)
    try dsimp only at k
    rwa [show r - 45 + 45 = r from by omega] at k
  by_cases h4 : r < 75
  · have k := gs_all_e gs_kP4 (r - 60) (by omega)
    try dsimp only at k
    rwa [show r - 60 + 60 = r from by omega] at k
  by_cases h5 : r < 90
  · have k := gs_all_e gs_kP5 (r - 75) (by omega)
    try dsimp only at k
    rwa [show r - 75 + 75 = r from by omega] at k
  by_cases h6 : r < 105
  · have k := gs_all_e gs_kP6 (r - 90) (by omega)
    try dsimp only at k
    rwa [show r - 90 + 90 = r from by omega] at k
  by_cases h7 : r < 120
  · have k := gs_all_e gs_kP7 (r - 105) (by omega)
    try dsimp only at k
    rwa [show r - 105 + 105 = r from by omega] at k
  · omega
theorem gs_DL {r s i j : Nat} (hr : r < 120) (hs : s < 32) (h : i ≤ j) (hj : j < 5) : gs_D (gs_tr r i j) (gs_ts s i j) ≤ gs_D r s + 1 := by
  have k := gs_all_e (gs_all_e (gs_all_e (gs_kLa hr) s hs) i (by omega)) j hj
  try dsimp only at k
  rw [Nat.ble_eq_true_of_le h] at k
  exact Nat.le_of_ble_eq_true k
theorem gs_DR {r s i j : Nat} (hr : r < 120) (hs : s < 32) (h : i ≤ j) (hj : j < 5) : gs_D r s ≤ gs_D (gs_tr r i j) (gs_ts s i j) + 1 := by
  have a := gs_tr_in hr h hj
  have b := gs_ts_in hs h hj
  have k := gs_DL a.1 b.1 h hj
  rwa [a.2, b.2] at k
theorem gs_DP {r s : Nat} (hr : r < 120) (hs : s < 32) (h : 0 < gs_D r s) : ∃ i j, i ≤ j ∧ j < 5 ∧ gs_D (gs_tr r i j) (gs_ts s i j) + 1 = gs_D r s := by
  have k := gs_all_e (gs_kPa hr) s hs
  try dsimp only at k
  cases e : Nat.beq (gs_D r s) 0 with
  | true => have := Nat.eq_of_beq_eq_true e; omega
  | false =>
    rw [e] at k
    dsimp only [cond] at k
    obtain ⟨i, hi, k⟩ := gs_any_e k
    obtain ⟨j, hj, k⟩ := gs_any_e k
    try dsimp only at k
    cases e2 : Nat.ble i j with
    | false => rw [e2] at k; exact absurd (show false = true from k) (by decide)
    | true =>
      rw [e2] at k
      exact ⟨i, j, Nat.le_of_ble_eq_true e2, hj, Nat.eq_of_beq_eq_true k⟩
/-! the order of the walk -/
theorem gs_P_c : gs_all (fun r => gs_all (fun s => cond (Nat.beq (gs_Q (gs_P r s)) (32 * r + s)) (Nat.ble (gs_P r s) 3839) false) 32) 120 = true := by decide +kernel
theorem gs_P_in {r s : Nat} (hr : r < 120) (hs : s < 32) : gs_Q (gs_P r s) = 32 * r + s ∧ gs_P r s < 3840 := by
  have k := gs_all_e (gs_all_e gs_P_c r hr) s hs
  try dsimp only at k
  cases e : Nat.beq (gs_Q (gs_P r s)) (32 * r + s) with
  | false => rw [e] at k; exact absurd (show false = true from k) (by decide)
  | true =>
    rw [e] at k
    have := Nat.le_of_ble_eq_true k
    exact ⟨Nat.eq_of_beq_eq_true e, by omega⟩
/-- the walk from (r, s), whose neighbours stand at distance d, at the turning (i, j) with n rows reached: goes on rightly, and ends with e reached -/
noncomputable def gs_w (r s d e : Nat) : Nat → Nat → Nat → Nat → Bool
  | 0, _, _, _ => false
  | k + 1, i, j, n => cond (Nat.ble j 4)
      (cond (Nat.beq (gs_P (gs_tr r i j) (gs_ts s i j)) n) (cond (Nat.beq (gs_D (gs_tr r i j) (gs_ts s i j)) d) (gs_w r s d e k i (j + 1) (n + 1)) false)
        (cond (Nat.ble (gs_P (gs_tr r i j) (gs_ts s i j)) n) (gs_w r s d e k i (j + 1) n) false))
      (cond (Nat.ble i 3) (gs_w r s d e k (i + 1) (i + 1) n) (Nat.beq n e))
noncomputable def gs_kQ (m : Nat) : Bool := cond (Nat.ble (m + 1) (gs_C m)) (cond (Nat.ble (gs_Q m) 3839) (cond (Nat.beq (gs_P (gs_Q m / 32) (gs_Q m % 32)) m) (gs_w (gs_Q m / 32) (gs_Q m % 32) (gs_D (gs_Q m / 32) (gs_Q m % 32) + 1) (gs_C (m + 1)) 21 0 0 (gs_C m)) false) false) false
theorem gs_kQ0 : gs_all (fun m => gs_kQ (m + 0)) 240 = true := by decide +kernel
theorem gs_kQ1 : gs_all (fun m => gs_kQ (m + 240)) 240 = true := by decide +kernel
theorem gs_kQ2 : gs_all (fun m => gs_kQ (m + 480)) 240 = true := by decide +kernel
theorem gs_kQ3 : gs_all (fun m => gs_kQ (m + 720)) 240 = true := by decide +kernel
theorem gs_kQ4 : gs_all (fun m => gs_kQ (m + 960)) 240 = true := by decide +kernel
theorem gs_kQ5 : gs_all (fun m => gs_kQ (m + 1200)) 240 = true := by decide +kernel
theorem gs_kQ6 : gs_all (fun m => gs_kQ (m + 1440)) 240 = true := by decide +kernel
theorem gs_kQ7 : gs_all (fun m => gs_kQ (m + 1680)) 240 = true := by decide +kernel
theorem gs_kQ8 : gs_all (fun m => gs_kQ (m + 1920)) 240 = true := by decide +kernel
theorem gs_kQ9 : gs_all (fun m => gs_kQ (m + 2160)) 240 = true := by decide +kernel
theorem gs_kQ10 : gs_all (fun m => gs_kQ (m + 2400)) 240 = true := by decide +kernel
theorem gs_kQ11 : gs_all (fun m => gs_kQ (m + 2640)) 240 = true := by decide +kernel
theorem gs_kQ12 : gs_all (fun m => gs_kQ (m + 2880)) 240 = true := by decide +kernel
theorem gs_kQ13 : gs_all (fun m => gs_kQ (m + 3120)) 240 = true := by decide +kernel
theorem gs_kQ14 : gs_all (fun m => gs_kQ (m + 3360)) 240 = true := by decide +kernel
theorem gs_kQ15 : gs_all (fun m => gs_kQ (m + 3600)) 240 = true := by decide +kernel
theorem gs_kQa {m : Nat} (h : m < 3840) : gs_kQ m = true := by
  by_cases h0 : m < 240
  · have k := gs_all_e gs_kQ0 (m - 0) (by omega)
    try dsimp only at k
    rwa [show m - 0 + 0 = m from by omega] at k
  by_cases h1 : m < 480
  · have k := gs_all_e gs_kQ1 (m - 240) (by omega)
    try dsimp only at k
    rwa [show m - 240 + 240 = m from by omega] at k
  by_cases h2 : m < 720
  · have k := gs_all_e gs_kQ2 (m - 480) (by omega)
    try dsimp only at k
    rwa [show m - 480 + 480 = m from by omega] at k
  by_cases h3 : m < 960
  · have k := gs_all_e gs_kQ3 (m - 720) (by omega)
    try dsimp only at k
    rwa [show m - 720 + 720 = m from by omega] at k
  by_cases h4 : m < 1200
  · have k := gs_all_e gs_kQ4 (m - 960) (by omega)
    try dsimp only at k
    rwa [show m - 960 + 960 = m from by omega] at k
  by_cases h5 : m < 1440
  · have k := gs_all_e gs_kQ5 (m - 1200) (by omega)
    try dsimp only at k
    rwa [show m - 1200 + 1200 = m from by omega] at k
  by_cases h6 : m < 1680
  · have k := gs_all_e gs_kQ6 (m - 1440) (by omega)
    try dsimp only at k
    rwa [show m - 1440 + 1440 = m from by omega] at k
  by_cases h7 : m < 1920
  · have k := gs_all_e gs_kQ7 (m - 1680) (by omega)
    try dsimp only at k
    rwa [show m - 1680 + 1680 = m from by omega] at k
  by_cases h8 : m < 2160
  · have k := gs_all_e gs_kQ8 (m - 1920) (by omega)
    try dsimp only at k
    rwa [show m - 1920 + 1920 = m from by omega] at k
  by_cases h9 : m < 2400
  · have k := gs_all_e gs_kQ9 (m - 2160) (by omega)
    try dsimp only at k
    rwa [show m - 2160 + 2160 = m from by omega] at k
  by_cases h10 : m < 2640
  · have k := gs_all_e gs_kQ10 (m - 2400) (by omega)
    try dsimp only at k
    rwa [show m - 2400 + 2400 = m from by omega] at k
  by_cases h11 : m < 2880
  · have k := gs_all_e gs_kQ11 (m - 2640) (by omega)
    try dsimp only at k
    rwa [show m - 2640 + 2640 = m from by omega] at k
  by_cases h12 : m < 3120
  · have k := gs_all_e gs_kQ12 (m - 2880) (by omega)
    try dsimp only at k
    rwa [show m - 2880 + 2880 = m from by omega] at k
  by_cases h13 : m < 3360
  · have k := gs_all_e gs_kQ13 (m - 3120) (by omega)
    try dsimp only at k
    rwa [show m - 3120 + 3120 = m from by omega] at k
  by_cases h14 : m < 3600
  · have k := gs_all_e gs_kQ14 (m - 3360) (by omega)
    try dsimp only at k
    rwa [show m - 3360 + 3360 = m from by omega] at k
  by_cases h15 : m < 3840
  · have k := gs_all_e gs_kQ15 (m - 3600) (by omega)
    try dsimp only at k
    rwa [show m - 3600 + 3600 = m from by omega] at k
  · omega
theorem gs_QC {m : Nat} (h : m < 3840) : m < gs_C m ∧ gs_Q m < 3840 ∧ gs_P (gs_Q m / 32) (gs_Q m % 32) = m ∧ gs_w (gs_Q m / 32) (gs_Q m % 32) (gs_D (gs_Q m / 32) (gs_Q m % 32) + 1) (gs_C (m + 1)) 21 0 0 (gs_C m) = true := by
  have k := gs_kQa h
  unfold gs_kQ at k
  cases e : Nat.ble (m + 1) (gs_C m) with
  | false => rw [e] at k; exact absurd (show false = true from k) (by decide)
  | true =>
    rw [e] at k
    dsimp only [cond] at k
    cases e2 : Nat.ble (gs_Q m) 3839 with
    | false => rw [e2] at k; exact absurd (show false = true from k) (by decide)
    | true =>
      rw [e2] at k
      dsimp only [cond] at k
      cases e3 : Nat.beq (gs_P (gs_Q m / 32) (gs_Q m % 32)) m with
      | false => rw [e3] at k; exact absurd (show false = true from k) (by decide)
      | true =>
        rw [e3] at k
        have h1 := Nat.le_of_ble_eq_true e
        have h2 := Nat.le_of_ble_eq_true e2
        exact ⟨by omega, by omega, Nat.eq_of_beq_eq_true e3, k⟩
theorem gs_C0 : gs_C 0 = 1 ∧ gs_C 3840 = 3840 ∧ gs_Q 0 = 0 ∧ gs_P 0 0 = 0 := by decide +kernel
theorem gs_P0 {r s : Nat} (hr : r < 120) (hs : s < 32) (h : gs_P r s = 0) : r = 0 ∧ s = 0 := by
  have k := gs_P_in hr hs
  rw [h, gs_C0.2.2.1] at k
  omega
theorem gs_w_j {r s d e k i j n : Nat} (hj : j < 5) (h : gs_w r s d e (k + 1) i j n = true) : (gs_P (gs_tr r i j) (gs_ts s i j) = n ∧ gs_D (gs_tr r i j) (gs_ts s i j) = d ∧ gs_w r s d e k i (j + 1) (n + 1) = true) ∨ (gs_P (gs_tr r i j) (gs_ts s i j) < n ∧ gs_w r s d e k i (j + 1) n = true) := by
  unfold gs_w at h
  rw [Nat.ble_eq_true_of_le (show j ≤ 4 by omega)] at h
  dsimp only [cond] at h
  cases e1 : Nat.beq (gs_P (gs_tr r i j) (gs_ts s i j)) n with
  | true =>
    rw [e1] at h
    dsimp only [cond] at h
    cases e2 : Nat.beq (gs_D (gs_tr r i j) (gs_ts s i j)) d with
    | false => rw [e2] at h; exact absurd (show false = true from h) (by decide)
    | true => rw [e2] at h; exact Or.inl ⟨Nat.eq_of_beq_eq_true e1, Nat.eq_of_beq_eq_true e2, h⟩
  | false =>
    rw [e1] at h
    dsimp only [cond] at h
    cases e2 : Nat.ble (gs_P (gs_tr r i j) (gs_ts s i j)) n with
    | false => rw [e2] at h; exact absurd (show false = true from h) (by decide)
    | true =>
      rw [e2] at h
      have a := Nat.le_of_ble_eq_true e2
      have b := Nat.ne_of_beq_eq_false e1
      exact Or.inr ⟨by omega, h⟩
theorem gs_w_i {r s d e k i n : Nat} (h : gs_w r s d e (k + 1) i 5 n = true) : (i < 4 ∧ gs_w r s d e k (i + 1) (i + 1) n = true) ∨ (4 ≤ i ∧ n = e) := by
  unfold gs_w at h
  rw [show Nat.ble 5 4 = false from rfl] at h
  dsimp only [cond] at h
  cases e2 : Nat.ble i 3 with
  | true =>
    rw [e2] at h
    have a := Nat.le_of_ble_eq_true e2
    exact Or.inl ⟨by omega, h⟩
  | false =>
    rw [e2] at h
    have a : ¬ i ≤ 3 := fun z => by rw [Nat.ble_eq_true_of_le z] at e2; exact absurd e2 (by decide)
    exact Or.inr ⟨by omega, Nat.eq_of_beq_eq_true h⟩
theorem gs_w_0 {r s d e i j n : Nat} (h : gs_w r s d e 0 i j n = true) : False := by
  unfold gs_w at h
  exact absurd h (by decide)
