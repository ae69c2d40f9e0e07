theorem vp_lrem {a b : Int64} (ha : 0 ≤ a.toInt) (hb : 0 < b.toInt) : (vr_lrem a b).toInt = a.toInt % b.toInt := by
  have h0 := a.toInt_lt
  have h1 : 0 ≤ a.toInt % b.toInt := Int.emod_nonneg _ (by omega)
  have h2 : a.toInt % b.toInt ≤ a.toInt := by
    have d := Int.emod_def a.toInt b.toInt
    have := Int.mul_nonneg (Int.le_of_lt hb) (Int.ediv_nonneg ha (Int.le_of_lt hb))
    omega
  unfold vr_lrem
  rw [Int64.toInt_sub, Int64.toInt_mul, Int64.toInt_div, Int.sub_bmod_bmod, Int.sub_eq_add_neg, ← Int.neg_mul, Int.tdiv_eq_ediv_of_nonneg ha]
  have e : a.toInt / b.toInt ≤ a.toInt := Int.ediv_le_self _ ha
  have e0 : 0 ≤ a.toInt / b.toInt := Int.ediv_nonneg ha (by omega)
  rw [Int.bmod_eq_of_le (n := a.toInt / b.toInt) (by omega) (by omega)]
  have e1 : a.toInt + -(a.toInt / b.toInt) * b.toInt = a.toInt % b.toInt := by
    have := Int.emod_def a.toInt b.toInt
    rw [this, Int.neg_mul, Int.mul_comm]
    omega
  rw [e1, Int.bmod_eq_of_le (by omega) (by omega)]
theorem vp_lcmp0 {a : Int64} : vr_lcmp a 0 = if 0 < a.toInt then 1 else if a.toInt = 0 then 0 else -1 := by
  unfold vr_lcmp lg_cmp
  have hz : (0 : Int64).toInt = 0 := rfl
  have hh : a > 0 ↔ 0 < a.toInt := by
    have := Int64.lt_iff_toInt_lt (x := 0) (y := a)
    rw [hz] at this
    exact this
  by_cases h : 0 < a.toInt
  · rw [if_pos h, if_pos (hh.mpr h)]
    rfl
  · rw [if_neg h, if_neg (fun q => h (hh.mp q))]
    by_cases h2 : a.toInt = 0
    · rw [if_pos h2, if_pos (Int64.toInt.inj h2)]
      rfl
    · rw [if_neg h2, if_neg (fun q => h2 (by rw [q]; rfl))]
      rfl
theorem vp_gcd {μ μ' : vr_M} : ∀ (k n m : Nat) (a b : Int64) (i : Int), 0 ≤ a.toInt → 0 ≤ b.toInt → b.toInt < 2 ^ k → 0 < a.toInt + b.toInt → k * 2 + 1 < n → k * 2 + 1 < m → 0 ≤ i → i + (k * 2 + 1 : Nat) ≤ 100 →
    ∃ g : Int64, fX9_commonDivisor_L3 n a b i μ = some (g, μ) ∧ fX10_divisor_L6 m a b μ' = some (g, μ') ∧ 0 < g.toInt := by
  have stop : ∀ (n m : Nat) (a b : Int64) (i : Int), 0 < n → 0 < m → b.toInt = 0 → fX9_commonDivisor_L3 n a b i μ = some (a, μ) ∧ fX10_divisor_L6 m a b μ' = some (a, μ') := by
    intro n m a b i hn hm hb
    obtain ⟨n, rfl⟩ : ∃ q, n = q + 1 := ⟨n - 1, by omega⟩
    obtain ⟨m, rfl⟩ : ∃ q, m = q + 1 := ⟨m - 1, by omega⟩
    have c : vr_lcmp b 0 = 0 := by rw [vp_lcmp0, if_neg (by omega), if_pos hb]
    refine ⟨?_, ?_⟩
    · rw [fX9_commonDivisor_L3.eq_2, fX9_commonDivisor_B32]
      by_cases h : 100 ≤ i
      · rw [if_pos h]
      · rw [if_neg h, if_pos c]
    · rw [fX10_divisor_L6.eq_2, if_pos c]
  have step : ∀ (n m : Nat) (a b : Int64) (i : Int), 0 ≤ i → i < 100 → 0 < b.toInt → fX9_commonDivisor_L3 (n + 1) a b i μ = fX9_commonDivisor_L3 n b (vr_lrem a b) (i + 1) μ ∧ fX10_divisor_L6 (m + 1) a b μ' = fX10_divisor_L6 m b (vr_lrem a b) μ' := by
    intro n m a b i hi0 hi hb
    have c : ¬ vr_lcmp b 0 = 0 := by rw [vp_lcmp0, if_pos hb]; decide
    have c2 : ¬ b = 0 := fun q => by rw [q] at hb; exact absurd hb (by decide)
    refine ⟨?_, ?_⟩
    · rw [fX9_commonDivisor_L3.eq_2, if_neg (by omega), if_neg c, vp_gdT c2, vp_gdT (by omega)]
    · rw [fX10_divisor_L6.eq_2, if_neg c, vp_gdT c2]
  intro k
  induction k with
  | zero =>
    intro n m a b i ha hb hk h0 hn hm hi0 hi
    have hb0 : b.toInt = 0 := by
      have : (2 : Int) ^ 0 = 1 := rfl
      omega
    obtain ⟨s1, s2⟩ := stop n m a b i (by omega) (by omega) hb0
    exact ⟨a, s1, s2, by omega⟩
  | succ k ih =>
    intro n m a b i ha hb hk h0 hn hm hi0 hi
    by_cases hb0 : b.toInt = 0
    · obtain ⟨s1, s2⟩ := stop n m a b i (by omega) (by omega) hb0
      exact ⟨a, s1, s2, by omega⟩
    obtain ⟨n, rfl⟩ : ∃ q, n = q + 1 := ⟨n - 1, by omega⟩
    obtain ⟨m, rfl⟩ : ∃ q, m = q + 1 := ⟨m - 1, by omega⟩
    obtain ⟨s1, s2⟩ := step n m a b i hi0 (by omega) (by omega)
    rw [s1, s2]
    have r1 := vp_lrem (a := a) (b := b) ha (by omega)
    have r2 : 0 ≤ a.toInt % b.toInt := Int.emod_nonneg _ (by omega)
    have r3 : a.toInt % b.toInt < b.toInt := Int.emod_lt_of_pos _ (by omega)
    by_cases hr0 : (vr_lrem a b).toInt = 0
    · obtain ⟨s3, s4⟩ := stop n m b (vr_lrem a b) (i + 1) (by omega) (by omega) hr0
      exact ⟨b, s3, s4, by omega⟩
    obtain ⟨n, rfl⟩ : ∃ q, n = q + 1 := ⟨n - 1, by omega⟩
    obtain ⟨m, rfl⟩ : ∃ q, m = q + 1 := ⟨m - 1, by omega⟩
    obtain ⟨s3, s4⟩ := step n m b (vr_lrem a b) (i + 1) (by omega) (by omega) (by omega)
    rw [s3, s4]
    have t1 := vp_lrem (a := b) (b := vr_lrem a b) hb (by omega)
    have t2 : 0 ≤ b.toInt % (vr_lrem a b).toInt := Int.emod_nonneg _ (by omega)
    have t3 : b.toInt % (vr_lrem a b).toInt < (vr_lrem a b).toInt := Int.emod_lt_of_pos _ (by omega)
    have t4 : b.toInt % (vr_lrem a b).toInt ≤ b.toInt - (vr_lrem a b).toInt := by
      have d := Int.emod_def b.toInt (vr_lrem a b).toInt
      have q : 1 ≤ b.toInt / (vr_lrem a b).toInt := (Int.le_ediv_iff_mul_le (by omega)).mpr (by omega)
      have : (vr_lrem a b).toInt * 1 ≤ (vr_lrem a b).toInt * (b.toInt / (vr_lrem a b).toInt) := Int.mul_le_mul_of_nonneg_left q (by omega)
      omega
    have p : (2 : Int) ^ (k + 1) = 2 ^ k * 2 := Int.pow_succ 2 k
    exact ih n m (vr_lrem a b) (vr_lrem b (vr_lrem a b)) (i + 1 + 1) (by omega) (by omega) (by omega) (by omega) (by omega) (by omega) (by omega) (by omega)
