/-! characters, texts -/
def vg_L (s : Nat) : List Int := (vr_by s).map (fun x => x.toInt)
theorem vg_L_at (s : Nat) (i : Nat) : ((vr_by s).getD i 0).toInt = (vg_L s).getD i 0 := by
  unfold vg_L
  rw [List.getD_eq_getElem?_getD, List.getD_eq_getElem?_getD, List.getElem?_map]
  cases (vr_by s)[i]? <;> rfl
theorem vg_L_len (s : Nat) : (vg_L s).length = (vr_by s).length := by unfold vg_L; rw [List.length_map]
theorem vg_L_k : vp_fin 17 (fun s => decide ((vr_by s).length ≤ 10) && vp_fin 10 (fun i => decide (0 ≤ (vg_L s).getD i 0 ∧ (vg_L s).getD i 0 < 128) && decide (vr_i2c (vr_and ((vg_L s).getD i 0) 255) = (vg_L s).getD i 0))) = true := by decide +kernel
theorem vg_L_in {s : Nat} (hs : s < 17) : (vr_by s).length ≤ 10 ∧ ∀ i, i < 10 → (0 ≤ (vg_L s).getD i 0 ∧ (vg_L s).getD i 0 < 128) ∧ vr_i2c (vr_and ((vg_L s).getD i 0) 255) = (vg_L s).getD i 0 := by
  have h := vp_fin_at vg_L_k hs
  rw [Bool.and_eq_true] at h
  refine ⟨of_decide_eq_true h.1, fun i hi => ?_⟩
  have h2 := vp_fin_at h.2 hi
  rw [Bool.and_eq_true] at h2
  exact ⟨of_decide_eq_true h2.1, of_decide_eq_true h2.2⟩
theorem vg_shr0 : vp_fin 11 (fun n => decide (vr_shr (n : Int) 0 = (n : Int))) = true := by decide +kernel
theorem vg_len {s : Nat} (hs : s < 17) (μ : vr_M) : fJ0_length_8abf5 s μ = some ((((vg_L s).length : Nat) : Int), μ) := by
  have h := (vg_L_in hs).1
  have h0 := of_decide_eq_true (vp_fin_at vg_shr0 (show (vr_by s).length < 11 by omega))
  unfold fJ0_length_8abf5 fJ0_coder_7d493 fJ0_coder_7d493_B14
  rw [if_neg (by decide), vp_gdT (by decide), vp_bind]
  dsimp only
  rw [h0, vg_L_len]
theorem vg_ch {s : Nat} (hs : s < 17) {i : Nat} (hi : i < (vg_L s).length) (μ : vr_M) : fJ0_charAt_5068e s (i : Int) μ = some ((vg_L s).getD i 0, μ) := by
  have h := vg_L_in hs
  have hl := vg_L_len s
  obtain ⟨h1, h2⟩ := h.2 i (by omega)
  unfold fJ0_charAt_5068e fJ0_isLatin1_aae02 fJ0_isLatin1_aae02_B18 fJ1_charAt_3b067 fJ0_checkIndex_df160 fJ3_checkIndex_8e157
  rw [if_neg (by decide), if_neg (fun q => q rfl), vp_gdT (by decide), vp_bind, if_neg vz_T1]
  dsimp only
  rw [if_neg (by omega), if_pos (by omega), vp_bind, vp_bind]
  dsimp only
  rw [show ((i : Int)).toNat = i from rfl, vg_L_at, h2, vp_gdT (by omega), vp_gdT (by omega), vp_bind]
  dsimp only
  rw [vp_gdT (by omega)]
def vg_ix : List Int → Int → Nat → Int
  | [], _, _ => -1
  | a :: l, c, i => if a = c then (i : Int) else vg_ix l c (i + 1)
theorem vg_ix_in : ∀ (l : List Int) (c : Int) (i : Nat), vg_ix l c i = -1 ∨ ((i : Int) ≤ vg_ix l c i ∧ vg_ix l c i < (i : Int) + l.length)
  | [], _, _ => Or.inl rfl
  | a :: l, c, i => by
    unfold vg_ix
    split
    · refine Or.inr ⟨by omega, ?_⟩
      simp only [List.length_cons]
      omega
    · rcases vg_ix_in l c (i + 1) with h | ⟨h1, h2⟩
      · exact Or.inl h
      · refine Or.inr ⟨by omega, ?_⟩
        simp only [List.length_cons]
        omega
theorem vg_ix_c : ∀ (l : List Int) (c c' : Int) (i : Nat), (∀ a ∈ l, (a = c ↔ a = c')) → vg_ix l c i = vg_ix l c' i
  | [], _, _, _, _ => rfl
  | a :: l, c, c', i, h => by
    unfold vg_ix
    rw [vg_ix_c l c c' (i + 1) (fun x hx => h x (by simp [hx])), vp_cs (h a (by simp))]
theorem vg_i2_k : vp_fin 256 (fun c => decide (vr_i2c (c : Int) = (c : Int)) && (decide (c < 128 ∧ vr_i2b (c : Int) = (c : Int)) || decide (128 ≤ c ∧ vr_i2b (c : Int) < 0))) = true := by decide +kernel
theorem vg_i2 {c : Int} (h : 0 ≤ c ∧ c ≤ 255) : vr_i2c c = c ∧ ((c < 128 ∧ vr_i2b c = c) ∨ (128 ≤ c ∧ vr_i2b c < 0)) := by
  obtain ⟨k, rfl⟩ : ∃ k : Nat, c = (k : Int) := ⟨c.toNat, by omega⟩
  have h1 := vp_fin_at vg_i2_k (show k < 256 by omega)
  rw [Bool.and_eq_true, Bool.or_eq_true] at h1
  refine ⟨of_decide_eq_true h1.1, ?_⟩
  rcases h1.2 with h2 | h2
  · have := of_decide_eq_true h2
    exact Or.inl ⟨by omega, this.2⟩
  · have := of_decide_eq_true h2
    exact Or.inr ⟨by omega, this.2⟩
theorem vg_ixC {s : Nat} (hs : s < 17) {c : Int} (μ : vr_M) : ∀ (d i n : Nat), i + d = (vg_L s).length → d < n → fJ1_indexOfChar_4cfef_L7 s n (((vg_L s).length : Nat) : Int) c (i : Int) μ = some (vg_ix ((vg_L s).drop i) c i, μ) := by
  have hl := vg_L_len s
  have h10 := (vg_L_in hs).1
  intro d
  induction d with
  | zero =>
    intro i n hd hn
    obtain ⟨n, rfl⟩ : ∃ m, n = m + 1 := ⟨n - 1, by omega⟩
    rw [fJ1_indexOfChar_4cfef_L7.eq_2, if_pos (by omega), List.drop_of_length_le (by omega)]
    rfl
  | succ d ih =>
    intro i n hd hn
    obtain ⟨n, rfl⟩ : ∃ m, n = m + 1 := ⟨n - 1, by omega⟩
    have e3 : (i : Int) + 1 = ((i + 1 : Nat) : Int) := by omega
    have hi : i < (vg_L s).length := by omega
    have hg : (vg_L s).getD i 0 = (vg_L s)[i] := by rw [List.getD_eq_getElem?_getD, List.getElem?_eq_getElem hi]; rfl
    rw [fJ1_indexOfChar_4cfef_L7.eq_2, if_neg (by omega), vp_gdT (by omega), show ((i : Int)).toNat = i from rfl, vg_L_at, hg, List.drop_eq_getElem_cons hi, vg_ix]
    by_cases q : (vg_L s)[i] = c
    · rw [if_neg (fun z => z q), if_pos q]
    · rw [if_pos q, if_neg q, vp_gdT (by omega), e3, ih (i + 1) n (by omega) (by omega)]
theorem vg_idx {s : Nat} (hs : s < 17) (h0 : 0 < (vg_L s).length) {c : Int} (hc : 0 ≤ c ∧ c ≤ 255) (μ : vr_M) : fJ0_indexOf_0f7a4 s c μ = some (vg_ix (vg_L s) c 0, μ) := by
  have hl := vg_L_len s
  have h10 := (vg_L_in hs).1
  have e : vg_ix (vg_L s) (vr_i2b c) 0 = vg_ix (vg_L s) c 0 := vg_ix_c _ _ _ _ (fun a ha => by
    obtain ⟨i, hi, rfl⟩ := List.getElem_of_mem ha
    have h := ((vg_L_in hs).2 i (by omega)).1
    rw [List.getD_eq_getElem?_getD, List.getElem?_eq_getElem hi] at h
    have h' : 0 ≤ (vg_L s)[i] ∧ (vg_L s)[i] < 128 := h
    rcases (vg_i2 hc).2 with ⟨q1, q2⟩ | ⟨q1, q2⟩
    · rw [q2]
    · omega)
  unfold fJ0_indexOf_0f7a4 fJ0_indexOf_7cf53 fJ0_indexOf_7cf53_B36 fJ0_isLatin1_aae02 fJ0_isLatin1_aae02_B18
  rw [if_neg (by decide), if_neg (fun q => q rfl), vp_gdT (by decide), vp_bind, if_neg vz_T1, vg_len hs, vp_bind]
  dsimp only
  unfold fJ1_indexOf_4cfef fJ1_canEncode_9a6ad fJ1_canEncode_9a6ad_B16 fJ1_indexOfChar_4cfef
  rw [if_neg (by omega), if_neg (by omega), vp_gdT (by decide), vp_bind, if_pos vz_T1, ← hl, vp_gdT (by omega), vp_gdT (by omega), if_pos (by omega), show max (0 : Int) 0 = 0 by omega, show min (((vg_L s).length : Nat) : Int) (((vg_L s).length : Nat) : Int) = (((vg_L s).length : Nat) : Int) by omega]
  have L := vg_ixC hs (c := vr_i2b c) μ (vg_L s).length 0 9000 (by omega) (by omega)
  have L' : fJ1_indexOfChar_4cfef_L7 s 9000 (((vg_L s).length : Nat) : Int) (vr_i2b c) 0 μ = some (vg_ix (vg_L s) (vr_i2b c) 0, μ) := L
  rw [L', e, vp_bind, vp_bind, vp_bind]
/-- the signs of the tape: behind its end -1 (the reference), 0 (the class) -/
def vg_C (t : Nat → Int) (e : Nat) (i : Nat) : Int := if i < e then t i else -1
def vg_z (t : Nat → Int) (e : Nat) (i : Nat) : Int := if i < e then t i else 0
theorem vg_zc {t : Nat → Int} {e i : Nat} {ch : Int} (h : 1 ≤ ch) : vg_z t e i = ch ↔ vg_C t e i = ch := by
  unfold vg_z vg_C
  split <;> omega
theorem vg_z_in {μ : vr_M} {e : Nat} {t : Nat → Int} (l : vn_li 13 120 0 255 μ e t) (i : Nat) : 0 ≤ vg_z t e i ∧ vg_z t e i ≤ 255 := by
  unfold vg_z
  split
  · next h => exact (l.2.2 i h).2
  · omega
theorem vg_at {μ : vr_M} {e : Nat} {t : Nat → Int} (l : vn_li 13 120 0 255 μ e t) {i : Nat} (hi : i ≤ 1000) : fX4_at 13 (i : Int) μ = some (vg_z t e i, μ) := by
  have hz := vg_z_in l i
  obtain ⟨l1, l2, l3⟩ := l
  by_cases c : i < e
  · have q := l3 i c
    have a := vn_get (k := 13) (i := i) (μ := μ) (by omega) (by omega) (by show i < 120; omega) (by rw [q.1]; omega)
    rw [a, q.1]
    unfold vg_z
    rw [if_pos c]
  · unfold fX4_at fX4_at_B30 fX4_at_B31
    rw [if_neg (by omega), l1, vp_gdT (by omega), if_pos (by omega)]
    unfold vg_z
    rw [if_neg c]
