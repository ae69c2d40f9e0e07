/-! words -/
def vg_m (C : Nat → Int) : List Int → Nat → Nat
  | [], _ => 0
  | a :: l, p => if C p = a then 1 + vg_m C l (p + 1) else 0
theorem vg_m_le (C : Nat → Int) : ∀ (l : List Int) (p : Nat), vg_m C l p ≤ l.length
  | [], _ => Nat.le_refl _
  | a :: l, p => by
    have := vg_m_le C l (p + 1)
    unfold vg_m
    split
    · simp; omega
    · simp
theorem vg_m_in {C : Nat → Int} {e : Nat} (hE : vg_E C e) : ∀ (l : List Int) (p : Nat), (∀ a ∈ l, 1 ≤ a) → p ≤ e → p + vg_m C l p ≤ e
  | [], p, _, h => h
  | a :: l, p, ha, h => by
    unfold vg_m
    split
    · next c =>
      have p1 : p < e := hE.lt (fun q => by have := ha a (by simp); omega)
      have := vg_m_in hE l (p + 1) (fun x hx => ha x (by simp [hx])) (by omega)
      omega
    · exact h
theorem vgc_sameL {t : Nat → Int} {e p s : Nat} {μ : vr_M} (hs : s < 17) (l : vn_li 13 120 0 255 μ e t) (hp : μ 50 2 = (p : Int)) (hpe : p ≤ 900) (h1 : ∀ a ∈ vg_L s, 1 ≤ a) : ∀ (d i n : Nat), i + d = (vg_L s).length → d < n → fX6_sameBytes_L2 s n (i : Int) μ = some (((i + vg_m (vg_C t e) ((vg_L s).drop i) (p + i) : Nat) : Int), μ) := by
  have hl := vg_L_len s
  have h10 := (vg_L_in hs).1
  intro d
  induction d with
  | zero =>
    intro i n hd hn
    obtain ⟨n, rfl⟩ : ∃ m, n = m + 1 := ⟨n - 1, by omega⟩
    rw [fX6_sameBytes_L2.eq_2, vg_len hs, vp_bind, if_pos (by omega), vg_len hs, vp_bind, List.drop_of_length_le (by omega)]
    show some _ = some (((i + 0 : Nat) : Int), μ)
    rw [show i + 0 = (vg_L s).length by omega]
  | succ d ih =>
    intro i n hd hn
    obtain ⟨n, rfl⟩ : ∃ m, n = m + 1 := ⟨n - 1, by omega⟩
    have e3 : (i : Int) + 1 = ((i + 1 : Nat) : Int) := by omega
    have hi : i < (vg_L s).length := by omega
    have hg : (vg_L s).getD i 0 = (vg_L s)[i] := by rw [List.getD_eq_getElem?_getD, List.getElem?_eq_getElem hi]; rfl
    have ha := h1 _ (List.getElem_mem hi)
    rw [fX6_sameBytes_L2.eq_2, vg_len hs, vp_bind, if_neg (by omega)]
    simp only [hp]
    rw [vp_gdT (by omega), show (p : Int) + (i : Int) = ((p + i : Nat) : Int) by omega, vg_at l (by omega), vp_bind]
    dsimp only
    rw [vg_ch hs hi, vp_bind, hg, List.drop_eq_getElem_cons hi, vg_m]
    dsimp only
    by_cases q : vg_z t e (p + i) = (vg_L s)[i]
    · rw [if_pos q, if_pos ((vg_zc ha).mp q), vp_gdT (by omega), e3, ih (i + 1) n (by omega) (by omega), show p + (i + 1) = p + i + 1 by omega, show i + 1 + vg_m (vg_C t e) (List.drop (i + 1) (vg_L s)) (p + i + 1) = i + (1 + vg_m (vg_C t e) (List.drop (i + 1) (vg_L s)) (p + i + 1)) by omega]
    · rw [if_neg q, if_neg (fun z => q ((vg_zc ha).mpr z))]
      rfl
theorem vgc_same {t : Nat → Int} {e p s : Nat} {μ : vr_M} (hs : s < 17) (l : vn_li 13 120 0 255 μ e t) (hp : μ 50 2 = (p : Int)) (hpe : p ≤ 900) (h1 : ∀ a ∈ vg_L s, 1 ≤ a) : fX6_sameBytes s μ = some (((vg_m (vg_C t e) (vg_L s) p : Nat) : Int), μ) := by
  have hl := vg_L_len s
  have h10 := (vg_L_in hs).1
  have h := vgc_sameL hs l hp hpe h1 (vg_L s).length 0 9000 (by omega) (by omega)
  rw [List.drop_zero, Nat.zero_add, Nat.add_zero] at h
  exact h
theorem vg_L0 : vg_L 0 = [103, 105, 118, 101, 32] ∧ vg_L 1 = [119, 101, 97, 114, 32] ∧ vg_L 2 = [119, 97, 108, 107, 32] ∧ vg_L 3 = [109, 111, 118, 101, 32] ∧ vg_L 4 = [103, 114, 111, 119, 32] ∧ vg_L 5 = [100, 114, 121, 32] := by decide
theorem vg_L9 : vg_L 9 = [114, 111, 119, 32] ∧ vg_L 10 = [105, 118, 101, 32] ∧ vg_L 13 = [97, 108, 107, 32] ∧ vg_L 14 = [101, 97, 114, 32] ∧ vg_L 15 = [109, 111, 118, 101, 32] ∧ vg_L 16 = [100, 114, 121, 32] := by decide
theorem vgc_wordL {t : Nat → Int} {e p : Nat} {μ : vr_M} (l : vn_li 13 120 0 255 μ e t) (hp : μ 50 2 = (p : Int)) (hpe : p ≤ 900) {w : Nat} (hw : w < 6) {n : Nat} {x1 : Int} (hx : 0 ≤ x1 ∧ x1 ≤ 100) :
    fX6_readWord_L4 (n + 1) x1 (w : Int) μ = if vg_m (vg_C t e) (vg_L w) p = (vg_L w).length then some ((w : Int), vr_u μ 50 2 ((p + vg_m (vg_C t e) (vg_L w) p : Nat) : Int)) else fX6_readWord_L4 n (max x1 ((vg_m (vg_C t e) (vg_L w) p : Nat) : Int)) ((w + 1 : Nat) : Int) μ := by
  have h1 : ∀ a ∈ vg_L w, 1 ≤ a := by
    have : ∀ w, w < 6 → ∀ a ∈ vg_L w, (1 : Int) ≤ a := by decide
    exact this w hw
  have hm := vg_m_le (vg_C t e) (vg_L w) p
  have h10 := (vg_L_in (show w < 17 by omega)).1
  have hl := vg_L_len w
  have sp : fX6_spelt (w : Int) μ = some (w, μ) := by
    rcases (show w = 0 ∨ w = 1 ∨ w = 2 ∨ w = 3 ∨ w = 4 ∨ w = 5 by omega) with rfl | rfl | rfl | rfl | rfl | rfl <;> rfl
  rw [fX6_readWord_L4.eq_2, if_neg (by omega), sp, vp_bind]
  dsimp only
  rw [vp_gdT (by omega), vgc_same (by omega) l hp hpe h1, vp_bind]
  dsimp only
  rw [vg_len (by omega), vp_bind]
  dsimp only
  by_cases c : vg_m (vg_C t e) (vg_L w) p = (vg_L w).length
  · rw [if_neg (by omega), if_pos c, hp, show (p : Int) + ((vg_m (vg_C t e) (vg_L w) p : Nat) : Int) = ((p + vg_m (vg_C t e) (vg_L w) p : Nat) : Int) by omega]
  · rw [if_pos (by omega), if_neg c, vp_gdT (by omega), vp_gdT (by omega), show (w : Int) + 1 = ((w + 1 : Nat) : Int) by omega]
def vg_wq (C : Nat → Int) (L : List Int) (p : Nat) (w : Int) : Nat × Int := (p + vg_m C L p, if vg_m C L p = L.length then w else -1)
def vg_w (C : Nat → Int) (p : Nat) : Nat × Int :=
  if C p = 103 then (if C (p + 1) = 114 then vg_wq C [114, 111, 119, 32] (p + 1) 4 else vg_wq C [105, 118, 101, 32] (p + 1) 0)
  else if C p = 119 then (if C (p + 1) = 97 then vg_wq C [97, 108, 107, 32] (p + 1) 2 else vg_wq C [101, 97, 114, 32] (p + 1) 1)
  else if C p = 109 then vg_wq C [109, 111, 118, 101, 32] p 3
  else if C p = 100 then vg_wq C [100, 114, 121, 32] p 5
  else (p, -1)
theorem vg_wq_in {C : Nat → Int} {e p : Nat} {L : List Int} {w : Int} (hE : vg_E C e) (h1 : ∀ a ∈ L, 1 ≤ a) (hp : p ≤ e) (hw : 0 ≤ w ∧ w ≤ 5) : (p ≤ (vg_wq C L p w).1 ∧ (vg_wq C L p w).1 ≤ e) ∧ -1 ≤ (vg_wq C L p w).2 ∧ (vg_wq C L p w).2 ≤ 5 ∧ (0 ≤ (vg_wq C L p w).2 → (vg_wq C L p w).1 = p + L.length) := by
  have h := vg_m_in hE L p h1 hp
  unfold vg_wq
  dsimp only
  refine ⟨⟨by omega, h⟩, ?_⟩
  split <;> omega
theorem vg_w_in {C : Nat → Int} {e p : Nat} (hE : vg_E C e) (hp : p ≤ e) : (p ≤ (vg_w C p).1 ∧ (vg_w C p).1 ≤ e) ∧ -1 ≤ (vg_w C p).2 ∧ (vg_w C p).2 ≤ 5 ∧ (0 ≤ (vg_w C p).2 → p + 4 ≤ (vg_w C p).1) := by
  unfold vg_w
  by_cases c1 : C p = 103
  · have p1 : p < e := hE.lt (fun q => by rw [q] at c1; omega)
    rw [if_pos c1]
    by_cases c2 : C (p + 1) = 114
    · rw [if_pos c2]
      have := vg_wq_in (L := [114, 111, 119, 32]) (w := 4) hE (by decide) (show p + 1 ≤ e by omega) (by decide)
      simp only [List.length_cons, List.length_nil] at this
      omega
    · rw [if_neg c2]
      have := vg_wq_in (L := [105, 118, 101, 32]) (w := 0) hE (by decide) (show p + 1 ≤ e by omega) (by decide)
      simp only [List.length_cons, List.length_nil] at this
      omega
  · rw [if_neg c1]
    by_cases c3 : C p = 119
    · have p1 : p < e := hE.lt (fun q => by rw [q] at c3; omega)
      rw [if_pos c3]
      by_cases c2 : C (p + 1) = 97
      · rw [if_pos c2]
        have := vg_wq_in (L := [97, 108, 107, 32]) (w := 2) hE (by decide) (show p + 1 ≤ e by omega) (by decide)
        simp only [List.length_cons, List.length_nil] at this
        omega
      · rw [if_neg c2]
        have := vg_wq_in (L := [101, 97, 114, 32]) (w := 1) hE (by decide) (show p + 1 ≤ e by omega) (by decide)
        simp only [List.length_cons, List.length_nil] at this
        omega
    · rw [if_neg c3]
      by_cases c4 : C p = 109
      · rw [if_pos c4]
        have := vg_wq_in (L := [109, 111, 118, 101, 32]) (w := 3) hE (by decide) hp (by decide)
        simp only [List.length_cons, List.length_nil] at this
        omega
      · rw [if_neg c4]
        by_cases c5 : C p = 100
        · rw [if_pos c5]
          have := vg_wq_in (L := [100, 114, 121, 32]) (w := 5) hE (by decide) hp (by decide)
          simp only [List.length_cons, List.length_nil] at this
          omega
        · rw [if_neg c5]
          dsimp only
          omega
theorem vgc_word {t : Nat → Int} {e p : Nat} {μ : vr_M} (l : vn_li 13 120 0 255 μ e t) (hp : μ 50 2 = (p : Int)) (hpe : p ≤ 900) : fX6_readWord μ = some ((vg_w (vg_C t e) p).2, vr_u μ 50 2 (((vg_w (vg_C t e) p).1 : Nat) : Int)) := by
  have hm := fun L q => vg_m_le (vg_C t e) L q
  have fin : ∀ (x1 : Int) (q : Nat), (p : Int) + x1 = (q : Int) → fX6_readWord_L4 8994 x1 ((5 + 1 : Nat) : Int) μ = some (-1, vr_u μ 50 2 (q : Int)) := fun x1 q e => by
    rw [show 8994 = 8993 + 1 from rfl, fX6_readWord_L4.eq_2, if_pos (by decide), hp, e]
  obtain ⟨L0, L1, L2, L3, L4, L5⟩ := vg_L0
  have k0 := fun x1 hx => vgc_wordL l hp hpe (w := 0) (by decide) (n := 8999) (x1 := x1) hx
  have k1 := fun x1 hx => vgc_wordL l hp hpe (w := 1) (by decide) (n := 8998) (x1 := x1) hx
  have k2 := fun x1 hx => vgc_wordL l hp hpe (w := 2) (by decide) (n := 8997) (x1 := x1) hx
  have k3 := fun x1 hx => vgc_wordL l hp hpe (w := 3) (by decide) (n := 8996) (x1 := x1) hx
  have k4 := fun x1 hx => vgc_wordL l hp hpe (w := 4) (by decide) (n := 8995) (x1 := x1) hx
  have k5 := fun x1 hx => vgc_wordL l hp hpe (w := 5) (by decide) (n := 8994) (x1 := x1) hx
  rw [L0] at k0
  rw [L1] at k1
  rw [L2] at k2
  rw [L3] at k3
  rw [L4] at k4
  rw [L5] at k5
  simp only [List.length_cons, List.length_nil] at k0 k1 k2 k3 k4 k5
  have m0 : vg_m (vg_C t e) [103, 105, 118, 101, 32] p = if vg_C t e p = 103 then 1 + vg_m (vg_C t e) [105, 118, 101, 32] (p + 1) else 0 := rfl
  have m1 : vg_m (vg_C t e) [119, 101, 97, 114, 32] p = if vg_C t e p = 119 then 1 + vg_m (vg_C t e) [101, 97, 114, 32] (p + 1) else 0 := rfl
  have m2 : vg_m (vg_C t e) [119, 97, 108, 107, 32] p = if vg_C t e p = 119 then 1 + vg_m (vg_C t e) [97, 108, 107, 32] (p + 1) else 0 := rfl
  have m3 : ¬ vg_C t e p = 109 → vg_m (vg_C t e) [109, 111, 118, 101, 32] p = 0 := fun q => by unfold vg_m; rw [if_neg q]
  have m4 : vg_m (vg_C t e) [103, 114, 111, 119, 32] p = if vg_C t e p = 103 then 1 + vg_m (vg_C t e) [114, 111, 119, 32] (p + 1) else 0 := rfl
  have m5 : ¬ vg_C t e p = 100 → vg_m (vg_C t e) [100, 114, 121, 32] p = 0 := fun q => by unfold vg_m; rw [if_neg q]
  have i1 : ¬ vg_C t e (p + 1) = 105 → vg_m (vg_C t e) [105, 118, 101, 32] (p + 1) = 0 := fun q => by unfold vg_m; rw [if_neg q]
  have i2 : ¬ vg_C t e (p + 1) = 114 → vg_m (vg_C t e) [114, 111, 119, 32] (p + 1) = 0 := fun q => by unfold vg_m; rw [if_neg q]
  have i3 : ¬ vg_C t e (p + 1) = 101 → vg_m (vg_C t e) [101, 97, 114, 32] (p + 1) = 0 := fun q => by unfold vg_m; rw [if_neg q]
  have i4 : ¬ vg_C t e (p + 1) = 97 → vg_m (vg_C t e) [97, 108, 107, 32] (p + 1) = 0 := fun q => by unfold vg_m; rw [if_neg q]
  have h0 := hm [105, 118, 101, 32] (p + 1)
  have h1 := hm [101, 97, 114, 32] (p + 1)
  have h2 := hm [97, 108, 107, 32] (p + 1)
  have h3 := hm [109, 111, 118, 101, 32] p
  have h4 := hm [114, 111, 119, 32] (p + 1)
  have h5 := hm [100, 114, 121, 32] p
  simp only [List.length_cons, List.length_nil] at h0 h1 h2 h3 h4 h5
  have start : fX6_readWord μ = fX6_readWord_L4 (8999 + 1) 0 ((0 : Nat) : Int) μ := rfl
  rw [start, k0 0 (by decide)]
  unfold vg_w vg_wq
  generalize vg_m (vg_C t e) [103, 105, 118, 101, 32] p = a0 at *
  generalize vg_m (vg_C t e) [119, 101, 97, 114, 32] p = a1 at *
  generalize vg_m (vg_C t e) [119, 97, 108, 107, 32] p = a2 at *
  generalize vg_m (vg_C t e) [109, 111, 118, 101, 32] p = a3 at *
  generalize vg_m (vg_C t e) [103, 114, 111, 119, 32] p = a4 at *
  generalize vg_m (vg_C t e) [100, 114, 121, 32] p = a5 at *
  generalize vg_m (vg_C t e) [105, 118, 101, 32] (p + 1) = b0 at *
  generalize vg_m (vg_C t e) [101, 97, 114, 32] (p + 1) = b1 at *
  generalize vg_m (vg_C t e) [97, 108, 107, 32] (p + 1) = b2 at *
  generalize vg_m (vg_C t e) [114, 111, 119, 32] (p + 1) = b4 at *
  simp only [List.length_cons, List.length_nil]
  by_cases c1 : vg_C t e p = 103
  · rw [if_pos c1] at m0 m4
    rw [if_neg (by omega)] at m1 m2
    have := m3 (by omega)
    have := m5 (by omega)
    rw [if_pos c1]
    by_cases c2 : vg_C t e (p + 1) = 114
    · have := i1 (by omega)
      rw [if_pos c2]
      by_cases c3 : b4 = 4
      · rw [if_neg (by omega), k1 _ (by omega), if_neg (by omega), k2 _ (by omega), if_neg (by omega), k3 _ (by omega), if_neg (by omega), k4 _ (by omega),  if_pos (by omega), if_pos (by omega), show p + a4 = p + 1 + b4 by omega]
        rfl
      · rw [if_neg (by omega), k1 _ (by omega), if_neg (by omega), k2 _ (by omega), if_neg (by omega), k3 _ (by omega), if_neg (by omega), k4 _ (by omega), if_neg (by omega), k5 _ (by omega),  if_neg (by omega), fin _ (p + 1 + b4) (by omega), if_neg (by omega)]
    · have := i2 c2
      rw [if_neg c2]
      by_cases c3 : b0 = 4
      · rw [if_pos (by omega), if_pos (by omega), show p + a0 = p + 1 + b0 by omega]
        rfl
      · rw [if_neg (by omega), k1 _ (by omega), if_neg (by omega), k2 _ (by omega), if_neg (by omega), k3 _ (by omega), if_neg (by omega), k4 _ (by omega), if_neg (by omega), k5 _ (by omega),  if_neg (by omega), fin _ (p + 1 + b0) (by omega), if_neg (by omega)]
  · rw [if_neg c1] at m0 m4
    rw [if_neg c1]
    by_cases c4 : vg_C t e p = 119
    · rw [if_pos c4] at m1 m2
      have := m3 (by omega)
      have := m5 (by omega)
      rw [if_pos c4]
      by_cases c2 : vg_C t e (p + 1) = 97
      · have := i3 (by omega)
        rw [if_pos c2]
        by_cases c3 : b2 = 4
        · rw [if_neg (by omega), k1 _ (by omega), if_neg (by omega), k2 _ (by omega),  if_pos (by omega), if_pos (by omega), show p + a2 = p + 1 + b2 by omega]
          rfl
        · rw [if_neg (by omega), k1 _ (by omega), if_neg (by omega), k2 _ (by omega), if_neg (by omega), k3 _ (by omega), if_neg (by omega), k4 _ (by omega), if_neg (by omega), k5 _ (by omega),  if_neg (by omega), fin _ (p + 1 + b2) (by omega), if_neg (by omega)]
      · have := i4 c2
        rw [if_neg c2]
        by_cases c3 : b1 = 4
        · rw [if_neg (by omega), k1 _ (by omega),  if_pos (by omega), if_pos (by omega), show p + a1 = p + 1 + b1 by omega]
          rfl
        · rw [if_neg (by omega), k1 _ (by omega), if_neg (by omega), k2 _ (by omega), if_neg (by omega), k3 _ (by omega), if_neg (by omega), k4 _ (by omega), if_neg (by omega), k5 _ (by omega),  if_neg (by omega), fin _ (p + 1 + b1) (by omega), if_neg (by omega)]
    · rw [if_neg c4] at m1 m2
      rw [if_neg c4]
      by_cases c5 : vg_C t e p = 109
      · have := m5 (by omega)
        rw [if_pos c5]
        by_cases c3 : a3 = 5
        · rw [if_neg (by omega), k1 _ (by omega), if_neg (by omega), k2 _ (by omega), if_neg (by omega), k3 _ (by omega),  if_pos (by omega), if_pos (by omega)]
          rfl
        · rw [if_neg (by omega), k1 _ (by omega), if_neg (by omega), k2 _ (by omega), if_neg (by omega), k3 _ (by omega), if_neg (by omega), k4 _ (by omega), if_neg (by omega), k5 _ (by omega),  if_neg (by omega), fin _ (p + a3) (by omega), if_neg (by omega)]
      · have := m3 c5
        rw [if_neg c5]
        by_cases c6 : vg_C t e p = 100
        · rw [if_pos c6]
          by_cases c3 : a5 = 4
          · rw [if_neg (by omega), k1 _ (by omega), if_neg (by omega), k2 _ (by omega), if_neg (by omega), k3 _ (by omega), if_neg (by omega), k4 _ (by omega), if_neg (by omega), k5 _ (by omega),  if_pos (by omega), if_pos (by omega)]
            rfl
          · rw [if_neg (by omega), k1 _ (by omega), if_neg (by omega), k2 _ (by omega), if_neg (by omega), k3 _ (by omega), if_neg (by omega), k4 _ (by omega), if_neg (by omega), k5 _ (by omega),  if_neg (by omega), fin _ (p + a5) (by omega), if_neg (by omega)]
        · have := m5 c6
          rw [if_neg c6]
          rw [if_neg (by omega), k1 _ (by omega), if_neg (by omega), k2 _ (by omega), if_neg (by omega), k3 _ (by omega), if_neg (by omega), k4 _ (by omega), if_neg (by omega), k5 _ (by omega),  if_neg (by omega), fin _ p (by omega)]
