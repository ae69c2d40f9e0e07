def vc_tn (kind v : Int) (h : vh_H) : Int := if kind = 1 then h 5 3 % v else 0
def vc_key (kind v : Int) (h : vh_H) : Nat → Int := fun j => if j = 8 then h 5 1 * 31 + vc_tn kind v h else if (j : Int) < h 5 0 then (h 2 j * 31 + h 3 j) * 10 + h 4 j else 0
theorem vc_tn_in {kind v : Int} {h : vh_H} (hv : 1 ≤ v ∧ v ≤ 30) : 0 ≤ vc_tn kind v h ∧ vc_tn kind v h < 30 := by
  unfold vc_tn
  split
  · have := Int.emod_nonneg (h 5 3) (show v ≠ 0 by omega)
    have := Int.emod_lt_of_pos (h 5 3) (show 0 < v by omega)
    omega
  · omega
theorem vc_key_in {kind v Y : Int} {h : vh_H} (hY : Y ≤ 100000) (hv : 1 ≤ v ∧ v ≤ 30) (hw : vh_wf Y h) {j : Nat} (hj : j < 9) : vr_R (vc_key kind v h j) := by
  have t := vc_tn_in (kind := kind) (h := h) hv
  have w2 := hw.2.1
  unfold vc_key
  split
  · omega
  · split
    · have w := hw.2.2.2.2 j (by omega)
      omega
    · omega
theorem vc_turn {μ : vr_M} {kind v Y : Int} {h : vh_H} (hY : Y ≤ 100000) (hK : vt_K μ kind v) (hc : vh_c μ 52 = h) (hw : vh_wf Y h) : fX0_turn μ = some (vc_tn kind v h, μ) := by
  obtain ⟨k1, k2, k3, k4⟩ := hK
  have e8 : μ 52 8 = h 5 3 := by rw [← hc]; rfl
  have w3 := hw.2.2.2.1
  have t := vc_tn_in (kind := kind) (h := h) k4
  unfold fX0_turn fX0_turn_B30 fX0_turn_B31
  simp only [k1, k2, e8]
  rw [Int.tmod_eq_emod_of_nonneg w3.1, vp_gdT (by omega)]
  unfold vc_tn at t ⊢
  by_cases c : kind = 1
  · rw [if_pos c] at t ⊢
    rw [if_neg (by omega), vp_gdT (by omega), if_neg (by omega), vp_gdT (by omega), vp_gdT (by omega), vp_gdT (by omega)]
  · rw [if_pos c, if_neg c]
theorem vc_mark {μ : vr_M} {kind v Y : Int} {h : vh_H} (hY : Y ≤ 100000) (hc : vh_c μ 52 = h) (hw : vh_wf Y h) {p : Nat} (hp : p < 8) : fX2_mark 52 (p : Int) μ = some (vc_key kind v h p, μ) := by
  have e5 : μ 52 5 = h 5 0 := by rw [← hc]; rfl
  have g : ∀ f, f < 5 → μ (53 + f) p = h f p := fun f hf => by rw [← hc]; unfold vh_c; rw [if_pos hf, if_pos hp]
  have g2 := g 2 (by decide)
  have g3 := g 3 (by decide)
  have g4 := g 4 (by decide)
  have w0 := hw.1
  have w := hw.2.2.2.2 p hp
  unfold fX2_mark fX2_mark_B38
  by_cases c : (p : Int) < h 5 0
  · have hh : fX2_has 52 (p : Int) μ = some (1, μ) := by rw [vp_has (by rw [e5]; omega), if_pos (by rw [e5]; omega)]
    have hk : vc_key kind v h p = (h 2 p * 31 + h 3 p) * 10 + h 4 p := by unfold vc_key; rw [if_neg (by omega), if_pos c]
    rw [hh, vp_bind, if_neg (show ¬ (1 : Int) = 0 by decide), vp_gdT (by omega)]
    simp only [show ((p : Int)).toNat = p from rfl, show 52 + 3 = 53 + 2 from rfl, show 52 + 4 = 53 + 3 from rfl, show 52 + 5 = 53 + 4 from rfl, g2, g3, g4, hk]
    rw [vp_gdT (by omega)]
  · have hh : fX2_has 52 (p : Int) μ = some (0, μ) := by rw [vp_has (by rw [e5]; omega), if_neg (by rw [e5]; omega)]
    have hk : vc_key kind v h p = 0 := by unfold vc_key; rw [if_neg (by omega), if_neg c]
    rw [hh, vp_bind, if_pos rfl, hk]
theorem vc_noteL {kind v Y : Int} {h : vh_H} (hY : Y ≤ 100000) (hw : vh_wf Y h) {x : Nat} (hx : x ≤ 200) :
    ∀ (d j n : Nat) (μ : vr_M), j + d = 8 → d < n → vt_K μ kind v → vh_c μ 52 = h → (∀ t, t < j → μ 64 (9 * x + t) = vc_key kind v h t) →
      ∃ μ', fX1_note_L24 n ((x : Int) * 9) (j : Int) μ = some (0, μ') ∧ vp_fr [64] μ μ' ∧ (∀ t, t < 9 → μ' 64 (9 * x + t) = vc_key kind v h t) ∧ (∀ q, q < 9 * x → μ' 64 q = μ 64 q) := by
  intro d
  induction d with
  | zero =>
    intro j n μ hd hn hK hc ht
    obtain ⟨n, rfl⟩ : ∃ m, n = m + 1 := ⟨n - 1, by omega⟩
    have e7 : μ 52 6 = h 5 1 := by rw [← hc]; rfl
    have e6 : ((x : Int) * 9 + 8).toNat = 9 * x + 8 := by omega
    refine ⟨vr_u μ 64 (9 * x + 8) (vc_key kind v h 8), ?_, vp_fr.u (by decide), fun t h9 => ?_, fun q hq => vp_uj (by omega)⟩
    · rw [fX1_note_L24.eq_2, if_pos (by omega), vc_turn hY hK hc hw, vp_bind, vp_gdT (by omega), e6]
      have : vc_key kind v h 8 = h 5 1 * 31 + vc_tn kind v h := rfl
      rw [this, e7]
    · by_cases e : t = 8
      · subst e; exact vp_us
      · rw [vp_uj (by omega)]
        exact ht t (by omega)
  | succ d ih =>
    intro j n μ hd hn hK hc ht
    obtain ⟨n, rfl⟩ : ∃ m, n = m + 1 := ⟨n - 1, by omega⟩
    have e3 : (j : Int) + 1 = ((j + 1 : Nat) : Int) := by omega
    have e6 : ((x : Int) * 9 + (j : Int)).toNat = 9 * x + j := by omega
    have fu : vp_fr [64] μ (vr_u μ 64 (9 * x + j) (vc_key kind v h j)) := vp_fr.u (by decide)
    obtain ⟨μ', g1, g2, g3, g4⟩ := ih (j + 1) n (vr_u μ 64 (9 * x + j) (vc_key kind v h j)) (by omega) (by omega) (hK.fr fu (by decide)) ((vh_c_fr (fun i hi => fu _ (by simp; omega))).trans hc) (fun t htj => by
      by_cases e : t = j
      · subst e; exact vp_us
      · rw [vp_uj (by omega)]
        exact ht t (by omega))
    refine ⟨μ', ?_, fu.tr g2, g3, fun q hq => by rw [g4 q hq, vp_uj (by omega)]⟩
    rw [fX1_note_L24.eq_2, if_neg (by omega), vc_mark (kind := kind) (v := v) hY hc hw (by omega), vp_bind, vp_gdT (by omega), vp_gdT (by omega), e6, e3, g1]
theorem vc_note {kind v Y : Int} {h : vh_H} (hY : Y ≤ 100000) (hw : vh_wf Y h) {x : Nat} (hx : x ≤ 200) {μ : vr_M} (hK : vt_K μ kind v) (hc : vh_c μ 52 = h) :
    ∃ μ', fX1_note (x : Int) μ = some (0, μ') ∧ vp_fr [64] μ μ' ∧ (∀ t, t < 9 → μ' 64 (9 * x + t) = vc_key kind v h t) ∧ (∀ q, q < 9 * x → μ' 64 q = μ 64 q) := by
  obtain ⟨μ', g⟩ := vc_noteL hY hw hx 8 0 9000 μ (by omega) (by omega) hK hc (fun t ht => by omega)
  refine ⟨μ', ?_, g.2⟩
  rw [fX1_note, vp_gdT (by omega), if_neg (by omega), vp_gdT (by omega), if_pos (by omega)]
  exact g.1
/-- the years noted: K i is the key of year i -/
def vc_sm (K : Nat → Nat → Int) (a b : Nat) : Bool := (List.range 9).all (fun j => decide (K a j = K b j))
theorem vc_sm_iff {K : Nat → Nat → Int} {a b : Nat} : vc_sm K a b = true ↔ ∀ j, j < 9 → K a j = K b j := by
  unfold vc_sm
  rw [List.all_eq_true]
  exact ⟨fun h j hj => of_decide_eq_true (h j (List.mem_range.mpr hj)), fun h j hj => decide_eq_true (h j (List.mem_range.mp hj))⟩
theorem vc_sameL {K : Nat → Nat → Int} {μ : vr_M} {a b : Nat} (ha : a ≤ 200) (hb : b ≤ 200) (hR : ∀ t, t < 9 → vr_R (K a t) ∧ vr_R (K b t)) (h1 : ∀ t, t < 9 → μ 64 (9 * a + t) = K a t) (h2 : ∀ t, t < 9 → μ 64 (9 * b + t) = K b t) :
    ∀ (d j n : Nat), j + d = 9 → d < n → (∀ t, t < j → K a t = K b t) → fX1_isSame_L14 n ((a : Int) * 9) ((b : Int) * 9) (j : Int) μ = some (if vc_sm K a b = true then 1 else 0, μ) := by
  intro d
  induction d with
  | zero =>
    intro j n hd hn ht
    obtain ⟨n, rfl⟩ : ∃ m, n = m + 1 := ⟨n - 1, by omega⟩
    rw [fX1_isSame_L14.eq_2, if_pos (by omega), if_pos (vc_sm_iff.mpr (fun t ht9 => ht t (by omega)))]
  | succ d ih =>
    intro j n hd hn ht
    obtain ⟨n, rfl⟩ : ∃ m, n = m + 1 := ⟨n - 1, by omega⟩
    have e3 : (j : Int) + 1 = ((j + 1 : Nat) : Int) := by omega
    have ea : ((a : Int) * 9 + (j : Int)).toNat = 9 * a + j := by omega
    have eb : ((b : Int) * 9 + (j : Int)).toNat = 9 * b + j := by omega
    obtain ⟨r1, r2⟩ := hR j (by omega)
    have q1 := h1 j (by omega)
    have q2 := h2 j (by omega)
    rw [fX1_isSame_L14.eq_2, if_neg (by omega), vp_gdT (by omega), if_neg (by omega), vp_gdT (by omega), if_neg (by omega), vp_gdT (by omega), vp_gdT (by omega), ea, eb]
    simp only [q1, q2]
    rw [vp_gdT r1, vp_gdT r2]
    by_cases c : K a j = K b j
    · rw [if_pos c, vp_gdT (by omega), e3, ih (j + 1) n (by omega) (by omega) (fun t htj => by
        by_cases e : t = j
        · subst e; exact c
        · exact ht t (by omega))]
    · rw [if_neg c, fX1_isSame_B68, if_neg (fun q => c (vc_sm_iff.mp q j (by omega)))]
theorem vc_same {K : Nat → Nat → Int} {μ : vr_M} {a b : Nat} (ha : a ≤ 200) (hb : b ≤ 200) (hR : ∀ t, t < 9 → vr_R (K a t) ∧ vr_R (K b t)) (h1 : ∀ t, t < 9 → μ 64 (9 * a + t) = K a t) (h2 : ∀ t, t < 9 → μ 64 (9 * b + t) = K b t) :
    fX1_isSame (a : Int) (b : Int) μ = some (if vc_sm K a b = true then 1 else 0, μ) := by
  rw [fX1_isSame, vp_gdT (by omega), vp_gdT (by omega)]
  exact vc_sameL ha hb hR h1 h2 9 0 9000 (by omega) (by omega) (fun t ht => by omega)
def vc_fl (K : Nat → Nat → Int) (x : Nat) : Nat → Nat → Nat
  | 0, i => i
  | d + 1, i => if vc_sm K i x = true then i else vc_fl K x d (i + 1)
theorem vc_fl_in {K : Nat → Nat → Int} {x : Nat} : ∀ (d i : Nat), i ≤ vc_fl K x d i ∧ vc_fl K x d i ≤ i + d
  | 0, i => ⟨Nat.le_refl _, Nat.le_refl _⟩
  | d + 1, i => by
    rw [vc_fl]
    split
    · omega
    · have := vc_fl_in (K := K) (x := x) d (i + 1)
      omega
theorem vc_firstL {K : Nat → Nat → Int} {μ : vr_M} {x : Nat} (hx : x ≤ 200) (hR : ∀ a t, a ≤ 200 → t < 9 → vr_R (K a t)) (h1 : ∀ a t, a ≤ x → t < 9 → μ 64 (9 * a + t) = K a t) :
    ∀ (d i n : Nat), i + d = x → d < n → fX1_firstLike_L2 n (x : Int) (i : Int) μ = some (((vc_fl K x d i : Nat) : Int), μ) := by
  intro d
  induction d with
  | zero =>
    intro i n hd hn
    obtain ⟨n, rfl⟩ : ∃ m, n = m + 1 := ⟨n - 1, by omega⟩
    rw [fX1_firstLike_L2.eq_2, if_pos (by omega), vc_fl, show x = i by omega]
  | succ d ih =>
    intro i n hd hn
    obtain ⟨n, rfl⟩ : ∃ m, n = m + 1 := ⟨n - 1, by omega⟩
    have e3 : (i : Int) + 1 = ((i + 1 : Nat) : Int) := by omega
    have s := vc_same (K := K) (μ := μ) (a := i) (b := x) (by omega) hx (fun t ht => ⟨hR i t (by omega) ht, hR x t hx ht⟩) (fun t ht => h1 i t (by omega) ht) (fun t ht => h1 x t (by omega) ht)
    rw [fX1_firstLike_L2.eq_2, if_neg (by omega), s, vp_bind, vc_fl]
    by_cases c : vc_sm K i x = true
    · simp only [c, if_true]
      rw [if_neg (by decide)]
    · simp only [c, if_false, if_true]
      rw [vp_gdT (by omega), e3, ih (i + 1) n (by omega) (by omega)]
