def vc_tn (kind v : Int) (h : vh_H) : Int := if kind = 1 then h 5 3 % v else 0
def vc_key (kind v : Int) (h : vh_H) : Nat → Int := fun j => if j = 8 then h 5 1 * 31 + vc_tn kind v h else if (j : Int) < h 5 0 then (h 2 j * 31 + h 3 j) * 10 + h 4 j else 0
theorem vc_tn_in {kind v : Int} {h : vh_H} (hv : 1 ≤ v ∧ v ≤ 30) : 0 ≤ vc_tn kind v h ∧ vc_tn kind v h < 30 := by
  unfold vc_tn
  split
  · have := Int.emod_nonneg (h 5 3) (show v ≠ 0 by omega)
    have := Int.emod_lt_of_pos (h 5 3) (show 0 < v by omega)
    omega
  · omega
theorem vc_key_in {kind v Y : Int} {h : vh_H} (hY : Y ≤ 100000) (hv : 1 ≤ v ∧ v ≤ 30) (hw : vh_wf Y h) {j : Nat} (hj : j < 9) : vr_R (vc_key kind v h j) := by
  have t := vc_tn_in (kind := kind) (h := h) hv
  have w2 := hw.2.1
  unfold vc_key
  split
  · omega
  · split
    · have w := hw.2.2.2.2 j (by omega)
      omega
    · omega
theorem vc_turn {μ : vr_M} {kind v Y : Int} {h : vh_H} (hY : Y ≤ 100000) (hK : vt_K μ kind v) (hc : vh_c μ 52 = h) (hw : vh_wf Y h) : fX0_turn μ = some (vc_tn kind v h, μ) := by
  obtain ⟨k1, k2, k3, k4⟩ := hK
  have e8 : μ 52 8 = h 5 3 := by rw [← hc]; rfl
  have w3 := hw.2.2.2.1
  have t := vc_tn_in (kind := kind) (h := h) k4
  unfold fX0_turn fX0_turn_B30 fX0_turn_B31
  simp only [k1, k2, e8]
  rw [Int.tmod_eq_emod_of_nonneg w3.1, vp_gdT (by omega)]
  unfold vc_tn at t ⊢
  by_cases c : kind = 1
  · rw [if_pos c] at t ⊢
    rw [if_neg (by omega), vp_gdT (by omega), if_neg (by omega), vp_gdT (by omega), vp_gdT (by omega), vp_gdT (by omega)]
  · rw [if_pos c, if_neg c]
theorem vc_mark {μ : vr_M} {kind v Y : Int} {h : vh_H} (hY : Y ≤ 100000) (hc : vh_c μ 52 = h) (hw : vh_wf Y h) {p : Nat} (hp : p < 8) : fX2_mark 52 (p : Int) μ = some (vc_key kind v h p, μ) := by
  have e5 : μ 52 5 = h 5 0 := by rw [← hc]; rfl
  have g : ∀ f, f < 5 → μ (53 + f) p = h f p := fun f hf => by rw [← hc]; unfold vh_c; rw [if_pos hf, if_pos hp]
  have g2 := g 2 (by decide)
  have g3 := g 3 (by decide)
  have g4 := g 4 (by decide)
  have w0 := hw.1
  have w := hw.2.2.2.2 p hp
  unfold fX2_mark fX2_mark_B38
  by_cases c : (p : Int) < h 5 0
  · have hh : fX2_has 52 (p : Int) μ = some (1, μ) := by rw [vp_has (by rw [e5]; omega), if_pos (by rw [e5]; omega)]
    have hk : vc_key kind v h p = (h 2 p * 31 + h 3 p) * 10 + h 4 p := by unfold vc_key; rw [if_neg (by omega), if_pos c]
    rw [hh, vp_bind, if_neg (show ¬ (1 : Int) = 0 by decide), vp_gdT (by omega)]
    simp only [show ((p : Int)).toNat = p from rfl, show 52 + 3 = 53 + 2 from rfl, show 52 + 4 = 53 + 3 from rfl, show 52 + 5 = 53 + 4 from rfl, g2, g3, g4, hk]
    rw [vp_gdT (by omega)]
  · have hh : fX2_has 52 (p : Int) μ = some (0, μ) := by rw [vp_has (by rw [e5]; omega), if_neg (by rw [e5]; omega)]
    have hk : vc_key kind v h p = 0 := by unfold vc_key; rw [if_neg (by omega), if_neg c]
    rw [hh, vp_bind, if_pos rfl, hk]
theorem vc_noteL {kind v Y : Int} {h : vh_H} (hY : Y ≤ 100000) (hw : vh_wf Y h) {x : Nat} (hx : x ≤ 200) :
    ∀ (d j n : Nat) (μ : vr_M), j + d = 8 → d < n → vt_K μ kind v → vh_c μ 52 = h → (∀ t, t < j → μ 64 (9 * x + t) = vc_key kind v h t) →
      ∃ μ', fX1_note_L24 n ((x : Int) * 9) (j : Int) μ = some (0, μ') ∧ vp_fr [64] μ μ' ∧ (∀ t, t < 9 → μ' 64 (9 * x + t) = vc_key kind v h t) ∧ (∀ q, q < 9 * x → μ' 64 q = μ 64 q) := by
  intro d
  induction d with
  | zero =>
    intro j n μ hd hn hK hc ht
    obtain ⟨n, rfl⟩ : ∃ m, n = m + 1 := ⟨n - 1, by omega⟩
    have e7 : μ 52 6 = h 5 1 := by rw [← hc]; rfl
    have e6 : ((x : Int) * 9 + 8).toNat = 9 * x + 8 := by omega
    refine ⟨vr_u μ 64 (9 * x + 8) (vc_key kind v h 8), ?_, vp_fr.u (by decide), fun t h9 => ?_, fun q hq => vp_uj (by omega)⟩
    · rw [fX1_note_L24.eq_2, if_pos (by omega), vc_turn hY hK hc hw, vp_bind, vp_gdT (by omega), e6]
      have : vc_key kind v h 8 = h 5 1 * 31 + vc_tn kind v h := rfl
      rw [this, e7]
    · by_cases e : t = 8
      · subst e; exact vp_us
      · rw [vp_uj (by omega)]
        exact ht t (by omega)
  | succ d ih =>
    intro j n μ hd hn hK hc ht
    obtain ⟨n, rfl⟩ : ∃ m, n = m + 1 := ⟨n - 1, by omega⟩
    have e3 : (j : Int) + 1 = ((j + 1 : Nat) : Int) := by omega
    have e6 : ((x : Int) * 9 + (j : Int)).toNat = 9 * x + j := by omega
    have fu : vp_fr [64] μ (vr_u μ 64 (9 * x + j) (vc_key kind v h j)) := vp_fr.u (by decide)
    obtain ⟨μ', g1, g2, g3, g4⟩ := ih (j + 1) n (vr_u μ 64 (9 * x + j) (vc_key kind v h j)) (by omega) (by omega) (hK.fr fu (by decide)) ((vh_c_fr (fun i hi => fu _ (by simp; omega))).trans hc) (fun t htj => by
      by_cases e : t = j
      · subst e; exact vp_us
      · rw [vp_uj (by omega)]
        exact ht t (by omega))
    refine ⟨μ', ?_, fu.tr g2, g3, fun q hq => by rw [g4 q hq, vp_uj (by omega)]⟩
    rw [fX1_note_L24.eq_2, if_neg (by omega), vc_mark (kind := kind) (v := v) hY hc hw (by omega), vp_bind, vp_gdT (by omega), vp_gdT (by omega), e6, e3, g1]
theorem vc_note {kind v Y : Int} {h : vh_H} (hY : Y ≤ 100000) (hw : vh_wf Y h) {x : Nat} (hx : x ≤ 200) {μ : vr_M} (hK : vt_K μ kind v) (hc : vh_c μ 52 = h) :
    ∃ μ', fX1_note (x : Int) μ = some (0, μ') ∧ vp_fr [64] μ μ' ∧ (∀ t, t < 9 → μ' 64 (9 * x + t) = vc_key kind v h t) ∧ (∀ q, q < 9 * x → μ' 64 q = μ 64 q) := by
  obtain ⟨μ', g⟩ := vc_noteL hY hw hx 8 0 9000 μ (by omega) (by omega) hK hc (fun t ht => by omega)
  refine ⟨μ', ?_, g.2⟩
  rw [fX1_note, vp_gdT (by omega), if_neg (by omega), vp_gdT (by omega), if_pos (by omega)]
  exact g.1
/-- the years noted: K i is the key of year i -/
def vc_sm (K : Nat → Nat → Int) (a b : Nat) : Bool := (List.range 9).all (fun j => decide (K a j = K b j))
theorem vc_sm_iff {K : Nat → Nat → Int} {a b : Nat} : vc_sm K a b = true ↔ ∀ j, j < 9 → K a j = K b j := by
  unfold vc_sm
  rw [List.all_eq_true]
  exact ⟨fun h j hj => of_decide_eq_true (h j (List.mem_range.mpr hj)), fun h j hj => decide_eq_true (h j (List.mem_range.mp hj))⟩
theorem vc_sameL {K : Nat → Nat → Int} {μ : vr_M} {a b : Nat} (ha : a ≤ 200) (hb : b ≤ 200) (hR : ∀ t, t < 9 → vr_R (K a t) ∧ vr_R (K b t)) (h1 : ∀ t, t < 9 → μ 64 (9 * a + t) = K a t) (h2 : ∀ t, t < 9 → μ 64 (9 * b + t) = K b t) :
    ∀ (d j n : Nat), j + d = 9 → d < n → (∀ t, t < j → K a t = K b t) → fX1_isSame_L14 n ((a : Int) * 9) ((b : Int) * 9) (j : Int) μ = some (if vc_sm K a b = true then 1 else 0, μ) := by
  intro d
  induction d with
  | zero =>
    intro j n hd hn ht
    obtain ⟨n, rfl⟩ : ∃ m, n = m + 1 := ⟨n - 1, by omega⟩
    rw [fX1_isSame_L14.eq_2, if_pos (by omega), if_pos (vc_sm_iff.mpr (fun t ht9 => ht t (by omega)))]
  | succ d ih =>
    intro j n hd hn ht
    obtain ⟨n, rfl⟩ : ∃ m, n = m + 1 := ⟨n - 1, by omega⟩
    have e3 : (j : Int) + 1 = ((j + 1 : Nat) : Int) := by omega
    have ea : ((a : Int) * 9 + (j : Int)).toNat = 9 * a + j := by omega
    have eb : ((b : Int) * 9 + (j : Int)).toNat = 9 * b + j := by omega
    obtain ⟨r1, r2⟩ := hR j (by omega)
    have q1 := h1 j (by omega)
    have q2 := h2 j (by omega)
    rw [fX1_isSame_L14.eq_2, if_neg (by omega), vp_gdT (by omega), if_neg (by omega), vp_gdT (by omega), if_neg (by omega), vp_gdT (by omega), vp_gdT (by omega), ea, eb]
    simp only [q1, q2]
    rw [vp_gdT r1, vp_gdT r2]
    by_cases c : K a j = K b j
    · rw [if_pos c, vp_gdT (by omega), e3, ih (j + 1) n (by omega) (by omega) (fun t htj => by
        by_cases e : t = j
        · subst e; exact c
        · exact ht t (by omega))]
    · rw [if_neg c, fX1_isSame_B68, if_neg (fun q => c (vc_sm_iff.mp q j (by omega)))]
theorem vc_same {K : Nat → Nat → Int} {μ : vr_M} {a b : Nat} (ha : a ≤ 200) (hb : b ≤ 200) (hR : ∀ t, t < 9 → vr_R (K a t) ∧ vr_R (K b t)) (h1 : ∀ t, t < 9 → μ 64 (9 * a + t) = K a t) (h2 : ∀ t, t < 9 → μ 64 (9 * b + t) = K b t) :
    fX1_isSame (a : Int) (b : Int) μ = some (if vc_sm K a b = true then 1 else 0, μ) := by
  rw [fX1_isSame, vp_gdT (by omega), vp_gdT (by omega)]
  exact vc_sameL ha hb hR h1 h2 9 0 9000 (by omega) (by omega) (fun t ht => by omega)
def vc_fl (K : Nat → Nat → Int) (x : Nat) : Nat → Nat → Nat
  | 0, i => i
  | d + 1, i => if vc_sm K i x = true then i else vc_fl K x d (i + 1)
theorem vc_fl_in {K : Nat → Nat → Int} {x : Nat} : ∀ (d i : Nat), i ≤ vc_fl K x d i ∧ vc_fl K x d i ≤ i + d
  | 0, i => ⟨Nat.le_refl _, Nat.le_refl _⟩
  | d + 1, i => by
    rw [vc_fl]
    split
    · omega
    · have := vc_fl_in (K := K) (x := x) d (i + 1)
      omega
theorem vc_firstL {K : Nat → Nat → Int} {μ : vr_M} {x : Nat} (hx : x ≤ 200) (hR : ∀ a t, a ≤ 200 → t < 9 → vr_R (K a t)) (h1 : ∀ a t, a ≤ x → t < 9 → μ 64 (9 * a + t) = K a t) :
    ∀ (d i n : Nat), i + d = x → d < n → fX1_firstLike_L2 n (x : Int) (i : Int) μ = some (((vc_fl K x d i : Nat) : Int), μ) := by
  intro d
  induction d with
  | zero =>
    intro i n hd hn
    obtain ⟨n, rfl⟩ : ∃ m, n = m + 1 := ⟨n - 1, by omega⟩
    rw [fX1_firstLike_L2.eq_2, if_pos (by omega), vc_fl, show x = i by omega]
  | succ d ih =>
    intro i n hd hn
    obtain ⟨n, rfl⟩ : ∃ m, n = m + 1 := ⟨n - 1, by omega⟩
    have e3 : (i : Int) + 1 = ((i + 1 : Nat) : Int) := by omega
    have s := vc_same (K := K) (μ := μ) (a := i) (b := x) (by omega) hx (fun t ht => ⟨hR i t (by omega) ht, hR x t hx ht⟩) (fun t ht => h1 i t (by omega) ht) (fun t ht => h1 x t (by omega) ht)
    by_cases c : vc_sm K i x = true
    · rw [if_pos c] at s
      rw [fX1_firstLike_L2.eq_2, if_neg (by omega), s, vp_bind, vc_fl, if_pos c, if_neg (show ¬ (1 : Int) = 0 by decide)]
    · rw [if_neg c] at s
      rw [fX1_firstLike_L2.eq_2, if_neg (by omega), s, vp_bind, vc_fl, if_neg c, if_pos rfl, vp_gdT (by omega), e3, ih (i + 1) n (by omega) (by omega)]
/-- the hills year by year, the keys, the harvests -/
def vc_H (kind v : Int) (cl : vl_C) (wk mv gr : Int) (h : vh_H) : Nat → vh_H
  | 0 => h
  | i + 1 => vy_h kind v cl wk mv gr 0 (vc_H kind v cl wk mv gr h i)
def vc_K (kind v : Int) (cl : vl_C) (wk mv gr : Int) (h : vh_H) (i : Nat) : Nat → Int := vc_key kind v (vc_H kind v cl wk mv gr h i)
def vc_hv (kind v : Int) (cl : vl_C) (wk mv gr : Int) (h : vh_H) (i : Nat) : Int := vh_ha cl wk mv (vy_s kind v cl wk mv (vc_H kind v cl wk mv gr h i)) (vy_to kind v cl wk mv (vc_H kind v cl wk mv gr h i)) (vc_H kind v cl wk mv gr h i)
def vc_cl (K : Nat → Nat → Int) : Nat → Nat → Option (Nat × Nat)
  | 0, _ => none
  | d + 1, x => if vc_fl K x x 0 < x then some (vc_fl K x x 0, x) else vc_cl K d (x + 1)
theorem vc_closeL {h0 : vh_H} {cl : vl_C} {wk mv gr dr kind v Y : Int} (hY : Y ≤ 99000) (hwf : ∀ i : Nat, i ≤ 201 → vh_wf (Y + i) (vc_H kind v cl wk mv gr h0 i)) :
    ∀ (d x n : Nat) (μ : vr_M), x + d = 201 → d < n → vt_L μ cl wk mv gr dr → vt_K μ kind v → vt_H μ (vc_H kind v cl wk mv gr h0 x) cl (Y + x) → vt_R (μ 51) x →
      (∀ a t, a < x → t < 9 → μ 64 (9 * a + t) = vc_K kind v cl wk mv gr h0 a t) → (∀ a, a < x → μ 65 a = vc_hv kind v cl wk mv gr h0 a) →
      ∃ μ', vp_fr (63 :: 64 :: 65 :: vt_TR) μ μ' ∧ μ' 62 0 = 0 ∧
        ((vc_cl (vc_K kind v cl wk mv gr h0) d x = none ∧ fX1_closes_L2 n (x : Int) μ = some (0, μ')) ∨
         (∃ s e : Nat, vc_cl (vc_K kind v cl wk mv gr h0) d x = some (s, e) ∧ s < e ∧ e ≤ 200 ∧ fX1_closes_L2 n (x : Int) μ = some (1, μ') ∧ μ' 63 3 = (s : Int) ∧ μ' 63 4 = (e : Int) ∧ ∀ a, a < e → μ' 65 a = vc_hv kind v cl wk mv gr h0 a)) := by
  intro d
  induction d with
  | zero =>
    intro x n μ hd hn hL hK hH hT hk hv
    obtain ⟨n, rfl⟩ : ∃ m, n = m + 1 := ⟨n - 1, by omega⟩
    exact ⟨μ, vp_fr.rf, hH.2.2.2, Or.inl ⟨rfl, by rw [fX1_closes_L2.eq_2, if_pos (by omega)]⟩⟩
  | succ d ih =>
    intro x n μ hd hn hL hK hH hT hk hv
    obtain ⟨n, rfl⟩ : ∃ m, n = m + 1 := ⟨n - 1, by omega⟩
    have hx : x ≤ 200 := by omega
    have e3 : (x : Int) + 1 = ((x + 1 : Nat) : Int) := by omega
    obtain ⟨μ1, a1, a2, a3, a4⟩ := vc_note (by omega) hH.2.1 hx hK hH.1
    have hk1 : ∀ a t, a ≤ x → t < 9 → μ1 64 (9 * a + t) = vc_K kind v cl wk mv gr h0 a t := fun a t ha ht => by
      by_cases e : a = x
      · subst e; exact a3 t ht
      · rw [a4 _ (by omega)]; exact hk a t (by omega) ht
    have hR : ∀ a t, a ≤ 200 → t < 9 → vr_R (vc_K kind v cl wk mv gr h0 a t) := fun a t ha ht => vc_key_in (Y := Y + a) (by omega) hK.2.2.2 (hwf a (by omega)) ht
    have b1 := vc_firstL hx hR hk1 x 0 9000 (by omega) (by omega)
    have b1' : fX1_firstLike (x : Int) μ1 = some (((vc_fl (vc_K kind v cl wk mv gr h0) x x 0 : Nat) : Int), μ1) := b1
    have fl := vc_fl_in (K := vc_K kind v cl wk mv gr h0) (x := x) x 0
    have f1 : vp_fr (63 :: 64 :: 65 :: vt_TR) μ μ1 := a2.mono (by decide)
    have e0 : fX1_closes_L2 (n + 1) (x : Int) μ = if (x : Int) ≤ ((vc_fl (vc_K kind v cl wk mv gr h0) x x 0 : Nat) : Int) then if 200 ≤ (x : Int) then fX1_closes_B66 (fX1_closes_L2 n) (x : Int) μ1 else (fX7_spendYears 1 0 μ1).bind (fun r4 => vr_gd (0 ≤ (x : Int) ∧ (x : Int) < 200) (fX1_closes_B66 (fX1_closes_L2 n) (x : Int) (vr_u r4.2 65 ((x : Int)).toNat (r4.2 51 8)))) else some (1, vr_u (vr_u μ1 63 3 ((vc_fl (vc_K kind v cl wk mv gr h0) x x 0 : Nat) : Int)) 63 4 (x : Int)) := by
      rw [fX1_closes_L2.eq_2, if_neg (by omega), a1, vp_bind, b1', vp_bind]
    rw [e0]
    by_cases c : vc_fl (vc_K kind v cl wk mv gr h0) x x 0 < x
    · have fu : vp_fr (63 :: 64 :: 65 :: vt_TR) μ1 (vr_u (vr_u μ1 63 3 ((vc_fl (vc_K kind v cl wk mv gr h0) x x 0 : Nat) : Int)) 63 4 (x : Int)) := (vp_fr.u (by decide)).tr (vp_fr.u (by decide))
      refine ⟨_, f1.tr fu, ?_, Or.inr ⟨vc_fl (vc_K kind v cl wk mv gr h0) x x 0, x, ?_, c, hx, ?_, ?_, vp_us, fun a ha => ?_⟩⟩
      · rw [vp_un (by decide), vp_un (by decide), a2 62 (by decide)]
        exact hH.2.2.2
      · rw [vc_cl, if_pos c]
      · rw [if_neg (by omega)]
      · rw [vp_uj (by decide), vp_us]
      · rw [vp_un (by decide), vp_un (by decide), a2 65 (by decide)]
        exact hv a ha
    · rw [if_pos (by omega), vc_cl, if_neg c]
      by_cases c2 : 200 ≤ (x : Int)
      · have : d = 0 := by omega
        subst this
        obtain ⟨n, rfl⟩ : ∃ m, n = m + 1 := ⟨n - 1, by omega⟩
        refine ⟨μ1, f1, by rw [a2 62 (by decide)]; exact hH.2.2.2, Or.inl ⟨rfl, ?_⟩⟩
        rw [if_pos c2, fX1_closes_B66, vp_gdT (by omega), fX1_closes_L2.eq_2, if_pos (by omega)]
      · have hL1 := hL.fr a2 (by intro i hi; simp; omega)
        have hK1 := hK.fr a2 (by decide)
        have hH1 := hH.fr a2 (by intro i hi; simp; omega) (by decide) (by rw [a2 62 (by decide)]; exact hH.2.2.2)
        have hT1 : vt_R (μ1 51) x := by rw [a2 51 (by decide)]; exact hT
        obtain ⟨μ2, k1, k2, k3, k4, k5, k6, k7⟩ := vt_yearsL (gr := gr) (x1 := 1) (gw := 0) (by omega) 1 0 9000 μ1 _ (Y + x) x (by omega) (by omega) (by omega) (by omega) hL1 hK1 hH1 hT1
        have k1' : fX7_spendYears 1 0 μ1 = some (0, μ2) := k1
        have k8 : μ2 51 8 = vc_hv kind v cl wk mv gr h0 x := by rw [k4]; rfl
        have fu : vp_fr [65] μ2 (vr_u μ2 65 x (μ2 51 8)) := vp_fr.u (by decide)
        have f3 : vp_fr (63 :: 64 :: 65 :: vt_TR) μ1 (vr_u μ2 65 x (μ2 51 8)) := (k2.mono (by decide)).tr (fu.mono (by decide))
        have k3' : vt_H μ2 (vc_H kind v cl wk mv gr h0 (x + 1)) cl (Y + ((x + 1 : Nat) : Int)) := by
          rw [show Y + ((x + 1 : Nat) : Int) = Y + (x : Int) + ((1 : Nat) : Int) by omega]
          exact k3
        obtain ⟨μ', g1, g2, g3⟩ := ih (x + 1) n (vr_u μ2 65 x (μ2 51 8)) (by omega) (by omega) (k6.fr fu (by intro i hi; simp; omega)) (k7.fr fu (by decide)) (k3'.fr fu (by intro i hi; simp; omega) (by decide) (by rw [fu 62 (by decide)]; exact k3'.2.2.2)) (by
            rw [fu 51 (by decide), show (((x + 1 : Nat)) : Int) = (x : Int) + ((1 : Nat) : Int) by omega]
            exact k5) (fun a t ha ht => by
            rw [fu 64 (by decide), k2 64 (by decide)]
            exact hk1 a t (by omega) ht) (fun a ha => by
            by_cases e : a = x
            · subst e; rw [vp_us, k8]
            · rw [vp_uj e, k2 65 (by decide), a2 65 (by decide)]
              exact hv a (by omega))
        refine ⟨μ', (f1.tr f3).tr g1, g2, ?_⟩
        have e1 : (if 200 ≤ (x : Int) then fX1_closes_B66 (fX1_closes_L2 n) (x : Int) μ1 else (fX7_spendYears 1 0 μ1).bind (fun r4 => vr_gd (0 ≤ (x : Int) ∧ (x : Int) < 200) (fX1_closes_B66 (fX1_closes_L2 n) (x : Int) (vr_u r4.2 65 ((x : Int)).toNat (r4.2 51 8))))) = fX1_closes_L2 n ((x + 1 : Nat) : Int) (vr_u μ2 65 x (μ2 51 8)) := by
          rw [if_neg c2, k1', vp_bind, vp_gdT (by omega), fX1_closes_B66, vp_gdT (by omega), e3]
          rfl
        rw [e1]
        exact g3
def vc_lh (hv : Nat → Int) : Nat → Nat → Int → Int
  | 0, _, m => m
  | d + 1, i, m => vc_lh hv d (i + 1) (min m (hv i))
theorem vc_leastL {μ : vr_M} {hv : Nat → Int} {e : Nat} (he : e ≤ 200) (h4 : μ 63 4 = (e : Int)) (hh : ∀ a, a < e → μ 65 a = hv a) (hR : ∀ a, a < e → vr_R (hv a)) :
    ∀ (d i n : Nat) (m : Int), i + d = e → d < n → vr_R m → fX1_leastHarvest_L29 n m (i : Int) μ = some (vc_lh hv d i m, μ) := by
  intro d
  induction d with
  | zero =>
    intro i n m hd hn hm
    obtain ⟨n, rfl⟩ : ∃ q, n = q + 1 := ⟨n - 1, by omega⟩
    rw [fX1_leastHarvest_L29.eq_2, vp_gdT (by omega), if_pos (by omega), fX1_leastHarvest_B61]
    rfl
  | succ d ih =>
    intro i n m hd hn hm
    obtain ⟨n, rfl⟩ : ∃ q, n = q + 1 := ⟨n - 1, by omega⟩
    have e3 : (i : Int) + 1 = ((i + 1 : Nat) : Int) := by omega
    have h1 := hh i (by omega)
    have h2 := hR i (by omega)
    have h3 : vr_R (min m (hv i)) := by omega
    rw [fX1_leastHarvest_L29.eq_2, vp_gdT (by omega), if_neg (by omega), if_neg (by omega), vp_gdT (by omega)]
    simp only [show ((i : Int)).toNat = i from rfl, h1]
    rw [vp_gdT h2, vp_gdT h3, vp_gdT (by omega), e3, ih (i + 1) n _ (by omega) (by omega) h3]
    rfl
theorem vc_least {μ : vr_M} {hv : Nat → Int} {s e : Nat} (hs : s < e) (he : e ≤ 200) (h3 : μ 63 3 = (s : Int)) (h4 : μ 63 4 = (e : Int)) (hh : ∀ a, a < e → μ 65 a = hv a) (hR : ∀ a, a < e → vr_R (hv a)) :
    fX1_leastHarvest μ = some (vc_lh hv (e - s) s 2147483647, μ) := by
  have r0 : vr_R (hv s) := hR s hs
  have l := vc_leastL he h4 hh hR (e - s) s 9000 (hv s) (by omega) (by omega) r0
  have e1 : vc_lh hv (e - s) s (hv s) = vc_lh hv (e - s) s 2147483647 := by
    obtain ⟨d, hd⟩ : ∃ d, e - s = d + 1 := ⟨e - s - 1, by omega⟩
    rw [hd, vc_lh, vc_lh, show min (hv s) (hv s) = hv s by omega, show min (2147483647 : Int) (hv s) = hv s by omega]
  unfold fX1_leastHarvest
  simp only [h3]
  rw [vp_gdT (by omega), vp_gdT (by omega), show max (s : Int) 0 = (s : Int) by omega, if_neg (by omega), vp_gdT (by omega)]
  simp only [show ((s : Int)).toNat = s from rfl, hh s hs]
  rw [vp_gdT r0, fX1_leastHarvest_B26, l, e1]
