def vgm_S (t : Nat → Int) (e A : Nat) (μ : vr_M) (p u : Nat) (a : List Int) : Prop := (μ 68 6 = (p : Int) ∧ μ 68 7 = (e : Int) ∧ μ 68 8 = 0 ∧ μ 68 5 = (A : Int)) ∧ (∀ i, i < e → μ 69 (10 + i) = t i ∧ 0 ≤ t i ∧ t i ≤ 255) ∧ μ 69 (228 + A) = ((u + a.length : Nat) : Int) ∧ (∀ i, i < a.length → μ 69 (233 + 140 * A + u + i) = vm_e (a.getD i 0)) ∧ p ≤ e ∧ e ≤ 120 ∧ A ≤ 4
def vgm_K (A : Nat) (μ μ' : vr_M) : Prop := vp_fr [68, 69] μ μ' ∧ (∀ j, j ≠ 6 → j ≠ 8 → j ≠ 9 → μ' 68 j = μ 68 j) ∧ ∀ j, j ≠ 228 + A → ¬ (233 + 140 * A ≤ j ∧ j < 373 + 140 * A) → μ' 69 j = μ 69 j
theorem vgm_K.rf {A : Nat} {μ : vr_M} : vgm_K A μ μ := ⟨vp_fr.rf, fun _ _ _ _ => rfl, fun _ _ _ => rfl⟩
theorem vgm_K.tr {A : Nat} {μ μ1 μ' : vr_M} (h : vgm_K A μ μ1) (g : vgm_K A μ1 μ') : vgm_K A μ μ' := ⟨h.1.tr g.1, fun j h1 h2 h3 => (g.2.1 j h1 h2 h3).trans (h.2.1 j h1 h2 h3), fun j h1 h2 => (g.2.2 j h1 h2).trans (h.2.2 j h1 h2)⟩
theorem vgm_K.u {A : Nat} {μ : vr_M} {j : Nat} {v : Int} (hj : j = 6 ∨ j = 8 ∨ j = 9) : vgm_K A μ (vr_u μ 68 j v) := ⟨vp_fr.u (by decide), fun i h1 h2 h3 => by rw [vp_uj (by omega)], fun i _ _ => by rw [vp_un (by decide)]⟩
/-- it is wrong at q -/
def vgm_F (e : Nat) (μ : vr_M) (q : Nat) : Prop := μ 68 8 = 1 ∧ μ 68 6 = (q : Int) ∧ q ≤ e
def vgm_R (t : Nat → Int) (e A u : Nat) (a : List Int) (μ μ' : vr_M) : vg_P → Prop
  | (q, none) => vgm_F e μ' q ∧ vgm_K A μ μ' ∧ μ' 68 9 = μ 68 9
  | (q, some ts) => vgm_S t e A μ' q u (a ++ ts) ∧ vgm_K A μ μ' ∧ μ' 68 9 = μ 68 9 ∧ ∀ j, 233 + 140 * A ≤ j → j < 233 + 140 * A + u → μ' 69 j = μ 69 j
theorem vgm_hereC {t : Nat → Int} {e p : Nat} {μ : vr_M} (h6 : μ 68 6 = (p : Int)) (h7 : μ 68 7 = (e : Int)) (ht : ∀ i, i < e → μ 69 (10 + i) = t i ∧ 0 ≤ t i ∧ t i ≤ 255) (he : e ≤ 120) (hp : p ≤ 1000) : fX10_here μ = some (vg_C t e p, μ) := by
  unfold fX10_here fX10_here_B27 vg_C
  simp only [h6, h7]
  rw [vp_gdT (by omega), vp_gdT (by omega)]
  by_cases c : p < e
  · have q := ht p c
    rw [if_neg (by omega), if_pos c, vp_gdT (by omega), show (10 + (p : Int)).toNat = 10 + p by omega]
    simp only [q.1]
    rw [vp_gdT (by omega)]
  · rw [if_pos (by omega), if_neg c]
theorem vgm_here {t : Nat → Int} {e A p u : Nat} {a : List Int} {μ : vr_M} (h : vgm_S t e A μ p u a) : fX10_here μ = some (vg_C t e p, μ) := by
  have := h.2.2.2.2
  exact vgm_hereC h.1.1 h.1.2.1 h.2.1 (by omega) (by omega)
theorem vgm_st {t : Nat → Int} {e A p u : Nat} {a : List Int} {μ μ' : vr_M} {q : Nat} (h : vgm_S t e A μ p u a) (e69 : μ' 69 = μ 69) (s6 : μ' 68 6 = (q : Int)) (s7 : μ' 68 7 = μ 68 7) (s8 : μ' 68 8 = 0) (s5 : μ' 68 5 = μ 68 5) (hq : q ≤ e) : vgm_S t e A μ' q u a := by
  obtain ⟨⟨h1, h2, h3, h4⟩, h5, h6, h7, h8, h9⟩ := h
  refine ⟨⟨s6, s7.trans h2, s8, s5.trans h4⟩, ?_, ?_, ?_, hq, h9⟩
  · rw [e69]; exact h5
  · rw [e69]; exact h6
  · rw [e69]; exact h7
theorem vgm_emitF {x : Int} {μ : vr_M} (h : μ 68 8 = 1) : fX10_emits x μ = some (0, μ) := by
  unfold fX10_emits fX10_emits_B56
  rw [h, vp_gdT (by decide), if_pos (by decide)]
theorem vgm_emit {t : Nat → Int} {e A p u : Nat} {a : List Int} {x y : Int} {μ : vr_M} (h : vgm_S t e A μ p u a) (hl : u + a.length < 140) (hx : y = vm_e x) : ∃ μ', fX10_emits y μ = some (0, μ') ∧ vgm_S t e A μ' p u (a ++ [x]) ∧ vgm_K A μ μ' ∧ μ' 68 9 = μ 68 9 ∧ ∀ j, 233 + 140 * A ≤ j → j < 233 + 140 * A + u → μ' 69 j = μ 69 j := by
  obtain ⟨⟨h1, h2, h3, h4⟩, h5, h6, h7, h8, h9, hA⟩ := h
  have eA : (228 + (A : Int)).toNat = 228 + A := by omega
  have eB : (233 + 140 * (A : Int) + ((u + a.length : Nat) : Int)).toNat = 233 + 140 * A + u + a.length := by omega
  generalize hM : vr_u (vr_u μ 69 (233 + 140 * A + u + a.length) y) 69 (228 + A) ((u + a.length + 1 : Nat) : Int) = M
  have f : vp_fr [69] μ M := by rw [← hM]; exact (vp_fr.u (by decide)).tr (vp_fr.u (by decide))
  have E : ∀ j, j ≠ 228 + A → j ≠ 233 + 140 * A + u + a.length → M 69 j = μ 69 j := fun j j1 j2 => by rw [← hM, vp_uj j1, vp_uj j2]
  have e68 : M 68 = μ 68 := f 68 (by decide)
  refine ⟨M, ?_, ⟨⟨by rw [e68]; exact h1, by rw [e68]; exact h2, by rw [e68]; exact h3, by rw [e68]; exact h4⟩, fun i hi => ?_, ?_, fun i hi => ?_, h8, h9, hA⟩, ⟨f.mono (by decide), fun j _ _ _ => by rw [e68], fun j j1 j2 => E j j1 (by omega)⟩, by rw [e68], fun j j1 j2 => E j (by omega) (by omega)⟩
  · unfold fX10_emits fX10_emits_B56
    simp only [h3, h4, eA, h6, eB]
    rw [vp_gdT (by decide), if_neg (by decide), vp_gdT (by omega), vp_gdT (by omega), vp_let]
    have n5 : vr_u μ 69 (233 + 140 * A + u + a.length) y 68 5 = (A : Int) := by rw [vp_un (by decide), h4]
    have n8 : vr_u μ 69 (233 + 140 * A + u + a.length) y 69 (228 + A) = ((u + a.length : Nat) : Int) := by rw [vp_uj (by omega), h6]
    simp only [n5, eA, n8]
    rw [vp_gdT (by omega), show ((u + a.length : Nat) : Int) + 1 = ((u + a.length + 1 : Nat) : Int) by omega, hM]
  · rw [E _ (by omega) (by omega)]; exact h5 i hi
  · rw [← hM, vp_us]; simp; omega
  · simp only [List.length_append, List.length_cons, List.length_nil] at hi
    by_cases z : i = a.length
    · subst z
      rw [← hM, vp_uj (by omega), vp_us, hx]
      simp [List.getD, List.getElem?_append]
    · have hi2 : i < a.length := by omega
      rw [E _ (by omega) (by omega), h7 i hi2]
      simp [List.getD, List.getElem?_append, hi2]
theorem vgm_amongL {t : Nat → Int} {e p s : Nat} {μ : vr_M} (hs : s < 17) (h6 : μ 68 6 = (p : Int)) (h7 : μ 68 7 = (e : Int)) (ht : ∀ i, i < e → μ 69 (10 + i) = t i ∧ 0 ≤ t i ∧ t i ≤ 255) (he : e ≤ 120) (hp : p ≤ 1000) : ∀ (d i n : Nat), i + d = (vg_L s).length → d < n → fX10_among_L2 s n (i : Int) μ = some (vg_ix ((vg_L s).drop i) (vg_C t e p) i, if vg_ix ((vg_L s).drop i) (vg_C t e p) i < 0 then μ else vr_u μ 68 6 ((p + 1 : Nat) : Int)) := by
  have hl := vg_L_len s
  have h10 := (vg_L_in hs).1
  intro d
  induction d with
  | zero =>
    intro i n hd hn
    obtain ⟨n, rfl⟩ : ∃ m, n = m + 1 := ⟨n - 1, by omega⟩
    rw [fX10_among_L2.eq_2, vg_len hs, vp_bind, if_pos (by omega), List.drop_of_length_le (by omega)]
    rfl
  | succ d ih =>
    intro i n hd hn
    obtain ⟨n, rfl⟩ : ∃ m, n = m + 1 := ⟨n - 1, by omega⟩
    have e3 : (i : Int) + 1 = ((i + 1 : Nat) : Int) := by omega
    have hi : i < (vg_L s).length := by omega
    have hg : (vg_L s).getD i 0 = (vg_L s)[i] := by rw [List.getD_eq_getElem?_getD, List.getElem?_eq_getElem hi]; rfl
    rw [fX10_among_L2.eq_2, vg_len hs, vp_bind, if_neg (by omega), vgm_hereC h6 h7 ht he hp, vp_bind]
    dsimp only
    rw [vg_ch hs hi, vp_bind, hg, List.drop_eq_getElem_cons hi, vg_ix]
    dsimp only
    by_cases q : (vg_L s)[i] = vg_C t e p
    · rw [if_neg (fun z => z q.symm), if_pos q, if_neg (by omega), h6, show (p : Int) + 1 = ((p + 1 : Nat) : Int) by omega]
    · rw [if_pos (fun z => q z.symm), if_neg q, vp_gdT (by omega), e3, ih (i + 1) n (by omega) (by omega)]
theorem vg_L11 : vg_L 11 = [99, 121, 115, 119, 112] := by decide
theorem vg_L12 : vg_L 12 = [60, 61, 62] := by decide
theorem vgm_among11 {t : Nat → Int} {e p : Nat} {μ : vr_M} (h6 : μ 68 6 = (p : Int)) (h7 : μ 68 7 = (e : Int)) (ht : ∀ i, i < e → μ 69 (10 + i) = t i ∧ 0 ≤ t i ∧ t i ≤ 255) (he : e ≤ 120) (hp : p ≤ 1000) : fX10_among 11 μ = some (vg_lt (vg_C t e p), if vg_lt (vg_C t e p) < 0 then μ else vr_u μ 68 6 ((p + 1 : Nat) : Int)) := by
  have h := vgm_amongL (s := 11) (by decide) h6 h7 ht he hp (vg_L 11).length 0 9000 (by omega) (by rw [vg_L11]; decide)
  rw [List.drop_zero, vg_L11] at h
  exact h
theorem vgm_among12 {t : Nat → Int} {e p : Nat} {μ : vr_M} (h6 : μ 68 6 = (p : Int)) (h7 : μ 68 7 = (e : Int)) (ht : ∀ i, i < e → μ 69 (10 + i) = t i ∧ 0 ≤ t i ∧ t i ≤ 255) (he : e ≤ 120) (hp : p ≤ 1000) : fX10_among 12 μ = some (vg_sg (vg_C t e p), if vg_sg (vg_C t e p) < 0 then μ else vr_u μ 68 6 ((p + 1 : Nat) : Int)) := by
  have h := vgm_amongL (s := 12) (by decide) h6 h7 ht he hp (vg_L 12).length 0 9000 (by omega) (by rw [vg_L12]; decide)
  rw [List.drop_zero, vg_L12] at h
  exact h
theorem vgm_figF {μ : vr_M} (h : μ 68 8 = 1) : fX10_figures μ = some (0, vr_u μ 68 8 1) := by
  unfold fX10_figures fX10_figures_B22 fX10_figures_B27
  rw [h, vp_gdT (by decide), if_pos (by decide), vp_gdT (by decide), show 9000 = 8999 + 1 from rfl, fX10_figures_L34.eq_2, if_neg (by decide), vp_us, vp_gdT (by decide), if_pos (by decide)]
  rfl
/-- a number; wrong, if there is none -/
theorem vgm_fig {t : Nat → Int} {e p : Nat} {μ : vr_M} (h6 : μ 68 6 = (p : Int)) (h7 : μ 68 7 = (e : Int)) (h8 : μ 68 8 = 0) (ht : ∀ i, i < e → μ 69 (10 + i) = t i ∧ 0 ≤ t i ∧ t i ≤ 255) (he : e ≤ 120) (hp : p ≤ 900) :
    ∃ μ', fX10_figures μ = some (if vg_nv (vg_C t e) p < 0 then 0 else vg_nv (vg_C t e) p, μ') ∧ vp_fr [68] μ μ' ∧ (∀ j, j ≠ 6 → j ≠ 8 → μ' 68 j = μ 68 j) ∧ μ' 68 6 = ((vg_np (vg_C t e) p : Nat) : Int) ∧ μ' 68 8 = if vg_nv (vg_C t e) p < 0 then 1 else 0 := by
  have hh := vgm_hereC h6 h7 ht he (show p ≤ 1000 by omega)
  have hd : ∀ x, vg_d x < 0 ↔ ¬ (48 ≤ x ∧ x ≤ 57) := fun x => by unfold vg_d; split <;> omega
  have hv : ∀ x, 48 ≤ x ∧ x ≤ 57 → vg_d x = x - 48 := fun x hx => by unfold vg_d; rw [if_pos hx]
  unfold fX10_figures fX10_figures_B22 fX10_figures_B27
  simp only [h8]
  rw [vp_gdT (by decide), if_neg (fun q => q trivial), hh, vp_bind, vm_in, vp_bind]
  dsimp only
  unfold vg_nv vg_np
  by_cases c : 48 ≤ vg_C t e p ∧ vg_C t e p ≤ 57
  · have nc : ¬ vg_d (vg_C t e p) < 0 := fun q => (hd _).mp q c
    have v0 := hv _ c
    rw [if_pos c, if_pos vz_T1, vp_gdT (by decide), if_neg nc, if_neg nc]
    generalize hM : vr_u μ 68 8 0 = M
    have f : vp_fr [68] μ M := by rw [← hM]; exact vp_fr.u (by decide)
    have s : ∀ j, j ≠ 8 → M 68 j = μ 68 j := fun j hj => by rw [← hM, vp_uj hj]
    have M6 : M 68 6 = (p : Int) := by rw [s 6 (by decide), h6]
    have M7 : M 68 7 = (e : Int) := by rw [s 7 (by decide), h7]
    have M8 : M 68 8 = 0 := by rw [← hM, vp_us]
    have Mt : ∀ i, i < e → M 69 (10 + i) = t i ∧ 0 ≤ t i ∧ t i ≤ 255 := fun i hi => by rw [f 69 (by decide)]; exact ht i hi
    have hM1 := vgm_hereC M6 M7 Mt he (show p ≤ 1000 by omega)
    generalize hN : vr_u M 68 6 ((p + 1 : Nat) : Int) = N
    have fN : vp_fr [68] M N := by rw [← hN]; exact vp_fr.u (by decide)
    have sN : ∀ j, j ≠ 6 → N 68 j = M 68 j := fun j hj => by rw [← hN, vp_uj hj]
    have N6 : N 68 6 = ((p + 1 : Nat) : Int) := by rw [← hN, vp_us]
    have N7 : N 68 7 = (e : Int) := by rw [sN 7 (by decide), M7]
    have N8 : N 68 8 = 0 := by rw [sN 8 (by decide), M8]
    have Nt : ∀ i, i < e → N 69 (10 + i) = t i ∧ 0 ≤ t i ∧ t i ≤ 255 := fun i hi => by rw [fN 69 (by decide)]; exact Mt i hi
    have hN1 := vgm_hereC N6 N7 Nt he (show p + 1 ≤ 1000 by omega)
    have e1 : fX10_figures_L34 9000 0 0 M = fX10_figures_L34 8999 (vg_d (vg_C t e p)) 1 N := by
      rw [show 9000 = 8999 + 1 from rfl, fX10_figures_L34.eq_2, if_neg (by decide), M8, vp_gdT (by decide), if_neg (fun q => q rfl), hM1, vp_bind, vm_in, if_pos c, vp_bind, if_neg vz_T1, if_pos rfl]
      unfold fX10_figures_B68
      dsimp only
      rw [hM1, vp_bind]
      dsimp only
      rw [vp_gdT (by omega), vp_gdT (by decide), M6, show (p : Int) + 1 = ((p + 1 : Nat) : Int) by omega, hN, v0, show 10 * (0 : Int) + vg_C t e p - 48 = vg_C t e p - 48 by omega]
      rfl
    have e2 : fX10_figures_L34 8999 (vg_d (vg_C t e p)) 1 N = (fX10_in (vg_C t e (p + 1)) 48 57 N).bind (fun r6 => if r6.1 = 0 then fX10_figures_B97 (vg_d (vg_C t e p)) r6.2 else if (1 : Int) = 0 then fX10_figures_B68 (fX10_figures_L34 8998) (vg_d (vg_C t e p)) 1 r6.2 else if vg_d (vg_C t e p) ≤ 0 then fX10_figures_B97 (vg_d (vg_C t e p)) r6.2 else fX10_figures_B68 (fX10_figures_L34 8998) (vg_d (vg_C t e p)) 1 r6.2) := by
      rw [show 8999 = 8998 + 1 from rfl, fX10_figures_L34.eq_2, if_neg (by decide), N8, vp_gdT (by decide), if_neg (fun q => q rfl), hN1, vp_bind]
    have fMN : vp_fr [68] μ N := f.tr fN
    have sMN : ∀ j, j ≠ 6 → j ≠ 8 → N 68 j = μ 68 j := fun j h1 h2 => (sN j h1).trans (s j h2)
    rw [e1, e2, vm_in, vp_bind]
    unfold fX10_figures_B97
    dsimp only
    by_cases c2 : vg_d (vg_C t e p) = 0
    · refine ⟨N, ?_, fMN, sMN, ?_, ?_⟩
      · by_cases c3 : 48 ≤ vg_C t e (p + 1) ∧ vg_C t e (p + 1) ≤ 57
        · rw [if_pos c3, if_neg vz_T1, if_neg (by decide), if_pos (by omega), if_pos c2, if_neg (by decide), c2]
        · rw [if_neg c3, if_pos rfl, if_pos c2, if_neg (by decide), c2]
      · rw [if_pos c2]; exact N6
      · rw [if_pos c2, if_neg (by decide)]; exact N8
    · rw [if_neg c2, if_neg c2]
      by_cases c3 : 48 ≤ vg_C t e (p + 1) ∧ vg_C t e (p + 1) ≤ 57
      · have nc3 : ¬ vg_d (vg_C t e (p + 1)) < 0 := fun q => (hd _).mp q c3
        have v1 := hv _ c3
        refine ⟨vr_u N 68 6 ((p + 2 : Nat) : Int), ?_, fMN.tr (vp_fr.u (by decide)), fun j h1 h2 => by rw [vp_uj h1]; exact sMN j h1 h2, by rw [if_neg nc3]; exact vp_us, ?_⟩
        · rw [if_pos c3, if_neg vz_T1, if_neg (by decide), if_neg (by omega), if_neg nc3, if_neg (by omega)]
          unfold fX10_figures_B68
          rw [hN1, vp_bind]
          dsimp only
          rw [vp_gdT (by omega), vp_gdT (by decide), N6, show ((p + 1 : Nat) : Int) + 1 = ((p + 2 : Nat) : Int) by omega, show 8998 = 8997 + 1 from rfl, fX10_figures_L34.eq_2, if_pos (by decide)]
          unfold fX10_figures_B97
          rw [v1, show 10 * vg_d (vg_C t e p) + vg_C t e (p + 1) - 48 = vg_d (vg_C t e p) * 10 + (vg_C t e (p + 1) - 48) by omega]
        · rw [vp_uj (by decide), N8, if_neg nc3, if_neg (by omega)]
      · have yc3 : vg_d (vg_C t e (p + 1)) < 0 := (hd _).mpr c3
        refine ⟨N, ?_, fMN, sMN, by rw [if_pos yc3]; exact N6, ?_⟩
        · rw [if_neg c3, if_pos rfl, if_pos yc3, if_neg (by omega)]
        · rw [N8, if_pos yc3, if_neg (by omega)]
  · have yc : vg_d (vg_C t e p) < 0 := (hd _).mpr c
    refine ⟨vr_u μ 68 8 1, ?_, vp_fr.u (by decide), fun j _ h2 => vp_uj h2, ?_, ?_⟩
    · rw [if_neg c, if_neg vz_F0, vp_gdT (by decide), show 9000 = 8999 + 1 from rfl, fX10_figures_L34.eq_2, if_neg (by decide), vp_us, vp_gdT (by decide), if_pos (by decide), if_pos yc, if_pos (by decide)]
      rfl
    · rw [vp_uj (by decide), if_pos yc]; exact h6
    · rw [vp_us, if_pos yc, if_pos (by decide)]
