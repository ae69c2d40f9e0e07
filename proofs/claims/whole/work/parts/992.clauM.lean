def vg_raw (cl : vl_C) : List Int := cl.flatMap (fun q => q.2 ++ [vm_m q.1])
theorem vg_raw_app {cl : vl_C} {n : Int} {ts : List Int} : vg_raw (cl ++ [(n, ts)]) = vg_raw cl ++ ts ++ [vm_m n] := by
  unfold vg_raw
  simp
theorem vm_m_neg {q : Int} (h : q = -1 ∨ 0 ≤ q) : vm_e (vm_m q) = vm_m q := by
  have : vm_m q < 0 := by unfold vm_m; split <;> omega
  unfold vm_e
  rw [if_pos this]
theorem vgm_spellsF {e q s A : Nat} (hs : s < 17) (he : e ≤ 120) : ∀ (d i n : Nat) (μ : vr_M), i + d = (vg_L s).length → d < n → vgm_F e μ q → ∃ μ', fX10_spells_L2 s n (i : Int) μ = some (0, μ') ∧ vgm_F e μ' q ∧ vgm_K A μ μ' ∧ μ' 68 9 = μ 68 9 ∧ μ' 69 = μ 69 := by
  have hl := vg_L_len s
  have h10 := (vg_L_in hs).1
  intro d
  induction d with
  | zero =>
    intro i n μ hd hn h
    obtain ⟨n, rfl⟩ : ∃ m, n = m + 1 := ⟨n - 1, by omega⟩
    exact ⟨μ, by rw [fX10_spells_L2.eq_2, vg_len hs, vp_bind, if_pos (by omega)], h, vgm_K.rf, rfl, rfl⟩
  | succ d ih =>
    intro i n μ hd hn h
    obtain ⟨n, rfl⟩ : ∃ m, n = m + 1 := ⟨n - 1, by omega⟩
    have hi : i < (vg_L s).length := by omega
    obtain ⟨h1, h2, h3⟩ := h
    have n8 : vr_u μ 68 8 1 68 8 = 1 := vp_us
    have n6 : vr_u μ 68 8 1 68 6 = (q : Int) := by rw [vp_uj (by decide), h2]
    generalize hM : vr_u (vr_u μ 68 8 1) 68 6 ((q : Int) + 0) = M
    have m1 : fX10_must ((vg_L s).getD i 0) μ = some (0, M) := by
      unfold fX10_must fX10_must_B16 fX10_must_B21 fX10_must_B41
      rw [h1, vp_gdT (by decide), if_pos (by decide), vp_gdT (by decide), vp_let]
      simp only [n8, n6]
      rw [vp_gdT (by decide), if_neg (by decide), vp_gdT (by omega), hM]
    have FM : vgm_F e M q := ⟨by rw [← hM, vp_uj (by decide), vp_us], by rw [← hM, vp_us]; omega, h3⟩
    have kM : vgm_K A μ M := by rw [← hM]; exact (vgm_K.u (by decide)).tr (vgm_K.u (by decide))
    obtain ⟨μ', g1, g2, g3, g4, g5⟩ := ih (i + 1) n M (by omega) (by omega) FM
    refine ⟨μ', ?_, g2, kM.tr g3, by rw [g4, ← hM, vp_uj (by decide), vp_uj (by decide)], by rw [g5, ← hM, vp_uc (by decide), vp_uc (by decide)]⟩
    rw [fX10_spells_L2.eq_2, vg_len hs, vp_bind, if_neg (by omega)]
    dsimp only
    rw [vg_ch hs hi, vp_bind]
    dsimp only
    rw [m1, vp_bind, vp_gdT (by omega), show (i : Int) + 1 = ((i + 1 : Nat) : Int) by omega]
    exact g1
theorem vgm_spellsL {t : Nat → Int} {e s A u : Nat} {a : List Int} (hs : s < 17) (h1 : ∀ x ∈ vg_L s, 1 ≤ x) : ∀ (d i n p : Nat) (μ : vr_M), i + d = (vg_L s).length → d < n → vgm_S t e A μ p u a → ∃ μ', fX10_spells_L2 s n (i : Int) μ = some (0, μ') ∧ vgm_K A μ μ' ∧ μ' 68 9 = μ 68 9 ∧ μ' 69 = μ 69 ∧ (if vg_m (vg_C t e) ((vg_L s).drop i) p = d then vgm_S t e A μ' (p + d) u a else vgm_F e μ' (p + vg_m (vg_C t e) ((vg_L s).drop i) p)) := by
  have hl := vg_L_len s
  have h10 := (vg_L_in hs).1
  intro d
  induction d with
  | zero =>
    intro i n p μ hd hn h
    obtain ⟨n, rfl⟩ : ∃ m, n = m + 1 := ⟨n - 1, by omega⟩
    refine ⟨μ, by rw [fX10_spells_L2.eq_2, vg_len hs, vp_bind, if_pos (by omega)], vgm_K.rf, rfl, rfl, ?_⟩
    have m0 : vg_m (vg_C t e) ((vg_L s).drop i) p = 0 := by rw [List.drop_of_length_le (by omega)]; rfl
    rw [if_pos m0]
    exact h
  | succ d ih =>
    intro i n p μ hd hn h
    obtain ⟨n, rfl⟩ : ∃ m, n = m + 1 := ⟨n - 1, by omega⟩
    have hi : i < (vg_L s).length := by omega
    have he := h.2.2.2.2
    have hg : (vg_L s).getD i 0 = (vg_L s)[i] := by rw [List.getD_eq_getElem?_getD, List.getElem?_eq_getElem hi]; rfl
    obtain ⟨μ1, m1, m2, m3, m4, m5⟩ := vgm_must (ch := (vg_L s)[i]) h (h1 _ (List.getElem_mem hi))
    have e0 : fX10_spells_L2 s (n + 1) (i : Int) μ = fX10_spells_L2 s n ((i + 1 : Nat) : Int) μ1 := by
      rw [fX10_spells_L2.eq_2, vg_len hs, vp_bind, if_neg (by omega)]
      dsimp only
      rw [vg_ch hs hi, vp_bind, hg]
      dsimp only
      rw [m1, vp_bind, vp_gdT (by omega), show (i : Int) + 1 = ((i + 1 : Nat) : Int) by omega]
    rw [e0, List.drop_eq_getElem_cons hi, vg_m]
    by_cases c : vg_C t e p = (vg_L s)[i]
    · rw [if_pos c] at m5
      rw [if_pos c]
      obtain ⟨μ', g1, g2, g3, g4, g5⟩ := ih (i + 1) n (p + 1) μ1 (by omega) (by omega) m5
      refine ⟨μ', g1, m2.tr g2, g3.trans m3, g4.trans m4, ?_⟩
      by_cases z : vg_m (vg_C t e) (List.drop (i + 1) (vg_L s)) (p + 1) = d
      · rw [if_pos z] at g5
        rw [if_pos (by omega), show p + (d + 1) = p + 1 + d by omega]
        exact g5
      · rw [if_neg z] at g5
        rw [if_neg (by omega), show p + (1 + vg_m (vg_C t e) (List.drop (i + 1) (vg_L s)) (p + 1)) = p + 1 + vg_m (vg_C t e) (List.drop (i + 1) (vg_L s)) (p + 1) by omega]
        exact g5
    · rw [if_neg c] at m5
      rw [if_neg c]
      obtain ⟨μ', g1, g2, g3, g4, g5⟩ := vgm_spellsF (A := A) hs (by omega : e ≤ 120) d (i + 1) n μ1 (by omega) (by omega) m5
      refine ⟨μ', g1, m2.tr g3, g4.trans m3, g5.trans m4, ?_⟩
      rw [if_neg (by omega)]
      exact g2
theorem vgm_spells {t : Nat → Int} {e s A u p : Nat} {a : List Int} {μ : vr_M} (hs : s < 17) (h1 : ∀ x ∈ vg_L s, 1 ≤ x) (h : vgm_S t e A μ p u a) : ∃ μ', fX10_spells s μ = some (0, μ') ∧ vgm_K A μ μ' ∧ μ' 68 9 = μ 68 9 ∧ μ' 69 = μ 69 ∧ (if vg_m (vg_C t e) (vg_L s) p = (vg_L s).length then vgm_S t e A μ' (p + (vg_L s).length) u a else vgm_F e μ' (p + vg_m (vg_C t e) (vg_L s) p)) := by
  have hl := vg_L_len s
  have h10 := (vg_L_in hs).1
  have g := vgm_spellsL hs h1 (vg_L s).length 0 9000 p μ (by omega) (by omega) h
  rw [List.drop_zero] at g
  exact g
/-- all that a clause may touch -/
def vgm_J (A : Nat) (μ μ' : vr_M) : Prop := vp_fr [68, 69] μ μ' ∧ (∀ j, j ≠ 6 → j ≠ 8 → j ≠ 9 → μ' 68 j = μ 68 j) ∧ ∀ j, j ≠ 208 + A → j ≠ 213 + A → j ≠ 218 + A → j ≠ 223 + A → j ≠ 228 + A → ¬ (233 + 140 * A ≤ j ∧ j < 373 + 140 * A) → μ' 69 j = μ 69 j
theorem vgm_K.j {A : Nat} {μ μ' : vr_M} (h : vgm_K A μ μ') : vgm_J A μ μ' := ⟨h.1, h.2.1, fun j _ _ _ _ h5 h6 => h.2.2 j h5 h6⟩
theorem vgm_J.tr {A : Nat} {μ μ1 μ' : vr_M} (h : vgm_J A μ μ1) (g : vgm_J A μ1 μ') : vgm_J A μ μ' := ⟨h.1.tr g.1, fun j h1 h2 h3 => (g.2.1 j h1 h2 h3).trans (h.2.1 j h1 h2 h3), fun j h1 h2 h3 h4 h5 h6 => (g.2.2 j h1 h2 h3 h4 h5 h6).trans (h.2.2 j h1 h2 h3 h4 h5 h6)⟩
def vgm_D (t : Nat → Int) (e A : Nat) (μ : vr_M) (p : Nat) (st : vg_ST) : Prop := vgm_S t e A μ p 0 (vg_raw st.1) ∧ (vg_raw st.1).length ≤ p ∧ μ 68 9 = 0 ∧ μ 69 (208 + A) = st.2.1 ∧ μ 69 (213 + A) = st.2.2.1 ∧ μ 69 (218 + A) = st.2.2.2.1 ∧ μ 69 (223 + A) = st.2.2.2.2
def vgm_Q (t : Nat → Int) (e A : Nat) (st : vg_ST) (μ μ' : vr_M) : Nat × Option vg_X3 → Prop
  | (q, none) => vgm_F e μ' q ∧ vgm_J A μ μ'
  | (q, some x) => vgm_D t e A μ' q (vg_ap x st) ∧ vgm_J A μ μ'
/-- a word with a number alone -/
theorem vgm_tellsH {t : Nat → Int} {e s A p b : Nat} {st : vg_ST} {most w : Int} {μ : vr_M} (hs : s < 17) (h1 : ∀ x ∈ vg_L s, 1 ≤ x) (h : vgm_D t e A μ p st) (hb : (b = 208 ∧ w = 2 ∧ most = 99) ∨ (b = 213 ∧ w = 3 ∧ most = 99) ∨ (b = 218 ∧ w = 4 ∧ most = 99) ∨ (b = 223 ∧ w = 5 ∧ most = 10)) :
    ∃ μ', fX10_tellsHere (b : Int) s most μ = some (0, μ') ∧ vgm_Q t e A st μ μ' (if vg_m (vg_C t e) (vg_L s) p = (vg_L s).length then (if vg_nv (vg_C t e) (p + (vg_L s).length) < 0 then (p + (vg_L s).length, none) else (vg_np (vg_C t e) (p + (vg_L s).length), some (w, vg_nv (vg_C t e) (p + (vg_L s).length), []))) else (p + vg_m (vg_C t e) (vg_L s) p, none)) := by
  have hE := vg_CE t e
  obtain ⟨hS, hl, ho, d1, d2, d3, d4⟩ := id h
  have he := hS.2.2.2.2
  obtain ⟨μ1, m1, m2, m3, m4, m5⟩ := vgm_spells hs h1 hS
  unfold fX10_tellsHere fX10_tellsHere_B41 fX10_tellsHere_B40 fX10_tellsHere_B41
  rw [m1, vp_bind]
  dsimp only
  by_cases c : vg_m (vg_C t e) (vg_L s) p = (vg_L s).length
  · rw [if_pos c] at m5
    rw [if_pos c]
    generalize hq0 : p + (vg_L s).length = q at *
    have hq := m5.2.2.2.2.1
    obtain ⟨μ2, f1, f2, f3, f4, f5⟩ := vgm_fig m5.1.1 m5.1.2.1 m5.1.2.2.1 m5.2.1 (by omega) (show q ≤ 900 by omega)
    have np := vg_np_G hE hq
    have nv := vg_nv_in (vg_C t e) q
    have k2 : vgm_K A μ1 μ2 := ⟨f2.mono (by decide), fun j j1 j2 _ => f3 j j1 j2, fun j _ _ => by rw [f2 69 (by decide)]⟩
    have e69 : μ2 69 = μ 69 := by rw [f2 69 (by decide), m4]
    have s5 : μ2 68 5 = (A : Int) := by rw [f3 5 (by decide) (by decide)]; exact m5.1.2.2.2
    rw [f1, vp_bind]
    dsimp only
    by_cases c2 : vg_nv (vg_C t e) q < 0
    · rw [if_pos c2] at f5
      simp only [f5]
      rw [vp_gdT (by decide), if_pos (by decide), if_pos c2]
      exact ⟨μ2, rfl, ⟨f5, by rw [f4, np.1 c2], hq⟩, (m2.tr k2).j⟩
    · rw [if_neg c2] at f5
      have np2 := np.2 (by omega)
      have bA : (0 : Int) ≤ (b : Int) + (A : Int) ∧ (b : Int) + (A : Int) < 933 := by omega
      have eb : ((b : Int) + (A : Int)).toNat = b + A := by omega
      have key : ∀ v : Int, v = (if vg_nv (vg_C t e) q ≤ most then vg_nv (vg_C t e) q else most) → vgm_Q t e A st μ (vr_u μ2 69 (b + A) v) (vg_np (vg_C t e) q, some (w, vg_nv (vg_C t e) q, [])) := by
        intro v hv
        have E : ∀ j, j ≠ b + A → vr_u μ2 69 (b + A) v 69 j = μ 69 j := fun j hj => by rw [vp_uj hj, e69]
        have S2 : vgm_S t e A (vr_u μ2 69 (b + A) v) (vg_np (vg_C t e) q) 0 (vg_raw st.1) := by
          obtain ⟨⟨s1, s2, s3, s4⟩, t1, t2, t3, t4⟩ := hS
          refine ⟨⟨?_, ?_, ?_, ?_⟩, fun i hi => ?_, ?_, fun i hi => ?_, np2.2, t4.2⟩
          · rw [vp_un (by decide)]; exact f4
          · rw [vp_un (by decide), f3 7 (by decide) (by decide)]; exact m5.1.2.1
          · rw [vp_un (by decide)]; exact f5
          · rw [vp_un (by decide)]; exact s5
          · rw [E _ (by omega)]; exact t1 i hi
          · rw [E _ (by omega)]; exact t2
          · rw [E _ (by omega)]; exact t3 i hi
        have J2 : vgm_J A μ (vr_u μ2 69 (b + A) v) := (m2.tr k2).j.tr ⟨vp_fr.u (by decide), fun j _ _ _ => by rw [vp_un (by decide)], fun j j1 j2 j3 j4 _ _ => by rw [vp_uj (by omega)]⟩
        have o2 : vr_u μ2 69 (b + A) v 68 9 = 0 := by rw [vp_un (by decide), f3 9 (by decide) (by decide), m3, ho]
        have hqq : q ≤ vg_np (vg_C t e) q := by omega
        have hpq : p ≤ q := by omega
        rcases hb with ⟨rfl, rfl, rfl⟩ | ⟨rfl, rfl, rfl⟩ | ⟨rfl, rfl, rfl⟩ | ⟨rfl, rfl, rfl⟩
        · refine ⟨⟨S2, by show (vg_raw st.1).length ≤ _; omega, o2, ?_, ?_, ?_, ?_⟩, J2⟩
          · rw [vp_us, hv, if_pos nv.2]; rfl
          · rw [E _ (by omega)]; exact d2
          · rw [E _ (by omega)]; exact d3
          · rw [E _ (by omega)]; exact d4
        · refine ⟨⟨S2, by show (vg_raw st.1).length ≤ _; omega, o2, ?_, ?_, ?_, ?_⟩, J2⟩
          · rw [E _ (by omega)]; exact d1
          · rw [vp_us, hv, if_pos nv.2]; rfl
          · rw [E _ (by omega)]; exact d3
          · rw [E _ (by omega)]; exact d4
        · refine ⟨⟨S2, by show (vg_raw st.1).length ≤ _; omega, o2, ?_, ?_, ?_, ?_⟩, J2⟩
          · rw [E _ (by omega)]; exact d1
          · rw [E _ (by omega)]; exact d2
          · rw [vp_us, hv, if_pos nv.2]; rfl
          · rw [E _ (by omega)]; exact d4
        · refine ⟨⟨S2, by show (vg_raw st.1).length ≤ _; omega, o2, ?_, ?_, ?_, ?_⟩, J2⟩
          · rw [E _ (by omega)]; exact d1
          · rw [E _ (by omega)]; exact d2
          · rw [E _ (by omega)]; exact d3
          · rw [vp_us, hv]
            show _ = min (vg_nv (vg_C t e) q) 10
            split <;> omega
      simp only [f5, s5]
      rw [vp_gdT (by decide), if_neg (fun q => q trivial), if_neg c2]
      simp only [if_neg c2]
      by_cases c3 : vg_nv (vg_C t e) q ≤ most
      · rw [if_pos c3, vp_gdT (by omega), vp_gdT bA, eb]
        exact ⟨_, rfl, key _ (by rw [if_pos c3])⟩
      · rw [if_neg c3, vp_gdT (by omega), vp_gdT bA, eb]
        exact ⟨_, rfl, key _ (by rw [if_neg c3])⟩
  · rw [if_neg c] at m5
    rw [if_neg c, vgm_figF m5.1, vp_bind]
    dsimp only
    have n8 : vr_u μ1 68 8 1 68 8 = 1 := vp_us
    simp only [n8]
    rw [vp_gdT (by decide), if_pos (by decide)]
    exact ⟨_, rfl, ⟨n8, by rw [vp_uj (by decide)]; exact m5.2.1, m5.2.2⟩, (m2.tr (vgm_K.u (by decide))).j⟩
