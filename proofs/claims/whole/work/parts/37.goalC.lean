def vt_L (μ : vr_M) (cl : vl_C) (wk mv gr dr : Int) : Prop := vl_wf cl ∧ vl_at 8 μ cl ∧ (μ 8 5 = wk ∧ 0 ≤ wk ∧ wk ≤ 99) ∧ (μ 8 6 = mv ∧ 0 ≤ mv ∧ mv ≤ 99) ∧ (μ 8 7 = gr ∧ 0 ≤ gr ∧ gr ≤ 99) ∧ (μ 8 8 = dr ∧ 0 ≤ dr ∧ dr ≤ 10)
def vt_K (μ : vr_M) (kind v : Int) : Prop := μ 58 2 = kind ∧ μ 58 3 = v ∧ (0 ≤ kind ∧ kind ≤ 6) ∧ 1 ≤ v ∧ v ≤ 30
def vt_H (μ : vr_M) (h : vh_H) (cl : vl_C) (Y : Int) : Prop := vh_c μ 52 = h ∧ vh_wf Y h ∧ vh_ripe μ cl ∧ μ 62 0 = 0
theorem vt_L.fr {S : List Nat} {μ μ' : vr_M} {cl : vl_C} {wk mv gr dr : Int} (h : vt_L μ cl wk mv gr dr) (f : vp_fr S μ μ') (hS : ∀ i, i < 4 → 8 + i ∉ S) : vt_L μ' cl wk mv gr dr := by
  obtain ⟨h1, h2, h3⟩ := h
  have e8 := f 8 (hS 0 (by omega))
  refine ⟨h1, vl_at_fr h2 e8 (f 9 (hS 1 (by omega))) (f 10 (hS 2 (by omega))) (f 11 (hS 3 (by omega))), ?_⟩
  rw [e8]
  exact h3
theorem vt_K.fr {S : List Nat} {μ μ' : vr_M} {kind v : Int} (h : vt_K μ kind v) (f : vp_fr S μ μ') (hS : 58 ∉ S) : vt_K μ' kind v := by
  unfold vt_K at h ⊢
  rw [f 58 hS]
  exact h
theorem vt_H.fr {S : List Nat} {μ μ' : vr_M} {h : vh_H} {cl : vl_C} {Y : Int} (hh : vt_H μ h cl Y) (f : vp_fr S μ μ') (hS : ∀ i, i < 6 → 52 + i ∉ S) (h59 : 59 ∉ S) (h62 : μ' 62 0 = 0) : vt_H μ' h cl Y := by
  obtain ⟨h1, h2, h3, -⟩ := hh
  have e := vh_c_fr (k := 52) (μ := μ) (μ' := μ') (fun i hi => f _ (hS i hi))
  refine ⟨e.trans h1, h2, fun p hp => ?_, h62⟩
  rw [f 59 h59, f 52 (hS 0 (by omega)), e]
  exact h3 p hp
theorem vk_fillL {h : vh_H} {cl : vl_C} {wk mv gr dr kind v Y : Int} (hY : Y ≤ 100000) {vi : Int} (hvi : 0 ≤ vi ∧ vi ≤ 40) :
    ∀ (d i n : Nat) (μ : vr_M), 8 - i = d → i ≤ 8 → 8 < i + n → vt_L μ cl wk mv gr dr → vt_K μ kind v → vt_H μ h cl Y → (∀ p, p < i → μ 60 p = vh_G h cl vi wk p) →
      ∃ μ', fX0_picks_L4 n vi (vm_sm (vh_G h cl vi wk) i) (i : Int) μ = some (vk_pk kind v h cl wk vi, μ') ∧ vp_fr [60, 61, 62] μ μ' ∧ μ' 62 0 = 0 ∧ 0 ≤ vk_pk kind v h cl wk vi ∧ vk_pk kind v h cl wk vi < 256 := by
  intro d
  induction d with
  | zero =>
    intro i n μ hd hi hn hL hK hH hg
    obtain ⟨n, rfl⟩ : ∃ m, n = m + 1 := ⟨n - 1, by omega⟩
    have : i = 8 := by omega
    subst this
    obtain ⟨k1, k2, k3, k4⟩ := hK
    obtain ⟨h1, h2, h3, h4⟩ := hH
    have hw := hL.1
    have n0 : h 5 0 = μ 52 5 := by rw [← h1]; rfl
    have y0 : h 5 3 = μ 52 8 := by rw [← h1]; rfl
    have m0 : μ 52 7 = h 5 2 := by rw [← h1]; rfl
    have hn8 := h2.1
    obtain ⟨N, hN⟩ : ∃ N : Nat, h 5 0 = (N : Int) := ⟨(h 5 0).toNat, by omega⟩
    have hGi : ∀ p, p < 8 → 0 ≤ vh_G h cl vi wk p ∧ vh_G h cl vi wk p ≤ 990 := fun p hp => vh_G_in h2 hw hp
    have hNt : (h 5 0).toNat = N := by omega
    rw [fX0_picks_L4.eq_2, if_pos (by decide), k1, vp_gdT (by omega)]
    unfold vk_pk
    rw [hNt]
    unfold vr_ls vr_ls vr_ls
    by_cases c1 : kind = 1
    · have ht := vk_tn_in v (h 5 3) N
      have hp8 := vp_p8 (p := N) (by omega)
      have := vk_turnL (μ := μ) k2 k4 (N := N) (by omega) (by omega) y0.symm (by have := h2.2.2.2.1; omega) N 0 9000 (by omega) (by omega) (by omega)
      refine ⟨μ, ?_, vp_fr.rf, h4, ?_⟩
      · rw [if_pos c1, if_pos c1]
        unfold fX0_picksInTurn
        rw [show vk_tn v (h 5 3) 0 = 0 from rfl, show ((0 : Nat) : Int) = 0 from rfl] at this
        rw [this]
        rfl
      · rw [if_pos c1]
        omega
    · rw [if_neg c1, if_neg c1]
      by_cases c2 : kind = 4
      · rw [if_pos c2, if_pos c2]
        have hmo := h2.2.2.1
        obtain ⟨μ', g1, g2, g3⟩ := vk_fewL hGi (mo := h 5 2) hmo (N := N) (A := 2 ^ N - 1) (by omega) rfl (2 ^ N - 1 + 1 - 1) 1 9000 μ rfl (by omega) (by have := Nat.one_le_two_pow (n := N); omega) (by
            have : ∀ N, N < 9 → 2 ^ N ≤ 256 := by decide
            have := this N (by omega)
            omega) (by omega) m0 hg (fun t ht => by
            have : t = 0 := by omega
            subst this
            rw [h4]
            have z : ∀ n, vh_su (vh_G h cl vi wk) 0 n = 0 := by
              intro n
              induction n with
              | zero => rfl
              | succ n ih => unfold vh_su; rw [ih]; simp [vp_bit]
            exact (z 8).symm)
        rw [show 1 - 1 = 0 from rfl, show vk_bs (vh_G h cl vi wk) (h 5 2) 0 = 0 from rfl, show ((1 : Nat) : Int) = 1 from rfl] at g1
        have hz : ∀ p, N ≤ p → vh_G h cl vi wk p = 0 := fun p hp => by
          unfold vh_G
          rw [if_neg (by omega)]
        have hA : 2 ^ N - 1 < 256 := by
          have : ∀ N, N < 9 → 2 ^ N ≤ 256 := by decide
          have := this N (by omega)
          have := Nat.one_le_two_pow (n := N)
          omega
        have b1 := vk_bs_in (vh_G h cl vi wk) (h 5 2) (2 ^ N - 1)
        have b2 := vk_gv_in (vh_G h cl vi wk) 8
        rw [show (2 : Int) ^ 8 = 256 from rfl] at b2
        rw [m0, vp_gdT (by omega)]
        by_cases c3 : h 5 2 ≤ vm_sm (vh_G h cl vi wk) 8
        · have hne := vk_bs_some (N := N) (by omega) hz (by omega) c3
          refine ⟨μ', ?_, g2.mono (by decide), by rw [g3, h4], ?_⟩
          · rw [if_pos c3, if_neg hne]
            unfold fX0_picksFewest
            rw [g1]
            rfl
          · split <;> omega
        · have he := vk_bs_none hGi (Int.not_le.mp c3) (2 ^ N - 1)
          have hgv := vk_giveL hGi (μ := μ) hg 8 0 9000 rfl (by omega) (by omega)
          rw [show vk_gv (vh_G h cl vi wk) 0 = 0 from rfl, show ((0 : Nat) : Int) = 0 from rfl] at hgv
          refine ⟨μ, ?_, vp_fr.rf, h4, ?_⟩
          · rw [if_neg c3, if_pos he]
            unfold fX0_picksAllThatGive
            rw [hgv]
            rfl
          · split <;> omega
      · rw [if_neg c2, if_neg c2]
        obtain ⟨μ', g1, g2, g3⟩ := vk_byRankL hY (kind := kind) (v := v) (by omega) k4 hGi hvi h2 8 0 9000 μ rfl (by omega) (by omega) h1 k1 k2 hg (fun p hp => by omega)
        refine ⟨μ', ?_, g2.mono (by decide), by rw [g2 62 (by decide), h4], g3⟩
        unfold fX0_picksByRank
        rw [show ((0 : Nat) : Int) = 0 from rfl] at g1
        rw [g1]
        rfl
  | succ d ih =>
    intro i n μ hd hi hn hL hK hH hg
    obtain ⟨n, rfl⟩ : ∃ m, n = m + 1 := ⟨n - 1, by omega⟩
    have hw := hL.1
    have hwk := hL.2.2.1
    have hgi := vh_gift hY hw (μ := μ) (by rw [hH.1]; exact hH.2.1) hH.2.2.1 (p := i) (v := vi) (wk := wk) (by omega) hvi ⟨by omega, by omega⟩
    rw [hH.1, show (if (i : Int) < μ 52 5 then vh_gi h cl i vi wk else 0) = vh_G h cl vi wk i from by unfold vh_G; rw [← hH.1]; rfl] at hgi
    have f1 : vp_fr [60, 61, 62] μ (vr_u μ 60 i (vh_G h cl vi wk i)) := vp_fr.u (by decide)
    have e1 : ((i : Int)).toNat = i := rfl
    have e3 : (i : Int) + 1 = ((i + 1 : Nat) : Int) := by omega
    obtain ⟨μ', k1, k2, k3⟩ := ih (i + 1) n (vr_u μ 60 i (vh_G h cl vi wk i)) (by omega) (by omega) (by omega) (hL.fr f1 (by intro i hi; simp; omega)) (hK.fr f1 (by decide)) (hH.fr f1 (by intro i hi; simp; omega) (by decide) (by rw [vp_un (by decide)]; exact hH.2.2.2))
      (fun p hp => by
        by_cases e : p = i
        · subst e; rw [vp_us]
        · rw [vp_uj e]; exact hg p (by omega))
    refine ⟨μ', ?_, f1.tr k2, k3⟩
    have s1 := vm_sm_in (G := vh_G h cl vi wk) (fun p hp => vh_G_in hH.2.1 hw hp) i (by omega)
    have s2 := vh_G_in (v := vi) (wk := wk) hH.2.1 hw (p := i) (by omega)
    rw [show vm_sm (vh_G h cl vi wk) (i + 1) = vm_sm (vh_G h cl vi wk) i + vh_G h cl vi wk i from rfl] at k1
    rw [fX0_picks_L4.eq_2, if_neg (by omega), hwk.1, vp_gdT (by omega), hgi]
    simp only [vp_bind, vp_let, e1, vp_us]
    rw [vp_gdT (by omega), vp_gdT (by omega), vp_gdT (by omega), e3, k1]
theorem vk_picks {μ : vr_M} {h : vh_H} {cl : vl_C} {wk mv gr dr kind v Y : Int} (hY : Y ≤ 100000) {vi : Int} (hvi : 0 ≤ vi ∧ vi ≤ 40) (hL : vt_L μ cl wk mv gr dr) (hK : vt_K μ kind v) (hH : vt_H μ h cl Y) :
    ∃ μ', fX0_picks vi μ = some (vk_pk kind v h cl wk vi, μ') ∧ vp_fr [60, 61, 62] μ μ' ∧ μ' 62 0 = 0 ∧ 0 ≤ vk_pk kind v h cl wk vi ∧ vk_pk kind v h cl wk vi < 256 :=
  vk_fillL hY hvi 8 0 9000 μ rfl (by omega) (by omega) hL hK hH (fun p hp => by omega)
/-- where the village moves -/
def vk_hv (kind v : Int) (h : vh_H) (cl : vl_C) (wk mv vi : Int) : Int := vh_go h cl wk (vk_pk kind v h cl wk vi) vi - if vi = h 5 1 then 0 else mv
def vk_gp (kind v : Int) (h : vh_H) (cl : vl_C) (wk mv : Int) : Nat → Int × Int
  | 0 => (vk_hv kind v h cl wk mv (h 5 1), h 5 1)
  | p + 1 => if (vk_gp kind v h cl wk mv p).1 < vk_hv kind v h cl wk mv (h 1 p) then (vk_hv kind v h cl wk mv (h 1 p), h 1 p) else vk_gp kind v h cl wk mv p
def vk_gl (kind v : Int) (h : vh_H) (cl : vl_C) (wk mv : Int) : Int := if h 5 2 ≤ vk_hv kind v h cl wk mv (h 5 1) then h 5 1 else (vk_gp kind v h cl wk mv (h 5 0).toNat).2
theorem vk_hv_in {kind v : Int} {h : vh_H} {cl : vl_C} {wk mv vi Y : Int} (hh : vh_wf Y h) (hw : vl_wf cl) (hm : 0 ≤ mv ∧ mv ≤ 99) : -99 ≤ vk_hv kind v h cl wk mv vi ∧ vk_hv kind v h cl wk mv vi ≤ 7920 := by
  have := vh_go_in (wk := wk) (s := vk_pk kind v h cl wk vi) (v := vi) hh hw
  unfold vk_hv
  split <;> omega
theorem vk_gp_in {kind v : Int} {h : vh_H} {cl : vl_C} {wk mv Y : Int} (hh : vh_wf Y h) (hw : vl_wf cl) (hm : 0 ≤ mv ∧ mv ≤ 99) : ∀ p : Nat, p ≤ 8 → (-99 ≤ (vk_gp kind v h cl wk mv p).1 ∧ (vk_gp kind v h cl wk mv p).1 ≤ 7920) ∧ 0 ≤ (vk_gp kind v h cl wk mv p).2 ∧ (vk_gp kind v h cl wk mv p).2 ≤ 40
  | 0, _ => ⟨vk_hv_in hh hw hm, hh.2.1⟩
  | p + 1, hp => by
    have ih := vk_gp_in (kind := kind) (v := v) (wk := wk) hh hw hm p (by omega)
    unfold vk_gp
    split
    · exact ⟨vk_hv_in hh hw hm, (hh.2.2.2.2 p (by omega)).2.1⟩
    · exact ih
theorem vk_goalL {h : vh_H} {cl : vl_C} {wk mv gr dr kind v Y : Int} (hY : Y ≤ 100000) {N : Nat} (hN : h 5 0 = (N : Int)) :
    ∀ (d p n : Nat) (μ : vr_M), N - p = d → p ≤ N → N < p + n → vt_L μ cl wk mv gr dr → vt_K μ kind v → vt_H μ h cl Y →
      ∃ μ', fX0_goal_L37 n (h 5 1) (vk_gp kind v h cl wk mv p).1 (vk_gp kind v h cl wk mv p).2 (p : Int) μ = some ((vk_gp kind v h cl wk mv N).2, μ') ∧ vp_fr [60, 61, 62] μ μ' ∧ μ' 62 0 = 0 := by
  intro d
  induction d with
  | zero =>
    intro p n μ hd hp hn hL hK hH
    obtain ⟨n, rfl⟩ : ∃ m, n = m + 1 := ⟨n - 1, by omega⟩
    have : p = N := by omega
    subst this
    have n0 : μ 52 5 = h 5 0 := by rw [← hH.1]; rfl
    have hn8 := hH.2.1.1
    refine ⟨μ, ?_, vp_fr.rf, hH.2.2.2⟩
    rw [fX0_goal_L37.eq_2, n0, hN]
    unfold fX0_goal_B118
    by_cases c : 8 ≤ (p : Int)
    · rw [if_pos c]
    · rw [if_neg c, vp_gdT (by omega), if_pos (by omega)]
  | succ d ih =>
    intro p n μ hd hp hn hL hK hH
    obtain ⟨n, rfl⟩ : ∃ m, n = m + 1 := ⟨n - 1, by omega⟩
    have n0 : μ 52 5 = h 5 0 := by rw [← hH.1]; rfl
    have hn8 := hH.2.1.1
    have hp8 : p < 8 := by omega
    have pl : μ 54 p = h 1 p := by rw [← hH.1]; simp [vh_c, hp8]
    have hpl := (hH.2.1.2.2.2.2 p hp8).2.1
    obtain ⟨μ1, k1, k2, k3, k4⟩ := vk_picks hY hpl hL hK hH
    have hL1 := hL.fr k2 (by intro i hi; simp; omega)
    have hK1 := hK.fr k2 (by decide)
    have hH1 := hH.fr k2 (by intro i hi; simp; omega) (by decide) k3
    have hgo := vh_giftOf hY hL1.1 (μ := μ1) (by rw [hH1.1]; exact hH1.2.1) hH1.2.2.1 (s := vk_pk kind v h cl wk (h 1 p)) (v := h 1 p) k4 hpl (by have := hL1.2.2.1; omega)
    rw [hH1.1, hL1.2.2.1.1] at hgo
    have hgi := vh_go_in (wk := wk) (s := vk_pk kind v h cl wk (h 1 p)) (v := h 1 p) hH.2.1 hL.1
    obtain ⟨μ', g1, g2, g3⟩ := ih (p + 1) n μ1 (by omega) (by omega) (by omega) hL1 hK1 hH1
    refine ⟨μ', ?_, k2.tr g2, g3⟩
    have e1 : ((p : Int)).toNat = p := rfl
    have e3 : (p : Int) + 1 = ((p + 1 : Nat) : Int) := by omega
    have hmv := hL.2.2.2.1
    have hmv1 := hL1.2.2.2.1
    have hst : vk_gp kind v h cl wk mv (p + 1) = if (vk_gp kind v h cl wk mv p).1 < vk_hv kind v h cl wk mv (h 1 p) then (vk_hv kind v h cl wk mv (h 1 p), h 1 p) else vk_gp kind v h cl wk mv p := rfl
    have hhv := vk_hv_in (kind := kind) (v := v) (wk := wk) (mv := mv) (vi := h 1 p) hH.2.1 hL.1 hmv.2
    have step : fX0_goal_L37 (n + 1) (h 5 1) (vk_gp kind v h cl wk mv p).1 (vk_gp kind v h cl wk mv p).2 (p : Int) μ = fX0_goal_L37 n (h 5 1) (vk_gp kind v h cl wk mv (p + 1)).1 (vk_gp kind v h cl wk mv (p + 1)).2 ((p + 1 : Nat) : Int) μ1 := by
      rw [fX0_goal_L37.eq_2, n0, hN, e1]
      simp only [pl]
      rw [if_neg (by omega), vp_gdT (by omega), if_neg (by omega), vp_gdT (by omega), vp_gdT (by omega), k1]
      simp only [vp_bind]
      rw [hgo]
      simp only [vp_bind, hmv1.1]
      unfold fX0_goal_B97 fX0_goal_B112
      rw [e3, hst]
      unfold vk_hv at hhv ⊢
      by_cases c : h 1 p = h 5 1
      · rw [if_pos c] at hhv ⊢
        rw [if_neg (fun q => q c), vp_gdT (by omega)]
        by_cases c2 : vh_go h cl wk (vk_pk kind v h cl wk (h 1 p)) (h 1 p) - 0 ≤ (vk_gp kind v h cl wk mv p).1
        · rw [if_pos c2, if_neg (by omega), vp_gdT (by omega)]
        · rw [if_neg c2, if_pos (by omega), vp_gdT (by omega)]
      · rw [if_neg c] at hhv ⊢
        rw [if_pos c, vp_gdT (by omega), vp_gdT (by omega)]
        by_cases c2 : vh_go h cl wk (vk_pk kind v h cl wk (h 1 p)) (h 1 p) - mv ≤ (vk_gp kind v h cl wk mv p).1
        · rw [if_pos c2, if_neg (by omega), vp_gdT (by omega)]
        · rw [if_neg c2, if_pos (by omega), vp_gdT (by omega)]
    rw [step, g1]
theorem vk_goal {μ : vr_M} {h : vh_H} {cl : vl_C} {wk mv gr dr kind v Y : Int} (hY : Y ≤ 100000) (hL : vt_L μ cl wk mv gr dr) (hK : vt_K μ kind v) (hH : vt_H μ h cl Y) :
    ∃ μ', fX0_goal μ = some (vk_gl kind v h cl wk mv, μ') ∧ vp_fr [60, 61, 62] μ μ' ∧ μ' 62 0 = 0 ∧ 0 ≤ vk_gl kind v h cl wk mv ∧ vk_gl kind v h cl wk mv ≤ 40 := by
  have hn8 := hH.2.1.1
  obtain ⟨N, hN⟩ : ∃ N : Nat, h 5 0 = (N : Int) := ⟨(h 5 0).toNat, by omega⟩
  have hNt : (h 5 0).toNat = N := by omega
  have hv0 : μ 52 6 = h 5 1 := by rw [← hH.1]; rfl
  have hvi := hH.2.1.2.1
  obtain ⟨μ1, k1, k2, k3, k4⟩ := vk_picks hY hvi hL hK hH
  have hL1 := hL.fr k2 (by intro i hi; simp; omega)
  have hK1 := hK.fr k2 (by decide)
  have hH1 := hH.fr k2 (by intro i hi; simp; omega) (by decide) k3
  have hgo := vh_giftOf hY hL1.1 (μ := μ1) (by rw [hH1.1]; exact hH1.2.1) hH1.2.2.1 (s := vk_pk kind v h cl wk (h 5 1)) (v := h 5 1) k4 hvi (by have := hL1.2.2.1; omega)
  rw [hH1.1, hL1.2.2.1.1] at hgo
  have hgi := vh_go_in (wk := wk) (s := vk_pk kind v h cl wk (h 5 1)) (v := h 5 1) hH.2.1 hL.1
  have hm1 : μ1 52 7 = h 5 2 := by rw [← hH1.1]; rfl
  have hmo := hH.2.1.2.2.1
  have hhv : vk_hv kind v h cl wk mv (h 5 1) = vh_go h cl wk (vk_pk kind v h cl wk (h 5 1)) (h 5 1) := by unfold vk_hv; rw [if_pos rfl, Int.sub_zero]
  obtain ⟨μ', g1, g2, g3⟩ := vk_goalL (kind := kind) (v := v) (wk := wk) (mv := mv) hY hN N 0 9000 μ1 (by omega) (by omega) (by omega) hL1 hK1 hH1
  have hin := vk_gp_in (kind := kind) (v := v) (wk := wk) (mv := mv) hH.2.1 hL.1 hL.2.2.2.1.2 N (by omega)
  rw [show vk_gp kind v h cl wk mv 0 = (vk_hv kind v h cl wk mv (h 5 1), h 5 1) from rfl, show ((0 : Nat) : Int) = 0 from rfl, hhv] at g1
  unfold fX0_goal vk_gl
  rw [hv0, vp_gdT (by omega), k1]
  simp only [vp_bind]
  rw [hgo]
  simp only [vp_bind, hm1]
  rw [vp_gdT (by omega), hNt, hhv]
  by_cases c : vh_go h cl wk (vk_pk kind v h cl wk (h 5 1)) (h 5 1) < h 5 2
  · refine ⟨μ', ?_, k2.tr g2, g3, ?_⟩
    · rw [if_pos c, if_neg (by omega)]
      exact g1
    · rw [if_neg (by omega)]; exact hin.2
  · refine ⟨μ1, ?_, k2, k3, ?_⟩
    · rw [if_neg c, if_pos (by omega)]
    · rw [if_pos (by omega)]; exact hvi
