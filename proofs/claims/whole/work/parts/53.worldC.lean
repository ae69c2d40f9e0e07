def vn_li (k cap : Nat) (lo hi : Int) (μ : vr_M) (n : Nat) (f : Nat → Int) : Prop := μ k 1 = (n : Int) ∧ n ≤ cap ∧ ∀ i, i < n → μ (k + 1) i = f i ∧ lo ≤ f i ∧ f i ≤ hi
theorem vn_li.fr {S : List Nat} {k cap : Nat} {lo hi : Int} {μ μ' : vr_M} {n : Nat} {f : Nat → Int} (h : vn_li k cap lo hi μ n f) (g : vp_fr S μ μ') (h0 : k ∉ S) (h1 : k + 1 ∉ S) : vn_li k cap lo hi μ' n f := by
  unfold vn_li at h ⊢
  rw [g k h0, g (k + 1) h1]
  exact h
theorem vn_li.cp {k k0 cap : Nat} {lo hi : Int} {μ μ0 : vr_M} {n : Nat} {f : Nat → Int} (h : vn_li k0 cap lo hi μ n f) (e0 : μ0 k0 = μ k0) (e1 : μ0 (k0 + 1) = μ (k0 + 1)) (hlo : 0 ≤ lo) (hhi : hi ≤ 1000) (hd : k ≠ k0 ∧ k + 1 ≠ k0 ∧ k ≠ k0 + 1) (hl : cap ≤ vr_ln (k + 1)) (hl0 : cap ≤ vr_ln (k0 + 1)) (hc : cap ≤ 200) :
    ∃ μ', fX4_become k k0 μ0 = some (0, μ') ∧ vp_fr [k, k + 1] μ0 μ' ∧ vn_li k cap lo hi μ' n f := by
  obtain ⟨h1, h2, h3⟩ := h
  obtain ⟨μ', g1, g2, g3, g4⟩ := vn_become (c := n) hd (by omega) (by omega) (by omega) (μ := μ0) (by rw [e0]; exact h1) (fun j hj => by
    have := h3 j hj
    rw [e1, this.1]
    omega)
  refine ⟨μ', g1, g2, g3, h2, fun i hi => ?_⟩
  rw [g4 i hi, e1]
  exact h3 i hi
def vw_L (k : Nat) (μ : vr_M) (cl : vl_C) (wk mv gr dr : Int) : Prop := vl_wf cl ∧ vl_at k μ cl ∧ (μ k 5 = wk ∧ 0 ≤ wk ∧ wk ≤ 99) ∧ (μ k 6 = mv ∧ 0 ≤ mv ∧ mv ≤ 99) ∧ (μ k 7 = gr ∧ 0 ≤ gr ∧ gr ≤ 99) ∧ (μ k 8 = dr ∧ 0 ≤ dr ∧ dr ≤ 10)
/-- a world: hill, land, tape, row, ages, rules, count of lands -/
def vw_at (k : Nat) (μ : vr_M) (h : vh_H) (cl : vl_C) (wk mv gr dr : Int) (tn : Nat) (tp : Nat → Int) (rn : Nat) (rw' : Nat → Int) (an : Nat) (ag : Nat → Int) (n : Nat) (rk rv : Nat → Int) (ld Y : Int) : Prop :=
  (vh_c μ (k + 1) = h ∧ vh_wf Y h) ∧ vw_L (k + 7) μ cl wk mv gr dr ∧ vn_li (k + 12) 120 0 255 μ tn tp ∧ vn_li (k + 14) 12 0 255 μ rn rw' ∧ vn_li (k + 16) 10 0 99 μ an ag ∧ vn_li (k + 18) 8 0 6 μ n rk ∧ vn_li (k + 20) 8 1 30 μ n rv ∧ μ k 7 = ld ∧ 0 ≤ ld ∧ ld ≤ 5
def vw_S (k : Nat) : List Nat := (List.range 22).map (fun j => k + j)
theorem vw_S_in {k c : Nat} : c ∈ vw_S k ↔ k ≤ c ∧ c < k + 22 := by
  unfold vw_S
  rw [List.mem_map]
  constructor
  · rintro ⟨j, hj, rfl⟩
    have := List.mem_range.mp hj
    omega
  · intro h
    exact ⟨c - k, List.mem_range.mpr (by omega), by omega⟩
theorem vw_become {k k0 : Nat} (hd : k + 22 ≤ k0 ∨ k0 + 22 ≤ k) (l1 : 120 ≤ vr_ln (k + 13) ∧ 12 ≤ vr_ln (k + 15) ∧ 10 ≤ vr_ln (k + 17) ∧ 8 ≤ vr_ln (k + 19) ∧ 8 ≤ vr_ln (k + 21)) (l0 : 120 ≤ vr_ln (k0 + 13) ∧ 12 ≤ vr_ln (k0 + 15) ∧ 10 ≤ vr_ln (k0 + 17) ∧ 8 ≤ vr_ln (k0 + 19) ∧ 8 ≤ vr_ln (k0 + 21))
    {μ : vr_M} {h : vh_H} {cl : vl_C} {wk mv gr dr : Int} {tn : Nat} {tp : Nat → Int} {rn : Nat} {rw' : Nat → Int} {an : Nat} {ag : Nat → Int} {n : Nat} {rk rv : Nat → Int} {ld Y : Int} (hw : vw_at k0 μ h cl wk mv gr dr tn tp rn rw' an ag n rk rv ld Y) :
    ∃ μ', fX8_become k k0 μ = some (0, μ') ∧ vp_fr (vw_S k) μ μ' ∧ vw_at k μ' h cl wk mv gr dr tn tp rn rw' an ag n rk rv ld Y := by
  obtain ⟨⟨w1, w2⟩, ⟨w3, w4, w5⟩, w6, w7, w8, w9, w10, w11, w12⟩ := hw
  have src : ∀ {μ' : vr_M}, vp_fr (vw_S k) μ μ' → ∀ j, j < 22 → μ' (k0 + j) = μ (k0 + j) := fun f j hj => f _ (fun q => by have := vw_S_in.mp q; omega)
  obtain ⟨μ1, a1, a2, a3⟩ := vh_become (k := k + 1) (k0 := k0 + 1) (fun i j hi hj => by omega) μ
  have f1 : vp_fr (vw_S k) μ μ1 := a2.mono (fun c hc => vw_S_in.mpr (by simp at hc; omega))
  obtain ⟨μ2, b1, b2, b3, b4, b5⟩ := vl_become (k := k + 7) (k0 := k0 + 7) (by omega) μ1
  have f2 : vp_fr (vw_S k) μ μ2 := f1.tr (b2.mono (fun c hc => vw_S_in.mpr (by simp at hc; omega)))
  have s1 := src f1
  rw [show k0 + 7 + 1 = k0 + 8 from rfl, show k0 + 7 + 2 = k0 + 9 from rfl, s1 8 (by decide), s1 9 (by decide)] at b4
  rw [show k0 + 7 + 3 = k0 + 10 from rfl, s1 10 (by decide)] at b5
  rw [s1 7 (by decide)] at b3
  obtain ⟨μ3, c1, c2, c3⟩ := w6.cp (k := k + 12) (μ0 := μ2) (src f2 12 (by decide)) (src f2 13 (by decide)) (by decide) (by decide) (by omega) l1.1 l0.1 (by decide)
  have f3 : vp_fr (vw_S k) μ μ3 := f2.tr (c2.mono (fun c hc => vw_S_in.mpr (by simp at hc; omega)))
  obtain ⟨μ4, d1, d2, d3⟩ := w7.cp (k := k + 14) (μ0 := μ3) (src f3 14 (by decide)) (src f3 15 (by decide)) (by decide) (by decide) (by omega) l1.2.1 l0.2.1 (by decide)
  have f4 : vp_fr (vw_S k) μ μ4 := f3.tr (d2.mono (fun c hc => vw_S_in.mpr (by simp at hc; omega)))
  obtain ⟨μ5, e1, e2, e3⟩ := w8.cp (k := k + 16) (μ0 := μ4) (src f4 16 (by decide)) (src f4 17 (by decide)) (by decide) (by decide) (by omega) l1.2.2.1 l0.2.2.1 (by decide)
  have f5 : vp_fr (vw_S k) μ μ5 := f4.tr (e2.mono (fun c hc => vw_S_in.mpr (by simp at hc; omega)))
  obtain ⟨μ6, g1, g2, g3⟩ := w9.cp (k := k + 18) (μ0 := μ5) (src f5 18 (by decide)) (src f5 19 (by decide)) (by decide) (by decide) (by omega) l1.2.2.2.1 l0.2.2.2.1 (by decide)
  have f6 : vp_fr (vw_S k) μ μ6 := f5.tr (g2.mono (fun c hc => vw_S_in.mpr (by simp at hc; omega)))
  obtain ⟨μ7, i1, i2, i3⟩ := w10.cp (k := k + 20) (μ0 := μ6) (src f6 20 (by decide)) (src f6 21 (by decide)) (by decide) (by decide) (by omega) l1.2.2.2.2 l0.2.2.2.2 (by decide)
  have f7 : vp_fr (vw_S k) μ μ7 := f6.tr (i2.mono (fun c hc => vw_S_in.mpr (by simp at hc; omega)))
  have f8' : vp_fr [k] μ7 (vr_u μ7 k 7 (μ7 k0 7)) := vp_fr.u (by simp)
  have t7 : μ7 k0 = μ k0 := src f7 0 (by decide)
  have f78 : vp_fr [k, k + 20, k + 21] μ6 (vr_u μ7 k 7 (μ7 k0 7)) := (i2.mono (fun c hc => by simp at hc ⊢; omega)).tr (f8'.mono (fun c hc => by simp at hc ⊢; omega))
  have f68 : vp_fr [k, k + 18, k + 19, k + 20, k + 21] μ5 (vr_u μ7 k 7 (μ7 k0 7)) := (g2.mono (fun c hc => by simp at hc ⊢; omega)).tr (f78.mono (fun c hc => by simp at hc ⊢; omega))
  have f58 : vp_fr [k, k + 16, k + 17, k + 18, k + 19, k + 20, k + 21] μ4 (vr_u μ7 k 7 (μ7 k0 7)) := (e2.mono (fun c hc => by simp at hc ⊢; omega)).tr (f68.mono (fun c hc => by simp at hc ⊢; omega))
  have f48 : vp_fr [k, k + 14, k + 15, k + 16, k + 17, k + 18, k + 19, k + 20, k + 21] μ3 (vr_u μ7 k 7 (μ7 k0 7)) := (d2.mono (fun c hc => by simp at hc ⊢; omega)).tr (f58.mono (fun c hc => by simp at hc ⊢; omega))
  have f38 : vp_fr [k, k + 12, k + 13, k + 14, k + 15, k + 16, k + 17, k + 18, k + 19, k + 20, k + 21] μ2 (vr_u μ7 k 7 (μ7 k0 7)) := (c2.mono (fun c hc => by simp at hc ⊢; omega)).tr (f48.mono (fun c hc => by simp at hc ⊢; omega))
  have f28 : vp_fr [k, k + 7, k + 8, k + 9, k + 10, k + 12, k + 13, k + 14, k + 15, k + 16, k + 17, k + 18, k + 19, k + 20, k + 21] μ1 (vr_u μ7 k 7 (μ7 k0 7)) := (b2.mono (fun c hc => by simp at hc ⊢; omega)).tr (f38.mono (fun c hc => by simp at hc ⊢; omega))
  have hat := vl_at_cp w3 w4 b3 b4 b5
  have sl : ∀ j, 3 ≤ j → j < 9 → (vr_u μ7 k 7 (μ7 k0 7)) (k + 7) j = μ (k0 + 7) j := fun j h3 h9 => by rw [f38 (k + 7) (by simp)]; exact b3 j h3 h9
  refine ⟨vr_u μ7 k 7 (μ7 k0 7), ?_, f7.tr (f8'.mono (fun c hc => vw_S_in.mpr (by simp at hc; omega))), ⟨?_, w2⟩, ⟨w3, ?_, ?_⟩, ?_, ?_, ?_, ?_, ?_, ?_, w12⟩
  · rw [fX8_become, a1, vp_bind, b1, vp_bind, c1, vp_bind, d1, vp_bind, e1, vp_bind, g1, vp_bind, i1, vp_bind]
  · rw [vh_c_fr (fun j hj => f28 (k + 1 + j) (by simp; omega)), a3]
    exact w1
  · exact vl_at_fr hat (f38 _ (by simp)) (f38 _ (by simp; omega)) (f38 _ (by simp; omega)) (f38 _ (by simp; omega))
  · rw [sl 5 (by decide) (by decide), sl 6 (by decide) (by decide), sl 7 (by decide) (by decide), sl 8 (by decide) (by decide)]
    exact w5
  · exact c3.fr f48 (by simp) (by simp; omega)
  · exact d3.fr f58 (by simp) (by simp; omega)
  · exact e3.fr f68 (by simp) (by simp; omega)
  · exact g3.fr f78 (by simp) (by simp; omega)
  · exact i3.fr f8' (by simp) (by simp; omega)
  · rw [vp_us, t7]
    exact w11
