def vgc_S (t : Nat → Int) (e : Nat) (μ : vr_M) (p u : Nat) (a : List Int) : Prop := vn_li 13 120 0 255 μ e t ∧ μ 50 2 = (p : Int) ∧ μ 45 4 = ((u + a.length : Nat) : Int) ∧ (∀ i, i < a.length → μ 48 (u + i) = a.getD i 0) ∧ p ≤ e
def vgc_K (μ μ' : vr_M) : Prop := vp_fr [45, 48, 50] μ μ' ∧ ∀ j, j ≠ 4 → μ' 45 j = μ 45 j
theorem vgc_K.rf {μ : vr_M} : vgc_K μ μ := ⟨vp_fr.rf, fun _ _ => rfl⟩
theorem vgc_K.tr {μ μ1 μ' : vr_M} (h : vgc_K μ μ1) (g : vgc_K μ1 μ') : vgc_K μ μ' := ⟨h.1.tr g.1, fun j hj => (g.2 j hj).trans (h.2 j hj)⟩
theorem vgc_K.p {μ : vr_M} {v : Int} : vgc_K μ (vr_u μ 50 2 v) := ⟨vp_fr.u (by decide), fun j _ => by rw [vp_un (by decide)]⟩
/-- where it failed -/
def vgc_F (e : Nat) (μ : vr_M) (q : Nat) : Prop := μ 50 2 = (q : Int) ∧ q ≤ e ∧ 0 ≤ μ 45 4 ∧ μ 45 4 ≤ 120
def vgc_R (t : Nat → Int) (e u : Nat) (a : List Int) (μ : vr_M) (r : Int) (μ' : vr_M) : vg_P → Prop
  | (q, none) => r = 0 ∧ vgc_F e μ' q ∧ vgc_K μ μ'
  | (q, some ts) => r = 1 ∧ vgc_S t e μ' q u (a ++ ts) ∧ vgc_K μ μ' ∧ ∀ j, j < u → μ' 48 j = μ 48 j
theorem vgc_li {t : Nat → Int} {e : Nat} {μ μ' : vr_M} (l : vn_li 13 120 0 255 μ e t) (k : vgc_K μ μ') : vn_li 13 120 0 255 μ' e t := l.e (k.1 13 (by decide)) (k.1 14 (by decide))
theorem vgc_sees {t : Nat → Int} {e p : Nat} {μ : vr_M} {ch : Int} (l : vn_li 13 120 0 255 μ e t) (hp : μ 50 2 = (p : Int)) (hpe : p ≤ 1000) (hc : 1 ≤ ch) : fX6_sees ch μ = some (if vg_C t e p = ch then 1 else 0, μ) := by
  unfold fX6_sees fX6_sees_B20
  simp only [hp]
  rw [vp_gdT (by omega), vg_at l hpe, vp_bind, vp_gdT (by decide), vp_gdT (by decide)]
  dsimp only
  by_cases c : vg_z t e p = ch
  · rw [if_neg (fun q => q c), if_pos ((vg_zc hc).mp c)]
  · rw [if_pos c, if_neg (fun q => c ((vg_zc hc).mpr q))]
theorem vgc_take {t : Nat → Int} {e p : Nat} {μ : vr_M} {ch : Int} (l : vn_li 13 120 0 255 μ e t) (hp : μ 50 2 = (p : Int)) (hpe : p ≤ 1000) (hc : 1 ≤ ch) : fX6_take ch μ = if vg_C t e p = ch then some (1, vr_u μ 50 2 ((p + 1 : Nat) : Int)) else some (0, μ) := by
  unfold fX6_take
  simp only [hp]
  rw [vp_gdT (by omega), vg_at l hpe, vp_bind]
  simp only [hp]
  by_cases c : vg_z t e p = ch
  · rw [if_pos c, if_pos ((vg_zc hc).mp c), show (p : Int) + 1 = ((p + 1 : Nat) : Int) by omega]
  · rw [if_neg c, if_neg (fun q => c ((vg_zc hc).mpr q))]
theorem vgc_of {t : Nat → Int} {e p s : Nat} {μ : vr_M} (l : vn_li 13 120 0 255 μ e t) (hp : μ 50 2 = (p : Int)) (hpe : p ≤ 1000) (hs : s < 17) (h0 : 0 < (vg_L s).length) (h1 : ∀ a ∈ vg_L s, 1 ≤ a) : fX6_takeOf s μ = some (vg_ix (vg_L s) (vg_C t e p) 0, if vg_ix (vg_L s) (vg_C t e p) 0 < 0 then μ else vr_u μ 50 2 ((p + 1 : Nat) : Int)) := by
  have hz := vg_z_in l p
  have ex : vg_ix (vg_L s) (vg_z t e p) 0 = vg_ix (vg_L s) (vg_C t e p) 0 := vg_ix_c _ _ _ _ (fun a ha => by
    have := h1 a ha
    constructor
    · intro q
      exact ((vg_zc this).mp q.symm).symm
    · intro q
      exact ((vg_zc this).mpr q.symm).symm)
  unfold fX6_takeOf fX6_takeOf_B31
  simp only [hp]
  rw [vp_gdT (by omega), vg_at l hpe, vp_bind]
  dsimp only
  rw [(vg_i2 hz).1, vg_idx hs h0 hz, vp_bind, ex]
  simp only [hp]
  by_cases c : vg_ix (vg_L s) (vg_C t e p) 0 < 0
  · rw [if_pos c, if_pos c]
  · rw [if_neg c, if_neg c, show (p : Int) + 1 = ((p + 1 : Nat) : Int) by omega]
theorem vg_L6 : vg_L 6 = [99, 121, 115, 119, 112] := by decide
theorem vg_L7 : vg_L 7 = [60, 61, 62] := by decide
theorem vg_L8 : vg_L 8 = [48, 49, 50, 51, 52, 53, 54, 55, 56, 57] := by decide
theorem vg_ix_d (x : Int) : vg_ix [48, 49, 50, 51, 52, 53, 54, 55, 56, 57] x 0 = vg_d x := by
  unfold vg_d
  simp only [vg_ix]
  (repeat' split) <;> omega
theorem vgc_of6 {t : Nat → Int} {e p : Nat} {μ : vr_M} (l : vn_li 13 120 0 255 μ e t) (hp : μ 50 2 = (p : Int)) (hpe : p ≤ 1000) : fX6_takeOf 6 μ = some (vg_lt (vg_C t e p), if vg_lt (vg_C t e p) < 0 then μ else vr_u μ 50 2 ((p + 1 : Nat) : Int)) := by
  have h := vgc_of (s := 6) l hp hpe (by decide) (by rw [vg_L6]; decide) (by rw [vg_L6]; decide)
  rw [vg_L6] at h
  exact h
theorem vgc_of7 {t : Nat → Int} {e p : Nat} {μ : vr_M} (l : vn_li 13 120 0 255 μ e t) (hp : μ 50 2 = (p : Int)) (hpe : p ≤ 1000) : fX6_takeOf 7 μ = some (vg_sg (vg_C t e p), if vg_sg (vg_C t e p) < 0 then μ else vr_u μ 50 2 ((p + 1 : Nat) : Int)) := by
  have h := vgc_of (s := 7) l hp hpe (by decide) (by rw [vg_L7]; decide) (by rw [vg_L7]; decide)
  rw [vg_L7] at h
  exact h
theorem vgc_of8 {t : Nat → Int} {e p : Nat} {μ : vr_M} (l : vn_li 13 120 0 255 μ e t) (hp : μ 50 2 = (p : Int)) (hpe : p ≤ 1000) : fX6_takeOf 8 μ = some (vg_d (vg_C t e p), if vg_d (vg_C t e p) < 0 then μ else vr_u μ 50 2 ((p + 1 : Nat) : Int)) := by
  have h := vgc_of (s := 8) l hp hpe (by decide) (by rw [vg_L8]; decide) (by rw [vg_L8]; decide)
  rw [vg_L8, vg_ix_d] at h
  exact h
theorem vgc_num {t : Nat → Int} {e p : Nat} {μ : vr_M} (l : vn_li 13 120 0 255 μ e t) (hp : μ 50 2 = (p : Int)) (hpe : p ≤ 900) : ∃ μ', fX6_readNumber μ = some (vg_nv (vg_C t e) p, μ') ∧ vp_fr [50] μ μ' ∧ μ' 50 2 = ((vg_np (vg_C t e) p : Nat) : Int) := by
  have hd : ∀ x, -1 ≤ vg_d x ∧ vg_d x ≤ 9 := fun x => by unfold vg_d; split <;> omega
  have d0 := hd (vg_C t e p)
  have d1 := hd (vg_C t e (p + 1))
  have o0 := vgc_of8 l hp (by omega)
  unfold fX6_readNumber fX6_readNumber_B21 fX6_readNumber_B36 vg_nv vg_np
  rw [o0, vp_bind]
  dsimp only
  by_cases c1 : vg_d (vg_C t e p) < 0
  · refine ⟨μ, ?_, vp_fr.rf, by rw [if_pos c1]; exact hp⟩
    rw [if_neg (by omega), if_neg (by decide), if_pos c1, if_pos c1, show vg_d (vg_C t e p) = -1 by omega]
  · have fu : vp_fr [50] μ (vr_u μ 50 2 ((p + 1 : Nat) : Int)) := vp_fr.u (by decide)
    have l1 : vn_li 13 120 0 255 (vr_u μ 50 2 ((p + 1 : Nat) : Int)) e t := l.fr fu (by decide) (by decide)
    rw [if_neg c1, if_neg c1, if_neg c1]
    by_cases c2 : vg_d (vg_C t e p) = 0
    · refine ⟨_, ?_, fu, by rw [if_pos c2]; exact vp_us⟩
      rw [if_neg (by omega), if_neg (by decide), if_pos c2, c2]
    · have o1 := vgc_of8 l1 vp_us (show p + 1 ≤ 1000 by omega)
      rw [if_pos (by omega), o1, vp_bind, if_neg c2, if_neg c2]
      dsimp only
      by_cases c3 : vg_d (vg_C t e (p + 1)) < 0
      · refine ⟨_, ?_, fu, by rw [if_pos c3]; exact vp_us⟩
        rw [if_neg (by omega), if_pos c3, if_pos c3]
      · refine ⟨vr_u (vr_u μ 50 2 ((p + 1 : Nat) : Int)) 50 2 ((p + 1 + 1 : Nat) : Int), ?_, fu.tr (vp_fr.u (by decide)), by rw [if_neg c3]; exact vp_us⟩
        rw [if_pos (by omega), if_neg c3, if_neg c3, vp_gdT (by omega)]
theorem vgc_step {n : Nat} {x : Int} {μ : vr_M} (h : μ 45 4 = (n : Int)) (hn : n < 120) : fX3_putStep 45 x μ = some (0, vr_u (vr_u μ 48 n x) 45 4 ((n + 1 : Nat) : Int)) := by
  have e4 : vr_u μ 48 n x 45 4 = (n : Int) := by rw [vp_un (by decide), h]
  unfold fX3_putStep fX3_putStep_B36
  simp only [h]
  rw [vp_gdT (by omega), if_neg (by omega), if_neg (by omega), vp_gdT (by omega), vp_let, show ((n : Int)).toNat = n from rfl, show 45 + 3 = 48 from rfl, e4, show (n : Int) + 1 = ((n + 1 : Nat) : Int) by omega]
theorem vgc_stepF {e q : Nat} {x : Int} {μ : vr_M} (h : vgc_F e μ q) : ∃ μ', fX3_putStep 45 x μ = some (0, μ') ∧ vgc_F e μ' q ∧ vgc_K μ μ' := by
  obtain ⟨h1, h2, h3, h4⟩ := h
  obtain ⟨n, hn⟩ : ∃ n : Nat, μ 45 4 = (n : Int) := ⟨(μ 45 4).toNat, by omega⟩
  by_cases c : n < 120
  · refine ⟨_, vgc_step hn c, ⟨?_, h2, ?_, ?_⟩, ⟨(vp_fr.u (by decide)).tr (vp_fr.u (by decide)), fun j hj => by rw [vp_uj hj, vp_un (by decide)]⟩⟩
    · rw [vp_un (by decide), vp_un (by decide)]; exact h1
    · rw [vp_us]; omega
    · rw [vp_us]; omega
  · refine ⟨μ, ?_, ⟨h1, h2, h3, h4⟩, vgc_K.rf⟩
    unfold fX3_putStep fX3_putStep_B36
    rw [vp_gdT (by omega), if_neg (by omega), if_pos (by omega)]
theorem vgc_put {t : Nat → Int} {e p u : Nat} {a : List Int} {x : Int} {μ : vr_M} (h : vgc_S t e μ p u a) (hl : u + a.length < 120) : ∃ μ', fX3_putStep 45 x μ = some (0, μ') ∧ vgc_S t e μ' p u (a ++ [x]) ∧ vgc_K μ μ' ∧ ∀ j, j < u → μ' 48 j = μ 48 j := by
  obtain ⟨h1, h2, h3, h4, h5⟩ := h
  have k : vgc_K μ (vr_u (vr_u μ 48 (u + a.length) x) 45 4 ((u + a.length + 1 : Nat) : Int)) := ⟨(vp_fr.u (by decide)).tr (vp_fr.u (by decide)), fun j hj => by rw [vp_uj hj, vp_un (by decide)]⟩
  refine ⟨_, vgc_step h3 hl, ⟨vgc_li h1 k, ?_, ?_, fun i hi => ?_, h5⟩, k, fun j hj => by rw [vp_un (by decide), vp_uj (by omega)]⟩
  · rw [vp_un (by decide), vp_un (by decide)]; exact h2
  · rw [vp_us]; simp; omega
  · rw [vp_un (by decide)]
    simp only [List.length_append, List.length_cons, List.length_nil] at hi
    by_cases z : i = a.length
    · subst z
      rw [vp_us]
      simp [List.getD, List.getElem?_append]
    · have hi2 : i < a.length := by omega
      rw [vp_uj (by omega), h4 i hi2]
      simp [List.getD, List.getElem?_append, hi2]
theorem vgc_go {t : Nat → Int} {e p u : Nat} {a : List Int} {μ : vr_M} (h : vgc_S t e μ p u a) (hp : p + 1 ≤ e) : vgc_S t e (vr_u μ 50 2 ((p + 1 : Nat) : Int)) (p + 1) u a := by
  obtain ⟨h1, h2, h3, h4, h5⟩ := h
  exact ⟨vgc_li h1 vgc_K.p, vp_us, by rw [vp_un (by decide)]; exact h3, fun i hi => by rw [vp_un (by decide)]; exact h4 i hi, hp⟩
theorem vgc_SF {t : Nat → Int} {e p u : Nat} {a : List Int} {μ : vr_M} (h : vgc_S t e μ p u a) (hu : u + a.length ≤ p) : vgc_F e μ p := by
  obtain ⟨h1, h2, h3, h4, h5⟩ := h
  have := h1.2.1
  exact ⟨h2, h5, by omega, by omega⟩
theorem vg_CE (t : Nat → Int) (e : Nat) : vg_E (vg_C t e) e := fun i hi => by unfold vg_C; rw [if_neg (by omega)]
theorem vgc_test {t : Nat → Int} {e p u : Nat} {a : List Int} {μ : vr_M} {rc : Int → vr_M → Option (Int × vr_M)} (h : vgc_S t e μ p u a) (hu : u + a.length ≤ p) :
    ∃ r μ', (fX6_takeOf 6 μ).bind (fun r9 => if 0 ≤ r9.1 then (fX6_takeOf 7 r9.2).bind (fun r10 => fX6_readOne_B60 rc r9.1 r10.1 r10.2) else fX6_readOne_B60 rc r9.1 (-1) r9.2) = some (r, μ') ∧ vgc_R t e u a μ r μ' (vg_test (vg_C t e) p) := by
  have hE := vg_CE t e
  have e120 := h.1.2.1
  have pe := h.2.2.2.2
  have g := vg_test_G hE pe
  have o6 := vgc_of6 h.1 h.2.1 (by omega)
  have lt := vg_lt_in (vg_C t e p)
  have sg := vg_sg_in (vg_C t e (p + 1))
  have nv := vg_nv_in (vg_C t e) (p + 2)
  rw [o6, vp_bind]
  dsimp only
  unfold fX6_readOne_B60 fX6_readOne_B73
  unfold vg_test at g ⊢
  by_cases c1 : vg_lt (vg_C t e p) < 0
  · rw [if_pos c1, if_neg (by omega), if_neg (by decide), if_neg (by decide), if_pos c1]
    exact ⟨0, μ, rfl, rfl, vgc_SF h hu, vgc_K.rf⟩
  · rw [if_neg c1] at g ⊢
    have p1 : p < e := hE.lt (fun q => by rw [q, vg_lt_0.1] at c1; exact c1 (by decide))
    have h1 := vgc_go h (by omega)
    have o7 := vgc_of7 h1.1 h1.2.1 (by omega)
    rw [if_pos (by omega), o7, vp_bind, if_neg c1]
    dsimp only
    by_cases c2 : vg_sg (vg_C t e (p + 1)) < 0
    · rw [if_pos c2, if_neg (by omega), if_neg (by decide), if_pos c2]
      exact ⟨0, _, rfl, rfl, vgc_SF h1 (by omega), vgc_K.p⟩
    · rw [if_neg c2] at g ⊢
      have p2 : p + 1 < e := hE.lt (fun q => by rw [q, vg_lt_0.2.1] at c2; exact c2 (by decide))
      have h2 := vgc_go h1 (by omega)
      obtain ⟨μ3, n1, n2, n3⟩ := vgc_num h2.1 h2.2.1 (by omega)
      rw [show p + 1 + 1 = p + 2 from rfl] at n1 n3
      have k3 : vgc_K μ μ3 := (vgc_K.p.tr vgc_K.p).tr ⟨n2.mono (by decide), fun j _ => by rw [n2 45 (by decide)]⟩
      rw [if_pos (by omega), n1, vp_bind, if_neg c2]
      dsimp only
      by_cases c3 : vg_nv (vg_C t e) (p + 2) < 0
      · rw [if_neg (by omega), if_pos c3]
        have np := (vg_np_G hE (show p + 2 ≤ e by omega)).1 c3
        refine ⟨0, μ3, rfl, rfl, ⟨by rw [n3, np], by omega, ?_, ?_⟩, k3⟩
        · rw [n2 45 (by decide), h2.2.2.1]; omega
        · rw [n2 45 (by decide), h2.2.2.1]; omega
      · rw [if_neg c3] at g ⊢
        obtain ⟨g1, g2, g3⟩ := g
        have s3 : vgc_S t e μ3 (vg_np (vg_C t e) (p + 2)) u a := ⟨vgc_li h.1 k3, n3, by rw [n2 45 (by decide)]; exact h2.2.2.1, fun i hi => by rw [n2 48 (by decide)]; exact h2.2.2.2.1 i hi, g2⟩
        obtain ⟨μ4, q1, q2, q3, q4⟩ := vgc_put (x := (vg_lt (vg_C t e p) * 3 + vg_sg (vg_C t e (p + 1))) * 100 + vg_nv (vg_C t e) (p + 2)) s3 (by simp at g3; omega)
        refine ⟨1, μ4, ?_, rfl, q2, k3.tr q3, fun j hj => by rw [q4 j hj, n2 48 (by decide), vp_un (by decide), vp_un (by decide)]⟩
        rw [if_pos (by omega)]
        unfold fX3_testStep
        rw [vp_gdT (by omega), vp_bind]
        dsimp only
        rw [q1, vp_bind]
