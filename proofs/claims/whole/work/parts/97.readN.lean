theorem vgm_X {e q : Nat} {μ : vr_M} (h : vgm_F e μ q) : μ 68 8 = 1 := h.1
theorem vgm_mustF {e q : Nat} {ch : Int} {A : Nat} {μ : vr_M} (h : vgm_F e μ q) (he : e ≤ 120) : ∃ μ', fX10_must ch μ = some (0, μ') ∧ vgm_F e μ' q ∧ vgm_K A μ μ' ∧ μ' 68 9 = μ 68 9 := by
  obtain ⟨h1, h2, h3⟩ := h
  have n8 : vr_u μ 68 8 1 68 8 = 1 := vp_us
  have n6 : vr_u μ 68 8 1 68 6 = (q : Int) := by rw [vp_uj (by decide), h2]
  refine ⟨vr_u (vr_u μ 68 8 1) 68 6 ((q : Int) + 0), ?_, ⟨by rw [vp_uj (by decide), vp_us], by rw [vp_us]; omega, h3⟩, (vgm_K.u (by decide)).tr (vgm_K.u (by decide)), by rw [vp_uj (by decide), vp_uj (by decide)]⟩
  unfold fX10_must fX10_must_B16 fX10_must_B21 fX10_must_B41
  rw [h1, vp_gdT (by decide), if_pos (by decide), vp_gdT (by decide), vp_let]
  simp only [n8, n6]
  rw [vp_gdT (by decide), if_neg (by decide), vp_gdT (by omega)]
theorem vgm_must {t : Nat → Int} {e A p u : Nat} {a : List Int} {ch : Int} {μ : vr_M} (h : vgm_S t e A μ p u a) (hc : 1 ≤ ch) : ∃ μ', fX10_must ch μ = some (0, μ') ∧ vgm_K A μ μ' ∧ μ' 68 9 = μ 68 9 ∧ μ' 69 = μ 69 ∧ (if vg_C t e p = ch then vgm_S t e A μ' (p + 1) u a else vgm_F e μ' p) := by
  have hE := vg_CE t e
  have hh := vgm_here h
  have h6 := h.1.1
  have h8 := h.1.2.2.1
  have he := h.2.2.2.2
  unfold fX10_must fX10_must_B16 fX10_must_B21 fX10_must_B41
  rw [h8, vp_gdT (by decide), if_neg (by decide), hh, vp_bind]
  dsimp only
  by_cases c : vg_C t e p = ch
  · have p1 : p < e := hE.lt (fun q => by rw [q] at c; omega)
    have n8 : vr_u μ 68 8 0 68 8 = 0 := vp_us
    have n6 : vr_u μ 68 8 0 68 6 = (p : Int) := by rw [vp_uj (by decide), h6]
    refine ⟨vr_u (vr_u μ 68 8 0) 68 6 ((p + 1 : Nat) : Int), ?_, (vgm_K.u (by decide)).tr (vgm_K.u (by decide)), by rw [vp_uj (by decide), vp_uj (by decide)], by rw [vp_uc (by decide), vp_uc (by decide)], ?_⟩
    · rw [if_pos c, vp_gdT (by decide), vp_let]
      simp only [n8, n6]
      rw [vp_gdT (by decide), if_pos trivial, vp_gdT (by omega), show (p : Int) + 1 = ((p + 1 : Nat) : Int) by omega]
    · rw [if_pos c]
      exact vgm_st h (by rw [vp_uc (by decide), vp_uc (by decide)]) vp_us (by rw [vp_uj (by decide), vp_uj (by decide)]) (by rw [vp_uj (by decide), vp_us]) (by rw [vp_uj (by decide), vp_uj (by decide)]) (by omega)
  · have n8 : vr_u μ 68 8 1 68 8 = 1 := vp_us
    have n6 : vr_u μ 68 8 1 68 6 = (p : Int) := by rw [vp_uj (by decide), h6]
    refine ⟨vr_u (vr_u μ 68 8 1) 68 6 ((p : Int) + 0), ?_, (vgm_K.u (by decide)).tr (vgm_K.u (by decide)), by rw [vp_uj (by decide), vp_uj (by decide)], by rw [vp_uc (by decide), vp_uc (by decide)], ?_⟩
    · rw [if_neg c, vp_gdT (by decide), vp_let]
      simp only [n8, n6]
      rw [vp_gdT (by decide), if_neg (by decide), vp_gdT (by omega)]
    · rw [if_neg c]
      exact ⟨by rw [vp_uj (by decide), vp_us], by rw [vp_us]; omega, he.1⟩
theorem vm_e_test {l s n : Int} (hl : 0 ≤ l ∧ l < 5) (hs : 0 ≤ s ∧ s < 3) (hn : 0 ≤ n ∧ n ≤ 99) : l + 8 * s + 32 * n = vm_e ((l * 3 + s) * 100 + n) := by
  unfold vm_e
  rw [if_neg (by omega)]
  omega
theorem vgm_RK {t : Nat → Int} {e A u : Nat} {a : List Int} {μ0 μ μ' : vr_M} {x : vg_P} (k : vgm_K A μ0 μ) (o : μ 68 9 = μ0 68 9) (q : ∀ j, 233 + 140 * A ≤ j → j < 233 + 140 * A + u → μ 69 j = μ0 69 j) (h : vgm_R t e A u a μ μ' x) : vgm_R t e A u a μ0 μ' x := by
  match x with
  | (q', none) => exact ⟨h.1, k.tr h.2.1, h.2.2.trans o⟩
  | (q', some ts) => exact ⟨h.1, k.tr h.2.1, h.2.2.1.trans o, fun j j1 j2 => (h.2.2.2 j j1 j2).trans (q j j1 j2)⟩
theorem vgm_test {t : Nat → Int} {e A p u : Nat} {a : List Int} {μ : vr_M} {rc : vr_M → Option (Int × vr_M)} (h : vgm_S t e A μ p u a) (hu : u + a.length ≤ p) :
    ∃ μ', (fX10_among 11 μ).bind (fun r23 => if ¬ r23.1 = (-1) then fX10_factor_B130 rc r23.1 0 r23.2 else fX10_factor_B130 rc r23.1 1 r23.2) = some (0, μ') ∧ vgm_R t e A u a μ μ' (vg_test (vg_C t e) p) := by
  have hE := vg_CE t e
  obtain ⟨⟨s6, s7, s8, s5⟩, ht, hm, hs, hp, he, hA⟩ := id h
  have g := vg_test_G hE hp
  have lt := vg_lt_in (vg_C t e p)
  have sg := vg_sg_in (vg_C t e (p + 1))
  have nv := vg_nv_in (vg_C t e) (p + 2)
  have wrong : ∀ (x2 x3 : Int) (μ1 : vr_M) (q : Nat), (-1 ≤ x2 ∧ x2 < 5) → (-1 ≤ x3 ∧ x3 < 3) → μ1 68 6 = (q : Int) → q ≤ e → vgm_K A μ μ1 → μ1 68 9 = μ 68 9 → ∃ μ', fX10_factor_B164 rc x2 x3 μ1 = some (0, μ') ∧ vgm_R t e A u a μ μ' (q, none) := by
    intro x2 x3 μ1 q h2 h3 q6 qe k o
    have w8 : vr_u μ1 68 8 1 68 8 = 1 := vp_us
    have w8' : vr_u (vr_u μ1 68 8 1) 68 8 1 68 8 = 1 := vp_us
    refine ⟨vr_u (vr_u μ1 68 8 1) 68 8 1, ?_, ⟨w8', by rw [vp_uj (by decide), vp_uj (by decide), q6], qe⟩, (k.tr (vgm_K.u (by decide))).tr (vgm_K.u (by decide)), by rw [vp_uj (by decide), vp_uj (by decide), o]⟩
    unfold fX10_factor_B164 fX10_factor_B169
    rw [vp_gdT (by decide), vgm_figF w8, vp_bind]
    dsimp only
    rw [vp_gdT (by omega), vgm_emitF w8', vp_bind]
  have o11 := vgm_among11 s6 s7 ht he (show p ≤ 1000 by omega)
  rw [o11, vp_bind]
  unfold vg_test at g ⊢
  unfold fX10_factor_B130 fX10_factor_B150
  dsimp only
  by_cases c1 : vg_lt (vg_C t e p) < 0
  · have e1 : vg_lt (vg_C t e p) = -1 := by omega
    rw [if_pos c1, if_neg (by omega), vp_gdT (by decide), vp_let, if_pos c1]
    have w8 : vr_u μ 68 8 1 68 8 = 1 := vp_us
    simp only [w8]
    rw [vp_gdT (by decide), if_neg (by decide), vp_gdT (by decide), if_pos (by decide)]
    exact wrong _ _ _ p (by omega) (by decide) (by rw [vp_uj (by decide), s6]) hp (vgm_K.u (by decide)) (by rw [vp_uj (by decide)])
  · rw [if_neg c1] at g
    have p1 : p < e := hE.lt (fun q => by rw [q, vg_lt_0.1] at c1; exact c1 (by decide))
    rw [if_neg c1, if_pos (by omega), vp_gdT (by decide), vp_let, if_neg c1]
    generalize hM : vr_u (vr_u μ 68 6 ((p + 1 : Nat) : Int)) 68 8 0 = M
    have kM : vgm_K A μ M := by rw [← hM]; exact (vgm_K.u (by decide)).tr (vgm_K.u (by decide))
    have M6 : M 68 6 = ((p + 1 : Nat) : Int) := by rw [← hM, vp_uj (by decide), vp_us]
    have M7 : M 68 7 = (e : Int) := by rw [kM.2.1 7 (by decide) (by decide) (by decide), s7]
    have M8 : M 68 8 = 0 := by rw [← hM, vp_us]
    have M9 : M 69 = μ 69 := by rw [← hM, vp_uc (by decide), vp_uc (by decide)]
    have Mo : M 68 9 = μ 68 9 := by rw [← hM, vp_uj (by decide), vp_uj (by decide)]
    have o12 := vgm_among12 M6 M7 (by rw [M9]; exact ht) he (show p + 1 ≤ 1000 by omega)
    simp only [M8]
    rw [vp_gdT (by decide), if_pos trivial, o12, vp_bind]
    dsimp only
    by_cases c2 : vg_sg (vg_C t e (p + 1)) < 0
    · rw [if_pos c2]
      simp only [M8]
      rw [vp_gdT (by decide), if_neg (by decide), if_neg (by omega), if_pos c2]
      exact wrong _ _ M (p + 1) (by omega) (by omega) M6 (by omega) kM Mo
    · rw [if_neg c2] at g
      have p2 : p + 1 < e := hE.lt (fun q => by rw [q, vg_lt_0.2.1] at c2; exact c2 (by decide))
      rw [if_neg c2, if_neg c2]
      have n8 : vr_u M 68 6 ((p + 1 + 1 : Nat) : Int) 68 8 = 0 := by rw [vp_uj (by decide), M8]
      simp only [n8]
      rw [vp_gdT (by decide), if_neg (by decide), if_pos (by omega)]
      unfold fX10_factor_B169
      generalize hN : vr_u (vr_u M 68 6 ((p + 1 + 1 : Nat) : Int)) 68 8 0 = N
      have kN : vgm_K A μ N := by rw [← hN]; exact (kM.tr (vgm_K.u (by decide))).tr (vgm_K.u (by decide))
      have N6 : N 68 6 = ((p + 2 : Nat) : Int) := by rw [← hN, vp_uj (by decide), vp_us]
      have N7 : N 68 7 = (e : Int) := by rw [kN.2.1 7 (by decide) (by decide) (by decide), s7]
      have N8 : N 68 8 = 0 := by rw [← hN, vp_us]
      have N9 : N 69 = μ 69 := by rw [← hN, vp_uc (by decide), vp_uc (by decide), M9]
      have No : N 68 9 = μ 68 9 := by rw [← hN, vp_uj (by decide), vp_uj (by decide), Mo]
      obtain ⟨μ3, f1, f2, f3, f4, f5⟩ := vgm_fig N6 N7 N8 (by rw [N9]; exact ht) he (show p + 2 ≤ 900 by omega)
      have k3 : vgm_K A μ μ3 := kN.tr ⟨f2.mono (by decide), fun j h1 h2 _ => f3 j h1 h2, fun j _ _ => by rw [f2 69 (by decide)]⟩
      have o3 : μ3 68 9 = μ 68 9 := by rw [f3 9 (by decide) (by decide), No]
      have np := vg_np_G hE (show p + 2 ≤ e by omega)
      rw [vp_gdT (by decide), f1, vp_bind]
      dsimp only
      by_cases c3 : vg_nv (vg_C t e) (p + 2) < 0
      · rw [if_pos c3] at f5
        rw [if_pos c3, if_pos c3, vp_gdT (by omega), vgm_emitF f5, vp_bind]
        exact ⟨μ3, rfl, ⟨f5, by rw [f4, np.1 c3], by omega⟩, k3, o3⟩
      · rw [if_neg c3] at f5 g
        obtain ⟨g1, g2, g3⟩ := g
        have s3 : vgm_S t e A μ3 (vg_np (vg_C t e) (p + 2)) u a := vgm_st h (by rw [f2 69 (by decide), N9]) f4 (k3.2.1 7 (by decide) (by decide) (by decide)) f5 (k3.2.1 5 (by decide) (by decide) (by decide)) g2
        obtain ⟨μ4, q1, q2, q3, q4, q5⟩ := vgm_emit (x := (vg_lt (vg_C t e p) * 3 + vg_sg (vg_C t e (p + 1))) * 100 + vg_nv (vg_C t e) (p + 2)) (y := vg_lt (vg_C t e p) + 8 * vg_sg (vg_C t e (p + 1)) + 32 * vg_nv (vg_C t e) (p + 2)) s3 (by simp at g3; omega) (vm_e_test (by omega) (by omega) (by omega))
        rw [if_neg c3, if_neg c3, vp_gdT (by omega), q1, vp_bind]
        exact ⟨μ4, rfl, q2, k3.tr q3, q4.trans o3, fun j j1 j2 => by rw [q5 j j1 j2, f2 69 (by decide), N9]⟩
/-- one factor with k more open -/
def vgm_P (t : Nat → Int) (e A k : Nat) : Prop := ∀ (d : Nat), k + 2 ≤ d → ∀ (p u : Nat) (a : List Int) (μ : vr_M), vgm_S t e A μ p u a → u + a.length ≤ p → μ 68 9 = 5 - (k : Int) →
  ∃ μ', fX10_factor d μ = some (0, μ') ∧ vgm_R t e A u a μ μ' (vg_one (vg_C t e) k p)
theorem vgm_rcF {d : Nat} {μ : vr_M} (h : μ 68 8 = 1) : fX10_factor (d + 1) μ = some (0, μ) := by
  rw [fX10_factor, fX10_factor_1, h, vp_gdT (by decide), if_neg (by decide)]
theorem vgm_everyF {d n : Nat} {μ : vr_M} (h : μ 68 8 = 1) : fX10_every_L4 (fX10_factor d) (n + 1) μ = some (0, μ) := by
  rw [fX10_every_L4.eq_2, h, vp_gdT (by decide), if_pos (by decide)]
  rfl
theorem vgm_someF {d n : Nat} {μ : vr_M} (h : μ 68 8 = 1) : fX10_some_L4 (fX10_factor d) (n + 1) μ = some (0, μ) := by
  rw [fX10_some_L4.eq_2, h, vp_gdT (by decide), if_pos (by decide)]
  rfl
/-- behind the last & -/
def vgm_KK (d : Nat) (b : Bool) (n : Nat) (μ : vr_M) : Option (Int × vr_M) := if b = true then (fX10_emits (-3) μ).bind (fun r4 => fX10_some_L4 (fX10_factor d) n r4.2) else fX10_some_L4 (fX10_factor d) n μ
theorem vgm_KF {d n : Nat} {b : Bool} {μ : vr_M} (h : μ 68 8 = 1) : vgm_KK d b (n + 1) μ = some (0, μ) := by
  unfold vgm_KK
  cases b
  · rw [if_neg (by decide)]; exact vgm_someF h
  · rw [if_pos rfl, vgm_emitF h, vp_bind]; exact vgm_someF h
theorem vgm_anyL {t : Nat → Int} {e A k d : Nat} (hP : vgm_P t e A k) (hd : k + 2 ≤ d) {u : Nat} {a0 : List Int} :
    ∀ (f : Nat) (b : Bool) (p : Nat) (a : List Int) (nE nS : Nat) (μ : vr_M), f ≤ 200 → e - p < f → f < nE → f < nS → vgm_S t e A μ p u (a0 ++ a) → u + (a0 ++ a).length + b.toNat ≤ p → μ 68 9 = 5 - (k : Int) →
      ∃ μ', (fX10_every_L4 (fX10_factor d) nE μ).bind (fun r => vgm_KK d b nS r.2) = some (0, μ') ∧ vgm_R t e A u a0 μ μ' (vg_lp (vg_C t e) (vg_one (vg_C t e) k) f b p a) := by
  have hE := vg_CE t e
  intro f
  induction f with
  | zero => intro b p a nE nS μ h200 hf; omega
  | succ f ih =>
    intro b p a nE nS μ h200 hf hnE hnS h hl ho
    obtain ⟨nE, rfl⟩ : ∃ m, nE = m + 1 := ⟨nE - 1, by omega⟩
    obtain ⟨nS, rfl⟩ : ∃ m, nS = m + 1 := ⟨nS - 1, by omega⟩
    have he := h.2.2.2.2
    have hh := vgm_here h
    have h8 := h.1.2.2.1
    have h6 := h.1.1
    have go : ∀ {μ : vr_M} {ws : List Int}, vgm_S t e A μ p u ws → p + 1 ≤ e → vgm_S t e A (vr_u μ 68 6 ((p + 1 : Nat) : Int)) (p + 1) u ws := fun h he => vgm_st h (vp_uc (by decide)) vp_us (vp_uj (by decide)) (by rw [vp_uj (by decide)]; exact h.1.2.2.1) (vp_uj (by decide)) he
    rw [vg_lp]
    by_cases c1 : vg_C t e p = 38
    · have p1 : p < e := hE.lt (fun q => by rw [q] at c1; omega)
      have h1 := go h (by omega)
      have gG := vg_one_G hE k (p + 1) (by omega)
      obtain ⟨μ1, y1, y2⟩ := hP d hd (p + 1) u (a0 ++ a) _ h1 (by omega) (by rw [vp_uj (by decide)]; exact ho)
      have e0 : fX10_every_L4 (fX10_factor d) (nE + 1) μ = (fX10_emits (-2) μ1).bind (fun r4 => fX10_every_L4 (fX10_factor d) nE r4.2) := by
        rw [fX10_every_L4.eq_2, h8, vp_gdT (by decide), if_neg (by decide), hh, vp_bind, if_neg (fun q => q c1)]
        dsimp only
        rw [h6, show (p : Int) + 1 = ((p + 1 : Nat) : Int) by omega, y1, vp_bind]
      rw [e0, if_pos c1]
      match hm : vg_one (vg_C t e) k (p + 1) with
      | (q, none) =>
        rw [hm] at y2
        obtain ⟨x1, x2, x3⟩ := y2
        obtain ⟨m, rfl⟩ : ∃ m, nE = m + 1 := ⟨nE - 1, by omega⟩
        refine ⟨μ1, ?_, x1, (vgm_K.u (by decide)).tr x2, by rw [x3, vp_uj (by decide)]⟩
        rw [vgm_emitF x1.1, vp_bind, vgm_everyF x1.1, vp_bind, vgm_KF x1.1]
      | (q, some ts) =>
        rw [hm] at y2 gG
        obtain ⟨x1, x2, x3, x4⟩ := y2
        obtain ⟨g1, g2, g3⟩ := gG
        obtain ⟨μ3, z1, z2, z3, z4, z5⟩ := vgm_emit (x := -2) (y := -2) x1 (by simp at hl ⊢; omega) rfl
        have s3 : vgm_S t e A μ3 q u (a0 ++ (a ++ ts ++ [-2])) := by
          have e9 : a0 ++ (a ++ ts ++ [-2]) = a0 ++ a ++ ts ++ [-2] := by simp
          rw [e9]; exact z2
        obtain ⟨μ', w1, w2⟩ := ih b q (a ++ ts ++ [-2]) nE (nS + 1) μ3 (by omega) (by omega) (by omega) (by omega) s3 (by simp at hl ⊢; omega) (by rw [z4, x3, vp_uj (by decide)]; exact ho)
        refine ⟨μ', by rw [z1, vp_bind]; exact w1, vgm_RK (((vgm_K.u (by decide)).tr x2).tr z3) (by rw [z4, x3, vp_uj (by decide)]) (fun j j1 j2 => by rw [z5 j j1 j2, x4 j j1 j2, vp_uc (by decide)]) w2⟩
    · have e0 : fX10_every_L4 (fX10_factor d) (nE + 1) μ = some (0, μ) := by
        rw [fX10_every_L4.eq_2, h8, vp_gdT (by decide), if_neg (by decide), hh, vp_bind, if_pos c1]
        rfl
      rw [e0, vp_bind, if_neg c1]
      dsimp only
      have lo : (vg_or b a).length ≤ a.length + b.toNat := by unfold vg_or; cases b <;> simp
      have fin : ∀ (μ1 : vr_M), vgm_S t e A μ1 p u (a0 ++ vg_or b a) → vgm_K A μ μ1 → μ1 68 9 = μ 68 9 → (∀ j, 233 + 140 * A ≤ j → j < 233 + 140 * A + u → μ1 69 j = μ 69 j) → ∃ μ', fX10_some_L4 (fX10_factor d) (nS + 1) μ1 = some (0, μ') ∧ vgm_R t e A u a0 μ μ' (if vg_C t e p = 124 then (match vg_one (vg_C t e) k (p + 1) with | (q, none) => (q, none) | (q, some ts) => vg_lp (vg_C t e) (vg_one (vg_C t e) k) f true q (vg_or b a ++ ts)) else (p, some (vg_or b a))) := by
        intro μ1 s1 k1 o1 j1
        have h8' := s1.1.2.2.1
        have hh' := vgm_here s1
        have h6' := s1.1.1
        by_cases c2 : vg_C t e p = 124
        · have p1 : p < e := hE.lt (fun q => by rw [q] at c2; omega)
          have h1 := go s1 (by omega)
          have gG := vg_one_G hE k (p + 1) (by omega)
          have hl' : u + (a0 ++ vg_or b a).length ≤ p := by simp at hl ⊢; omega
          obtain ⟨μ2, y1, y2⟩ := hP d hd (p + 1) u (a0 ++ vg_or b a) _ h1 (by omega) (by rw [vp_uj (by decide), o1]; exact ho)
          have e1 : fX10_some_L4 (fX10_factor d) (nS + 1) μ1 = (fX10_every_L4 (fX10_factor d) 9000 μ2).bind (fun r => vgm_KK d true nS r.2) := by
            rw [fX10_some_L4.eq_2, h8', vp_gdT (by decide), if_neg (by decide), hh', vp_bind, if_neg (fun q => q c2)]
            dsimp only
            rw [h6', show (p : Int) + 1 = ((p + 1 : Nat) : Int) by omega, fX10_every, y1, vp_bind]
            unfold vgm_KK
            simp only [if_true]
          rw [e1, if_pos c2]
          match hm : vg_one (vg_C t e) k (p + 1) with
          | (q, none) =>
            rw [hm] at y2
            obtain ⟨x1, x2, x3⟩ := y2
            obtain ⟨m, rfl⟩ : ∃ m, nS = m + 1 := ⟨nS - 1, by omega⟩
            refine ⟨μ2, ?_, x1, (k1.tr (vgm_K.u (by decide))).tr x2, by rw [x3, vp_uj (by decide), o1]⟩
            rw [show 9000 = 8999 + 1 from rfl, vgm_everyF x1.1, vp_bind, vgm_KF x1.1]
          | (q, some ts) =>
            rw [hm] at y2 gG
            obtain ⟨x1, x2, x3, x4⟩ := y2
            obtain ⟨g1, g2, g3⟩ := gG
            obtain ⟨μ', w1, w2⟩ := ih true q (vg_or b a ++ ts) 9000 nS μ2 (by omega) (by omega) (by omega) (by omega) (by rw [← List.append_assoc]; exact x1) (by simp at hl' ⊢; omega) (by rw [x3, vp_uj (by decide), o1]; exact ho)
            exact ⟨μ', w1, vgm_RK ((k1.tr (vgm_K.u (by decide))).tr x2) (by rw [x3, vp_uj (by decide), o1]) (fun j j1' j2 => by rw [x4 j j1' j2, vp_uc (by decide), j1 j j1' j2]) w2⟩
        · refine ⟨μ1, ?_, ?_⟩
          · rw [fX10_some_L4.eq_2, h8', vp_gdT (by decide), if_neg (by decide), hh', vp_bind, if_pos c2]
            rfl
          · rw [if_neg c2]
            exact ⟨s1, k1, o1, j1⟩
      unfold vgm_KK
      cases b
      · rw [if_neg (by decide)]
        exact fin μ h vgm_K.rf rfl (fun _ _ _ => rfl)
      · simp only [Bool.toNat_true] at hl
        obtain ⟨μ3, z1, z2, z3, z4, z5⟩ := vgm_emit (x := -3) (y := -3) h (by omega) rfl
        rw [if_pos rfl, z1, vp_bind]
        exact fin μ3 (by rw [show vg_or true a = a ++ [-3] from rfl, ← List.append_assoc]; exact z2) z3 z4 z5
theorem vgm_A {t : Nat → Int} {e A k d : Nat} (hP : vgm_P t e A k) (hd : k + 2 ≤ d) {p u : Nat} {a : List Int} {μ : vr_M} (h : vgm_S t e A μ p u a) (hu : u + a.length ≤ p) (ho : μ 68 9 = 5 - (k : Int)) :
    ∃ μ', fX10_some (fX10_factor d) μ = some (0, μ') ∧ vgm_R t e A u a μ μ' (vg_any (vg_C t e) (vg_one (vg_C t e) k) p) := by
  have hE := vg_CE t e
  have he := h.2.2.2.2
  have gG := vg_one_G hE k p (by omega)
  obtain ⟨μ1, y1, y2⟩ := hP d hd p u a μ h hu ho
  have e0 : fX10_some (fX10_factor d) μ = (fX10_every_L4 (fX10_factor d) 9000 μ1).bind (fun r => vgm_KK d false 9000 r.2) := by
    rw [fX10_some, fX10_every, y1, vp_bind]
    unfold vgm_KK
    simp only [Bool.false_eq_true, if_false]
  rw [e0]
  unfold vg_any
  match hm : vg_one (vg_C t e) k p with
  | (q, none) =>
    rw [hm] at y2
    obtain ⟨x1, x2, x3⟩ := y2
    exact ⟨μ1, by rw [show 9000 = 8999 + 1 from rfl, vgm_everyF x1.1, vp_bind, vgm_KF x1.1], x1, x2, x3⟩
  | (q, some ts) =>
    rw [hm] at y2 gG
    obtain ⟨x1, x2, x3, x4⟩ := y2
    obtain ⟨g1, g2, g3⟩ := gG
    obtain ⟨μ', w1, w2⟩ := vgm_anyL hP hd (a0 := a) 121 false q ts 9000 9000 μ1 (by decide) (by omega) (by decide) (by decide) x1 (by simp; omega) (by rw [x3]; exact ho)
    exact ⟨μ', w1, vgm_RK x2 x3 x4 w2⟩
