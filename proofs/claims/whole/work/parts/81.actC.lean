/-! acts -/
def vq_b (kind num x : Int) : Int := if kind = 1 then vr_w (vr_w (x * 3) + num) else if kind = 5 then vr_xor (vr_w (x + num)) num else vr_w (x + num)
def vq_bt (kind : Int) : List Int := if kind = 1 then [11, 1] else if kind = 5 then [51, 1] else [1]
def vq_p (kind v num x : Int) : Int := vr_w (vq_b kind num x - v)
def vq_r (kind v num x : Int) : Int := vr_w (-(vq_p kind v num x))
def vq_re (kind v num x : Int) : Int := if kind = 6 then vr_w (vq_r kind v num x + v) else if kind = 2 ∨ kind = 5 then vq_r kind v num x else vq_p kind v num x
def vq_rt (kind : Int) : List Int := if kind = 6 then 61 :: 21 :: 2 :: vq_bt kind else if kind = 2 ∨ kind = 5 then 21 :: 2 :: vq_bt kind else 2 :: vq_bt kind
def vq_pt (kind v num x : Int) : Int := vr_w (vq_re kind v num x * 2)
def vq_n (kind v num x : Int) : Int := vr_xor (vq_pt kind v num x) 7
def vq_t (kind v num x : Int) : Int := if kind = 4 then vr_w (vq_n kind v num (vr_w (x - 1)) + vq_b kind num 2) else if kind = 3 then vq_n kind v num x else vq_pt kind v num x
def vq_tt (kind : Int) : List Int := if kind = 4 then (41 :: 31 :: 3 :: vq_rt kind) ++ vq_bt kind else if kind = 3 then 31 :: 3 :: vq_rt kind else 3 :: vq_rt kind
/-- the log of bodies that ran -/
def vq_lg (μ : vr_M) (cr sr ct : Nat) (tr : List Int) : Prop := μ cr sr = (tr.length : Int) ∧ ∀ j, j < 20 → j < tr.length → μ ct j = tr.getD j 0
def vq_C (μ : vr_M) (kind v num : Int) (tr : List Int) : Prop := vq_lg μ 66 1 67 tr ∧ (μ 66 2 = kind ∧ vr_R kind) ∧ μ 66 3 = v ∧ μ 66 4 = num
theorem vq_c1 {rc : Int → Int → Int → vr_M → Option (Int × vr_M)} {n : Nat} {x2 x3 x4 x5 x6 : Int} {μ : vr_M} (h6 : x6 < 7) (h4 : 0 ≤ x4 ∧ x4 < 30) (h5 : 0 ≤ x5 ∧ x5 < 7) (h2 : 0 ≤ x2 ∧ x2 < 3) (hb : ¬ vr_BODIES.getD ((x5 * 3) + x2).toNat 0 = 0) :
    fX5_call_L6 rc (n + 1) x2 x3 x4 x5 x6 μ = (rc (vr_BODIES.getD ((x5 * 3) + x2).toNat 0) x3 (x4 + 1) μ).bind (fun r6 => some (r6.1, r6.2)) := by
  rw [fX5_call_L6.eq_2, if_neg (by omega), if_neg (by omega), if_neg (by omega), if_neg (by omega), vp_gdT (by omega), if_neg (by omega), if_pos (by omega), vp_gdT (by omega), if_neg hb, vp_gdT (by omega)]
theorem vq_c2 {rc : Int → Int → Int → vr_M → Option (Int × vr_M)} {n : Nat} {x2 x3 x4 x5 x6 : Int} {μ : vr_M} (h6 : 0 ≤ x6 ∧ x6 < 7) (h4 : 0 ≤ x4 ∧ x4 < 30) (h5 : 0 ≤ x5 ∧ x5 < 7) (h2 : 0 ≤ x2 ∧ x2 < 3) (hb : vr_BODIES.getD ((x5 * 3) + x2).toNat 0 = 0) :
    fX5_call_L6 rc (n + 1) x2 x3 x4 x5 x6 μ = fX5_call_L6 rc n x2 x3 x4 (vr_ABOVE.getD x5.toNat 0) (x6 + 1) μ := by
  rw [fX5_call_L6.eq_2, if_neg (by omega), if_neg (by omega), if_neg (by omega), if_neg (by omega), vp_gdT (by omega), if_neg (by omega), if_pos (by omega), vp_gdT (by omega), if_pos hb, vp_gdT (by omega), vp_gdT (by omega)]
def vq_bd (k a : Int) : Int := if a = 0 then (if k = 1 then 11 else if k = 5 then 51 else 1) else if a = 1 then (if k = 6 then 61 else if k = 2 ∨ k = 5 then 21 else 2) else (if k = 4 then 41 else if k = 3 then 31 else 3)
theorem vq_call {rc : Int → Int → Int → vr_M → Option (Int × vr_M)} {k a x dep : Int} {μ : vr_M} (hk : 0 ≤ k ∧ k ≤ 6) (ha : 0 ≤ a ∧ a ≤ 2) (hd : 0 ≤ dep ∧ dep < 30) :
    fX5_call rc k a x dep μ = rc (vq_bd k a) x (dep + 1) μ := by
  have e : ∀ o : Option (Int × vr_M), o.bind (fun r6 => some (r6.1, r6.2)) = o := fun o => by cases o <;> rfl
  rw [fX5_call, show 9000 = 8996 + 1 + 1 + 1 + 1 from rfl]
  rcases (show k = 0 ∨ k = 1 ∨ k = 2 ∨ k = 3 ∨ k = 4 ∨ k = 5 ∨ k = 6 by omega) with rfl | rfl | rfl | rfl | rfl | rfl | rfl <;> rcases (show a = 0 ∨ a = 1 ∨ a = 2 by omega) with rfl | rfl | rfl <;>
    first
    | (rw [vq_c1 (by decide) hd (by decide) (by decide) (by decide), e]; rfl)
    | (rw [vq_c2 (by decide) hd (by decide) (by decide) (by decide), vq_c1 (by decide) hd (by decide) (by decide) (by decide), e]; rfl)
    | (rw [vq_c2 (by decide) hd (by decide) (by decide) (by decide), vq_c2 (by decide) hd (by decide) (by decide) (by decide), vq_c1 (by decide) hd (by decide) (by decide) (by decide), e]; rfl)
theorem vq_above {rc : Int → Int → Int → vr_M → Option (Int × vr_M)} {k a x dep : Int} {μ : vr_M} (hk : 0 ≤ k ∧ k ≤ 6) (ha : 0 ≤ a ∧ a ≤ 2) (hd : 0 ≤ dep ∧ dep < 30) (h1 : 0 ≤ vr_ABOVE.getD k.toNat 0 ∧ vr_ABOVE.getD k.toNat 0 ≤ 6) :
    fX5_callAbove rc k a x dep μ = rc (vq_bd (vr_ABOVE.getD k.toNat 0) a) x (dep + 1) μ := by
  have e : ∀ o : Option (Int × vr_M), o.bind (fun r6 => some (r6.1, r6.2)) = o := fun o => by cases o <;> rfl
  rw [fX5_callAbove, if_neg (by omega), if_neg (by omega), vp_gdT (by omega), vq_call h1 ha hd]
  exact e _
theorem vq_pro {kind v num : Int} {tr : List Int} {μ : vr_M} (h : vq_C μ kind v num tr) (hl : tr.length ≤ 1000) (b x dep : Int) (d : Nat) :
    ∃ M, fX5_runw (d + 1) b x dep μ = fX5_runw_B26 (fX5_runw d) b x dep M ∧ vp_fr [66, 67] μ M ∧ vq_C (vr_u M 66 1 (vr_w ((M 66 1) + 1))) kind v num (tr ++ [b]) := by
  obtain ⟨⟨h1, h2⟩, h3, h4, h5⟩ := h
  have hw : vr_w ((tr.length : Int) + 1) = (tr.length : Int) + 1 := vr_wR (by omega)
  have el : ((tr ++ [b]).length : Int) = (tr.length : Int) + 1 := by simp
  have fin : ∀ M : vr_M, M 66 = μ 66 → (∀ j, j < 20 → j < tr.length → M 67 j = tr.getD j 0) → (tr.length < 20 → M 67 tr.length = b) → vq_C (vr_u M 66 1 (vr_w ((M 66 1) + 1))) kind v num (tr ++ [b]) := by
    intro M m1 m2 m3
    refine ⟨⟨?_, fun j j20 jl => ?_⟩, ⟨?_, h3.2⟩, ?_, ?_⟩
    · rw [vp_us, m1, h1, hw, el]
    · rw [vp_un (by decide)]
      by_cases e : j = tr.length
      · subst e
        rw [m3 j20]
        simp [List.getD, List.getElem?_append]
      · have hj : j < tr.length := by simp at jl; omega
        rw [m2 j j20 hj]
        simp [List.getD, List.getElem?_append, hj]
    · rw [vp_uj (by decide), m1]; exact h3.1
    · rw [vp_uj (by decide), m1]; exact h4
    · rw [vp_uj (by decide), m1]; exact h5
  have e0 : fX5_runw (d + 1) b x dep μ = if (tr.length : Int) < 0 then fX5_runw_B26 (fX5_runw d) b x dep μ else if 20 ≤ (tr.length : Int) then fX5_runw_B26 (fX5_runw d) b x dep μ else vr_gd (0 ≤ (tr.length : Int) ∧ (tr.length : Int) < 20) (fX5_runw_B26 (fX5_runw d) b x dep (vr_u μ 67 tr.length b)) := by
    rw [fX5_runw, fX5_runw_1]
    simp only [h1]
    rw [vp_gdT (by omega)]
    rfl
  rw [e0, if_neg (by omega)]
  by_cases c : 20 ≤ (tr.length : Int)
  · refine ⟨μ, by rw [if_pos c], vp_fr.rf, fin μ rfl h2 (fun q => by omega)⟩
  · refine ⟨vr_u μ 67 tr.length b, by rw [if_neg c, vp_gdT (by omega)], vp_fr.u (by decide), fin _ (vp_uc (by decide)) (fun j j20 hj => ?_) (fun _ => vp_us)⟩
    rw [vp_uj (by omega)]
    exact h2 j j20 hj
/-- what one body, or a call, does -/
def vq_D (m : Int) (f : Int → Int → vr_M → Option (Int × vr_M)) (kind v num : Int) (T : List Int) (g : Int → Int) : Prop :=
  ∀ (x dep : Int) (μ : vr_M) (tr : List Int), 0 ≤ dep ∧ dep + m ≤ 25 → vq_C μ kind v num tr → (tr.length : Int) + 10 * m ≤ 900 →
    ∃ μ', f x dep μ = some (g x, μ') ∧ vp_fr [66, 67] μ μ' ∧ vq_C μ' kind v num (tr ++ T)
theorem vq_1 {kind v num : Int} (d : Nat) : vq_D 0 (fX5_runw (d + 1) 1) kind v num [1] (fun x => vr_w (x + num)) := by
  intro x dep μ tr hd h hl
  obtain ⟨M, a1, a2, a3⟩ := vq_pro h (by omega) 1 x dep d
  refine ⟨_, ?_, a2.tr (vp_fr.u (by decide)), a3⟩
  rw [a1, fX5_runw_B26]
  simp only [vr_ls, if_true, vp_let]
  have e4 : vr_u M 66 1 (vr_w (M 66 1 + 1)) 66 4 = num := a3.2.2.2
  rw [e4]
theorem vq_app {tr T : List Int} {b : Int} : tr ++ [b] ++ T = tr ++ (b :: T) := by simp
theorem vq_11 {kind v num : Int} (d : Nat) : vq_D 1 (fX5_runw (d + 2) 11) kind v num [11, 1] (fun x => vr_w (vr_w (x * 3) + num)) := by
  intro x dep μ tr hd h hl
  obtain ⟨M, a1, a2, a3⟩ := vq_pro h (by omega) 11 x dep (d + 1)
  obtain ⟨μ', b1, b2, b3⟩ := vq_1 d (vr_w (x * 3)) (dep + 1) _ _ (by omega) a3 (by simp; omega)
  refine ⟨μ', ?_, (a2.tr (vp_fr.u (by decide))).tr b2, by rw [← vq_app]; exact b3⟩
  rw [a1, fX5_runw_B26]
  simp only [vr_ls, Int.reduceEq, if_true, if_false]
  rw [vq_above (by decide) (by decide) (by omega) (by decide)]
  have b1' : fX5_runw (d + 1) (vq_bd (vr_ABOVE.getD (1 : Int).toNat 0) 0) (vr_w (x * 3)) (dep + 1) _ = _ := b1
  rw [b1', vp_bind]
theorem vq_51 {kind v num : Int} (d : Nat) : vq_D 1 (fX5_runw (d + 2) 51) kind v num [51, 1] (fun x => vr_xor (vr_w (x + num)) num) := by
  intro x dep μ tr hd h hl
  obtain ⟨M, a1, a2, a3⟩ := vq_pro h (by omega) 51 x dep (d + 1)
  obtain ⟨μ', b1, b2, b3⟩ := vq_1 d x (dep + 1) _ _ (by omega) a3 (by simp; omega)
  refine ⟨μ', ?_, (a2.tr (vp_fr.u (by decide))).tr b2, by rw [← vq_app]; exact b3⟩
  rw [a1, fX5_runw_B26]
  simp only [vr_ls, Int.reduceEq, if_true, if_false]
  rw [vq_above (by decide) (by decide) (by omega) (by decide)]
  have b1' : fX5_runw (d + 1) (vq_bd (vr_ABOVE.getD (5 : Int).toNat 0) 0) x (dep + 1) _ = _ := b1
  rw [b1', vp_bind]
  dsimp only
  rw [b3.2.2.2]
theorem vq_cb {kind v num : Int} (hk : 0 ≤ kind ∧ kind ≤ 6) (d : Nat) : vq_D 2 (fun x dep μ => fX5_call (fX5_runw (d + 2)) kind 0 x dep μ) kind v num (vq_bt kind) (vq_b kind num) := by
  intro x dep μ tr hd h hl
  show ∃ μ', fX5_call (fX5_runw (d + 2)) kind 0 x dep μ = _ ∧ _
  rw [vq_call hk (by decide) (by omega)]
  unfold vq_bt vq_b vq_bd
  rw [if_pos rfl]
  by_cases c1 : kind = 1
  · rw [if_pos c1, if_pos c1, if_pos c1]
    exact vq_11 d x (dep + 1) μ tr (by omega) h (by omega)
  · rw [if_neg c1, if_neg c1, if_neg c1]
    by_cases c5 : kind = 5
    · rw [if_pos c5, if_pos c5, if_pos c5]
      exact vq_51 d x (dep + 1) μ tr (by omega) h (by omega)
    · rw [if_neg c5, if_neg c5, if_neg c5]
      exact vq_1 (d + 1) x (dep + 1) μ tr (by omega) h (by omega)
theorem vq_2 {kind v num : Int} (hk : 0 ≤ kind ∧ kind ≤ 6) (d : Nat) : vq_D 3 (fX5_runw (d + 3) 2) kind v num (2 :: vq_bt kind) (vq_p kind v num) := by
  intro x dep μ tr hd h hl
  obtain ⟨M, a1, a2, a3⟩ := vq_pro h (by omega) 2 x dep (d + 2)
  obtain ⟨μ', b1, b2, b3⟩ := vq_cb hk d x dep _ _ (by omega) a3 (by simp; omega)
  refine ⟨μ', ?_, (a2.tr (vp_fr.u (by decide))).tr b2, by rw [← vq_app]; exact b3⟩
  rw [a1, fX5_runw_B26]
  simp only [vr_ls, Int.reduceEq, if_true, if_false, vp_let]
  have e2 : vr_u M 66 1 (vr_w (M 66 1 + 1)) 66 2 = kind := a3.2.1.1
  have b1' : fX5_call (fX5_runw (d + 2)) kind 0 x dep (vr_u M 66 1 (vr_w (M 66 1 + 1))) = _ := b1
  rw [e2, vp_gdT a3.2.1.2, b1', vp_bind]
  dsimp only
  rw [b3.2.2.1]
  rfl
theorem vq_21 {kind v num : Int} (hk : 0 ≤ kind ∧ kind ≤ 6) (d : Nat) : vq_D 4 (fX5_runw (d + 4) 21) kind v num (21 :: 2 :: vq_bt kind) (vq_r kind v num) := by
  intro x dep μ tr hd h hl
  obtain ⟨M, a1, a2, a3⟩ := vq_pro h (by omega) 21 x dep (d + 3)
  obtain ⟨μ', b1, b2, b3⟩ := vq_2 hk d x (dep + 1) _ _ (by omega) a3 (by simp; omega)
  refine ⟨μ', ?_, (a2.tr (vp_fr.u (by decide))).tr b2, by rw [← vq_app]; exact b3⟩
  rw [a1, fX5_runw_B26]
  simp only [vr_ls, Int.reduceEq, if_true, if_false]
  rw [vq_above (by decide) (by decide) (by omega) (by decide)]
  have b1' : fX5_runw (d + 3) (vq_bd (vr_ABOVE.getD (2 : Int).toNat 0) 1) x (dep + 1) _ = _ := b1
  rw [b1', vp_bind]
  rfl
theorem vq_61 {kind v num : Int} (hk : 0 ≤ kind ∧ kind ≤ 6) (d : Nat) : vq_D 5 (fX5_runw (d + 5) 61) kind v num (61 :: 21 :: 2 :: vq_bt kind) (fun x => vr_w (vq_r kind v num x + v)) := by
  intro x dep μ tr hd h hl
  obtain ⟨M, a1, a2, a3⟩ := vq_pro h (by omega) 61 x dep (d + 4)
  obtain ⟨μ', b1, b2, b3⟩ := vq_21 hk d x (dep + 1) _ _ (by omega) a3 (by simp; omega)
  refine ⟨μ', ?_, (a2.tr (vp_fr.u (by decide))).tr b2, by rw [← vq_app]; exact b3⟩
  rw [a1, fX5_runw_B26]
  simp only [vr_ls, Int.reduceEq, if_true, if_false]
  rw [vq_above (by decide) (by decide) (by omega) (by decide)]
  have b1' : fX5_runw (d + 4) (vq_bd (vr_ABOVE.getD (6 : Int).toNat 0) 1) x (dep + 1) _ = _ := b1
  rw [b1', vp_bind]
  dsimp only
  rw [b3.2.2.1]
theorem vq_cr {kind v num : Int} (hk : 0 ≤ kind ∧ kind ≤ 6) (d : Nat) : vq_D 6 (fun x dep μ => fX5_call (fX5_runw (d + 5)) kind 1 x dep μ) kind v num (vq_rt kind) (vq_re kind v num) := by
  intro x dep μ tr hd h hl
  show ∃ μ', fX5_call (fX5_runw (d + 5)) kind 1 x dep μ = _ ∧ _
  rw [vq_call hk (by decide) (by omega)]
  unfold vq_rt vq_re vq_bd
  rw [if_neg (show ¬ (1 : Int) = 0 by decide), if_pos rfl]
  by_cases c6 : kind = 6
  · rw [if_pos c6, if_pos c6, if_pos c6]
    exact vq_61 hk d x (dep + 1) μ tr (by omega) h (by omega)
  · rw [if_neg c6, if_neg c6, if_neg c6]
    by_cases c2 : kind = 2 ∨ kind = 5
    · rw [if_pos c2, if_pos c2, if_pos c2]
      exact vq_21 hk (d + 1) x (dep + 1) μ tr (by omega) h (by omega)
    · rw [if_neg c2, if_neg c2, if_neg c2]
      exact vq_2 hk (d + 2) x (dep + 1) μ tr (by omega) h (by omega)
theorem vq_3 {kind v num : Int} (hk : 0 ≤ kind ∧ kind ≤ 6) (d : Nat) : vq_D 7 (fX5_runw (d + 6) 3) kind v num (3 :: vq_rt kind) (vq_pt kind v num) := by
  intro x dep μ tr hd h hl
  obtain ⟨M, a1, a2, a3⟩ := vq_pro h (by omega) 3 x dep (d + 5)
  obtain ⟨μ', b1, b2, b3⟩ := vq_cr hk d x dep _ _ (by omega) a3 (by simp; omega)
  refine ⟨μ', ?_, (a2.tr (vp_fr.u (by decide))).tr b2, by rw [← vq_app]; exact b3⟩
  rw [a1, fX5_runw_B26]
  simp only [vr_ls, Int.reduceEq, if_true, if_false, vp_let]
  have e2 : vr_u M 66 1 (vr_w (M 66 1 + 1)) 66 2 = kind := a3.2.1.1
  have b1' : fX5_call (fX5_runw (d + 5)) kind 1 x dep (vr_u M 66 1 (vr_w (M 66 1 + 1))) = _ := b1
  rw [e2, vp_gdT a3.2.1.2, b1', vp_bind]
  rfl
theorem vq_31 {kind v num : Int} (hk : 0 ≤ kind ∧ kind ≤ 6) (d : Nat) : vq_D 8 (fX5_runw (d + 7) 31) kind v num (31 :: 3 :: vq_rt kind) (vq_n kind v num) := by
  intro x dep μ tr hd h hl
  obtain ⟨M, a1, a2, a3⟩ := vq_pro h (by omega) 31 x dep (d + 6)
  obtain ⟨μ', b1, b2, b3⟩ := vq_3 hk d x (dep + 1) _ _ (by omega) a3 (by simp; omega)
  refine ⟨μ', ?_, (a2.tr (vp_fr.u (by decide))).tr b2, by rw [← vq_app]; exact b3⟩
  rw [a1, fX5_runw_B26]
  simp only [vr_ls, Int.reduceEq, if_true, if_false]
  rw [vq_above (by decide) (by decide) (by omega) (by decide)]
  have b1' : fX5_runw (d + 6) (vq_bd (vr_ABOVE.getD (3 : Int).toNat 0) 2) x (dep + 1) _ = _ := b1
  rw [b1', vp_bind]
  rfl
theorem vq_rt_len (kind : Int) : (vq_rt kind).length ≤ 6 := by
  unfold vq_rt vq_bt
  (repeat' split) <;> simp
theorem vq_41 {kind v num : Int} (hk : 0 ≤ kind ∧ kind ≤ 6) (d : Nat) : vq_D 9 (fX5_runw (d + 8) 41) kind v num ((41 :: 31 :: 3 :: vq_rt kind) ++ vq_bt kind) (fun x => vr_w (vq_n kind v num (vr_w (x - 1)) + vq_b kind num 2)) := by
  intro x dep μ tr hd h hl
  have hlen := vq_rt_len kind
  obtain ⟨M, a1, a2, a3⟩ := vq_pro h (by omega) 41 x dep (d + 7)
  obtain ⟨μ1, b1, b2, b3⟩ := vq_31 hk d (vr_w (x - 1)) (dep + 1) _ _ (by omega) a3 (by simp; omega)
  obtain ⟨μ', c1, c2, c3⟩ := vq_cb hk (d + 5) 2 dep _ _ (by omega) b3 (by simp; omega)
  refine ⟨μ', ?_, ((a2.tr (vp_fr.u (by decide))).tr b2).tr c2, by
    have e : tr ++ ((41 :: 31 :: 3 :: vq_rt kind) ++ vq_bt kind) = tr ++ [41] ++ (31 :: 3 :: vq_rt kind) ++ vq_bt kind := by simp
    rw [e]; exact c3⟩
  rw [a1, fX5_runw_B26]
  simp only [vr_ls, Int.reduceEq, if_true, if_false]
  rw [vq_above (by decide) (by decide) (by omega) (by decide)]
  have b1' : fX5_runw (d + 7) (vq_bd (vr_ABOVE.getD (4 : Int).toNat 0) 2) (vr_w (x - 1)) (dep + 1) _ = _ := b1
  rw [b1', vp_bind]
  dsimp only
  have c1' : fX5_call (fX5_runw (d + 7)) kind 0 2 dep μ1 = _ := c1
  simp only [b3.2.1.1]
  rw [vp_gdT b3.2.1.2, c1', vp_bind]
theorem vq_ct {kind v num : Int} (hk : 0 ≤ kind ∧ kind ≤ 6) (d : Nat) : vq_D 10 (fun x dep μ => fX5_call (fX5_runw (d + 8)) kind 2 x dep μ) kind v num (vq_tt kind) (vq_t kind v num) := by
  intro x dep μ tr hd h hl
  show ∃ μ', fX5_call (fX5_runw (d + 8)) kind 2 x dep μ = _ ∧ _
  rw [vq_call hk (by decide) (by omega)]
  unfold vq_tt vq_t vq_bd
  rw [if_neg (show ¬ (2 : Int) = 0 by decide), if_neg (show ¬ (2 : Int) = 1 by decide)]
  by_cases c4 : kind = 4
  · rw [if_pos c4, if_pos c4, if_pos c4]
    exact vq_41 hk d x (dep + 1) μ tr (by omega) h (by omega)
  · rw [if_neg c4, if_neg c4, if_neg c4]
    by_cases c3 : kind = 3
    · rw [if_pos c3, if_pos c3, if_pos c3]
      exact vq_31 hk (d + 1) x (dep + 1) μ tr (by omega) h (by omega)
    · rw [if_neg c3, if_neg c3, if_neg c3]
      exact vq_3 hk (d + 2) x (dep + 1) μ tr (by omega) h (by omega)
def vq_val (a kind v num x : Int) : Int := if a = 0 then vq_b kind num x else if a = 1 then vq_re kind v num x else vq_t kind v num x
def vq_tr (a kind : Int) : List Int := if a = 0 then vq_bt kind else if a = 1 then vq_rt kind else vq_tt kind
theorem vq_perf {kind v num a x : Int} {μ : vr_M} (h0 : μ 66 1 = 0) (hk : 0 ≤ kind ∧ kind ≤ 6) (ha : 0 ≤ a ∧ a ≤ 2) :
    ∃ μ', fX5_performw kind v num a x μ = some (vq_val a kind v num x, μ') ∧ vp_fr [66, 67] μ μ' ∧ vq_lg μ' 66 1 67 (vq_tr a kind) := by
  generalize hM : vr_u (vr_u (vr_u μ 66 2 kind) 66 3 v) 66 4 num = M
  have fM : vp_fr [66, 67] μ M := by
    rw [← hM]
    exact ((vp_fr.u (by decide)).tr (vp_fr.u (by decide))).tr (vp_fr.u (by decide))
  have hC : vq_C M kind v num [] := by
    rw [← hM]
    refine ⟨⟨?_, fun j _ hj => by simp at hj⟩, ⟨?_, by omega⟩, ?_, ?_⟩ <;> simp [vr_u, h0]
  have e0 : fX5_performw kind v num a x μ = (fX5_call (fX5_runw 12) kind a x 0 M).bind (fun r3 => some (r3.1, r3.2)) := by
    rw [fX5_performw, vp_let, hM, hC.2.1.1, vp_gdT (by omega)]
  rw [e0]
  unfold vq_val vq_tr
  rcases (show a = 0 ∨ a = 1 ∨ a = 2 by omega) with rfl | rfl | rfl
  · obtain ⟨μ', b1, b2, b3⟩ := vq_cb hk 10 x 0 M [] (by decide) hC (by decide)
    have b1' : fX5_call (fX5_runw 12) kind 0 x 0 M = _ := b1
    exact ⟨μ', by rw [b1', vp_bind]; rfl, fM.tr b2, by simpa using b3.1⟩
  · obtain ⟨μ', b1, b2, b3⟩ := vq_cr hk 7 x 0 M [] (by decide) hC (by decide)
    have b1' : fX5_call (fX5_runw 12) kind 1 x 0 M = _ := b1
    exact ⟨μ', by rw [b1', vp_bind]; rfl, fM.tr b2, by simpa using b3.1⟩
  · obtain ⟨μ', b1, b2, b3⟩ := vq_ct hk 4 x 0 M [] (by decide) hC (by decide)
    have b1' : fX5_call (fX5_runw 12) kind 2 x 0 M = _ := b1
    exact ⟨μ', by rw [b1', vp_bind]; rfl, fM.tr b2, by simpa using b3.1⟩
