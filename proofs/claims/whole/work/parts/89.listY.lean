theorem vz_ruleC (kd v : Int) : vz_S (fX9_rule kd v) (fX10_rule kd v) := by
  intro Y μ hY hR
  obtain ⟨h, cl, wk, mv, gr, dr, tn, tp, rn, row, an, ag, n, rk, rv, ld, ww, d, b, r1, r2, bm⟩ := vz_open hR
  obtain ⟨-, -, x1, x2, x3, x4, x5, -⟩ := id ww
  obtain ⟨-, -, y1, y2, y3, y4, -⟩ := id d
  have xn := x4.2.1
  have xc : μ 19 1 = (n : Int) := x4.1
  have xd : μ 21 1 = (n : Int) := x5.1
  have yc : μ 69 1 = (n : Int) := y4.1
  by_cases ck : 0 ≤ kd ∧ kd ≤ 6
  · by_cases cv : 1 ≤ v ∧ v ≤ 30
    · by_cases c8 : (n : Int) < 8
      · have P := vn_put (k := 21) (v := v) (μ := μ) (c := n) xd (by show n < 8; omega) (by omega)
        generalize hK : vr_u (vr_u μ (21 + 1) n v) 21 1 ((n + 1 : Nat) : Int) = K at P
        have K19 : K 19 = μ 19 := by rw [← hK, vp_uc (by decide), vp_uc (by decide)]
        have Q := vn_put (k := 19) (v := kd) (μ := K) (c := n) (by rw [K19]; exact xc) (by show n < 8; omega) (by omega)
        generalize hM : vr_u (vr_u K (19 + 1) n kd) 19 1 ((n + 1 : Nat) : Int) = M at Q
        have M9 : M 69 = μ 69 := by rw [← hM, vp_uc (by decide), vp_uc (by decide), ← hK, vp_uc (by decide), vp_uc (by decide)]
        have eK : (170 + (n : Int)).toNat = 170 + n := by omega
        have eV : (178 + (n : Int)).toNat = 178 + n := by omega
        have MK : ∀ c, c ≠ 19 → c ≠ 20 → M c = K c := fun c h1 h2 => by rw [← hM, vp_uc h1, vp_uc h2]
        have Kμ : ∀ c, c ≠ 21 → c ≠ 22 → K c = μ c := fun c h1 h2 => by rw [← hK, vp_uc h1, vp_uc h2]
        have Mμ : ∀ c, c ≠ 19 → c ≠ 20 → c ≠ 21 → c ≠ 22 → M c = μ c := fun c h1 h2 h3 h4 => (MK c h1 h2).trans (Kμ c h3 h4)
        have fM : vp_fr [13, 14, 15, 16, 17, 18, 19, 20, 21, 22] μ M := fun c hc => by
          simp at hc
          exact Mμ c (by omega) (by omega) (by omega) (by omega)
        have lK : vn_li 21 8 1 30 K (n + 1) (fun i => if i = n then v else rv i) := by rw [← hK]; exact vn_li.put x5 cv (by omega)
        have lM : vn_li 19 8 0 6 M (n + 1) (fun i => if i = n then kd else rk i) := by
          rw [← hM]
          exact vn_li.put (vn_li.e x4 (Kμ 19 (by decide) (by decide)) (Kμ 20 (by decide) (by decide))) ck (by omega)
        have lL : vn_li 21 8 1 30 M (n + 1) (fun i => if i = n then v else rv i) := lK.e (MK 21 (by decide) (by decide)) (MK 22 (by decide) (by decide))
        generalize hS : vr_u (vr_u (vr_u M 69 (170 + n) kd) 69 (178 + n) v) 69 1 ((n + 1 : Nat) : Int) = S
        have E : ∀ j, j ≠ 1 → j ≠ 170 + n → j ≠ 178 + n → S 69 j = μ 69 j := fun j h1 h2 h3 => by rw [← hS, vp_uj h1, vp_uj h3, vp_uj h2, M9]
        have S1 : S 69 1 = ((n + 1 : Nat) : Int) := by rw [← hS, vp_us]
        have SK : S 69 (170 + n) = kd := by rw [← hS, vp_uj (by omega), vp_uj (by omega), vp_us]
        have SV : S 69 (178 + n) = v := by rw [← hS, vp_uj (by omega), vp_us]
        have fS : vp_fr [69] M S := by
          rw [← hS]
          exact ((vp_fr.u (by decide)).tr (vp_fr.u (by decide))).tr (vp_fr.u (by decide))
        have ru : vm_ru (S 69) (n + 1) (fun i => if i = n then kd else rk i) (fun i => if i = n then v else rv i) := by
          refine ⟨S1, by omega, fun i hi => ?_⟩
          dsimp only
          by_cases z : i = n
          · subst z
            rw [if_pos rfl, if_pos rfl]
            exact ⟨⟨SK, SV⟩, ck, cv⟩
          · rw [if_neg z, if_neg z, E _ (by omega) (by omega) (by omega), E _ (by omega) (by omega) (by omega)]
            exact y4.2.2 i (by omega)
        refine ⟨(n : Int), M, S, ?_, ?_, vz_list hR (by omega) fM fS (ww.li (fun j hj => Mμ _ (by omega) (by omega) (by omega) (by omega)) (x1.e (Mμ _ (by decide) (by decide) (by decide) (by decide)) (Mμ _ (by decide) (by decide) (by decide) (by decide))) (x2.e (Mμ _ (by decide) (by decide) (by decide) (by decide)) (Mμ _ (by decide) (by decide) (by decide) (by decide))) (x3.e (Mμ _ (by decide) (by decide) (by decide) (by decide)) (Mμ _ (by decide) (by decide) (by decide) (by decide))) lM lL) (d.li (fun j _ hj => E j (by omega) (by omega) (by omega)) (vm_li_ag y1 (E 4 (by omega) (by omega) (by omega)) (fun i hi => E _ (by omega) (by omega) (by omega))) (vm_li_ag y2 (E 5 (by omega) (by omega) (by omega)) (fun i hi => E _ (by omega) (by omega) (by omega))) (vm_li_ag y3 (E 6 (by omega) (by omega) (by omega)) (fun i hi => E _ (by omega) (by omega) (by omega))) ru)⟩
        · rw [fX9_rule, vx_inT ck, vp_bind, if_pos vz_T1, vx_inT cv, vp_bind, if_pos vz_T1]
          simp only [xc]
          rw [vp_gdT (by omega), if_pos c8, P, vp_bind]
          dsimp only
          rw [Q, vp_bind]
          dsimp only
          rw [show ((n + 1 : Nat) : Int) - 1 = (n : Int) by omega, vp_gdT (by omega)]
        · have n1 : M 69 1 = (n : Int) := by rw [M9, yc]
          have n2 : vr_u M 69 (170 + n) kd 69 1 = (n : Int) := by rw [vp_uj (by omega), n1]
          have n3 : vr_u (vr_u M 69 (170 + n) kd) 69 (178 + n) v 69 1 = (n : Int) := by rw [vp_uj (by omega), n2]
          rw [fX10_rule, vm_inT ck, vp_bind, if_pos vz_T1, vm_inT cv, vp_bind, if_pos vz_T1]
          simp only [n1, eK]
          rw [vp_gdT (by omega), if_pos (by omega), vp_gdT (by omega), vp_let, n2, eV, vp_gdT (by omega), vp_let, n3, show (n : Int) + 1 = ((n + 1 : Nat) : Int) by omega, hS, vp_let, S1, vp_gdT (by omega), show ((n + 1 : Nat) : Int) - 1 = (n : Int) by omega]
      · refine ⟨-4, μ, μ, ?_, ?_, hR.mono (by omega)⟩
        · rw [fX9_rule, vx_inT ck, vp_bind, if_pos vz_T1, vx_inT cv, vp_bind, if_pos vz_T1]
          simp only [xc]
          rw [vp_gdT (by omega), if_neg c8]
        · rw [fX10_rule, vm_inT ck, vp_bind, if_pos vz_T1, vm_inT cv, vp_bind, if_pos vz_T1]
          simp only [yc]
          rw [vp_gdT (by omega), if_neg (by omega)]
    · refine ⟨-2, μ, μ, ?_, ?_, hR.mono (by omega)⟩
      · rw [fX9_rule, vx_inT ck, vp_bind, if_pos vz_T1, vx_inF cv, vp_bind, if_neg vz_F0]
      · rw [fX10_rule, vm_inT ck, vp_bind, if_pos vz_T1, vm_inF cv, vp_bind, if_neg vz_F0]
  · refine ⟨-1, μ, μ, ?_, ?_, hR.mono (by omega)⟩
    · rw [fX9_rule, vx_inF ck, vp_bind, if_neg vz_F0]
    · rw [fX10_rule, vm_inF ck, vp_bind, if_neg vz_F0]
/-! ages -/
def vz_tl (ag : Nat → Int) (off len : Int) : Nat → Nat → Bool
  | 0, _ => true
  | d + 1, i => if min (ag i % len) (len - ag i % len) ≤ off then vz_tl ag off len d (i + 1) else false
def vz_rd (ag : Nat → Int) (an : Nat) (off : Int) : Nat → Nat → Int
  | 0, _ => -5
  | d + 1, len => if vz_tl ag off (len : Int) an 0 = true then (len : Int) else vz_rd ag an off d (len + 1)
theorem vz_tellC {μ : vr_M} {an : Nat} {ag : Nat → Int} (l : vn_li 17 10 0 99 μ an ag) {off len : Int} (hl : 1 ≤ len ∧ len ≤ 30) : ∀ (d i n : Nat), i + d = an → d < n → fX9_tells_L2 n len off (i : Int) μ = some (if vz_tl ag off len d i = true then 1 else 0, μ) := by
  obtain ⟨l1, l2, l3⟩ := l
  intro d
  induction d with
  | zero =>
    intro i n hd hn
    obtain ⟨n, rfl⟩ : ∃ m, n = m + 1 := ⟨n - 1, by omega⟩
    rw [fX9_tells_L2.eq_2, l1, vp_gdT (by omega), if_pos (by omega)]
    rfl
  | succ d ih =>
    intro i n hd hn
    obtain ⟨n, rfl⟩ : ∃ m, n = m + 1 := ⟨n - 1, by omega⟩
    obtain ⟨q1, q2, q3⟩ := l3 i (by omega)
    have e3 : (i : Int) + 1 = ((i + 1 : Nat) : Int) := by omega
    have a := vn_get (k := 17) (i := i) (μ := μ) (by omega) (by omega) (by show i < 10; omega) (by rw [q1]; omega)
    have tm : (ag i).tmod len = ag i % len := Int.tmod_eq_emod_of_nonneg q2
    have m1 := Int.emod_nonneg (ag i) (show len ≠ 0 by omega)
    have m2 := Int.emod_lt_of_pos (ag i) (show 0 < len by omega)
    rw [q1] at a
    rw [fX9_tells_L2.eq_2, l1, vp_gdT (by omega), if_neg (by omega), a, vp_bind]
    dsimp only
    rw [fX9_offMultiple, if_pos (by omega), tm, vp_gdT (by omega), vp_gdT (by omega), vp_gdT (by omega), vp_gdT (by omega), vp_bind, vz_tl]
    dsimp only
    by_cases c : min (ag i % len) (len - ag i % len) ≤ off
    · rw [if_pos c, vp_gdT (by omega), e3, ih (i + 1) n (by omega) (by omega), if_pos c]
    · rw [if_neg c, if_neg c]
      rfl
theorem vz_roundC {μ : vr_M} {an : Nat} {ag : Nat → Int} (l : vn_li 17 10 0 99 μ an ag) {off : Int} : ∀ (d i n : Nat), i + d = 31 → 1 ≤ i → d < n → fX9_round_L15 n off (i : Int) μ = some (vz_rd ag an off d i, μ) := by
  have l2 := l.2.1
  intro d
  induction d with
  | zero =>
    intro i n hd hi hn
    obtain ⟨n, rfl⟩ : ∃ m, n = m + 1 := ⟨n - 1, by omega⟩
    rw [fX9_round_L15.eq_2, if_pos (by omega)]
    rfl
  | succ d ih =>
    intro i n hd hi hn
    obtain ⟨n, rfl⟩ : ∃ m, n = m + 1 := ⟨n - 1, by omega⟩
    have e3 : (i : Int) + 1 = ((i + 1 : Nat) : Int) := by omega
    have t := vz_tellC l (off := off) (len := (i : Int)) (by omega) an 0 9000 (by omega) (by omega)
    have t' : fX9_tells (i : Int) off μ = some (if vz_tl ag off (i : Int) an 0 = true then 1 else 0, μ) := t
    rw [fX9_round_L15.eq_2, if_neg (by omega), t', vp_bind, vz_rd]
    by_cases c : vz_tl ag off (i : Int) an 0 = true
    · rw [if_pos c, if_pos c, if_neg vz_T1]
    · rw [if_neg c, if_neg c, if_pos rfl, vp_gdT (by omega), e3, ih (i + 1) n (by omega) (by omega) (by omega)]
theorem vz_tellM {μ : vr_M} {an : Nat} {ag : Nat → Int} (l : vm_li 6 198 10 0 99 (μ 69) an ag) {rc : Int → Int → vr_M → Option (Int × vr_M)} {off len : Int} (ho : 0 ≤ off ∧ off ≤ 9) (hl : 1 ≤ len ∧ len ≤ 30) : ∀ (d i n : Nat) (x3 : Int), i + d = an → d < n → (x3 = 0 ∨ x3 = 1) → fX10_round_L26 rc n off len x3 (i : Int) μ = if x3 = 1 ∧ vz_tl ag off len d i = true then some (len, μ) else vr_gd (vr_R (len + 1)) (rc off (len + 1) μ) := by
  obtain ⟨l1, l2, l3⟩ := l
  intro d
  induction d with
  | zero =>
    intro i n x3 hd hn hx
    obtain ⟨n, rfl⟩ : ∃ m, n = m + 1 := ⟨n - 1, by omega⟩
    rw [fX10_round_L26.eq_2, l1, vp_gdT (by omega), if_pos (by omega)]
    rcases hx with rfl | rfl
    · rw [if_pos rfl, if_neg (fun q => absurd q.1 (by decide))]
    · rw [if_neg (by decide), if_pos ⟨rfl, rfl⟩]
  | succ d ih =>
    intro i n x3 hd hn hx
    obtain ⟨n, rfl⟩ : ∃ m, n = m + 1 := ⟨n - 1, by omega⟩
    obtain ⟨q1, q2, q3⟩ := l3 i (by omega)
    have e3 : (i : Int) + 1 = ((i + 1 : Nat) : Int) := by omega
    have ei : (198 + (i : Int)).toNat = 198 + i := by omega
    have tm : (ag i).tmod len = ag i % len := Int.tmod_eq_emod_of_nonneg q2
    have m1 := Int.emod_nonneg (ag i) (show len ≠ 0 by omega)
    have m2 := Int.emod_lt_of_pos (ag i) (show 0 < len by omega)
    have B71 : fX10_round_B71 rc (fX10_round_L26 rc n) off len (i : Int) μ = if (1 : Int) = 1 ∧ vz_tl ag off len d (i + 1) = true then some (len, μ) else vr_gd (vr_R (len + 1)) (rc off (len + 1) μ) := by
      rw [fX10_round_B71, fX10_round_B76, vp_gdT (by omega), e3, ih (i + 1) n 1 (by omega) (by omega) (Or.inr rfl)]
    have B75 : fX10_round_B75 rc (fX10_round_L26 rc n) off len (i : Int) μ = vr_gd (vr_R (len + 1)) (rc off (len + 1) μ) := by
      rw [fX10_round_B75, fX10_round_B76, vp_gdT (by omega), e3, ih (i + 1) n 0 (by omega) (by omega) (Or.inl rfl), if_neg (fun q => absurd q.1 (by decide))]
    rw [fX10_round_L26.eq_2, l1, vp_gdT (by omega), if_neg (by omega), vp_gdT (by omega), ei]
    simp only [q1, tm]
    rw [vp_gdT (by omega), vp_gdT (by omega), B71, B75, vz_tl]
    rcases hx with rfl | rfl
    · rw [if_pos rfl, if_neg (fun q => absurd q.1 (by decide))]
    · rw [if_neg (by decide), vp_gdT (by omega)]
      by_cases c : ag i % len ≤ off
      · rw [if_pos c, if_pos (show min (ag i % len) (len - ag i % len) ≤ off by omega)]
      · rw [if_neg c, vp_gdT (by omega)]
        by_cases c2 : off < len - ag i % len
        · rw [if_pos c2, if_neg (show ¬ min (ag i % len) (len - ag i % len) ≤ off by omega), if_neg (fun q => absurd q.2 (by decide))]
        · rw [if_neg c2, if_pos (show min (ag i % len) (len - ag i % len) ≤ off by omega)]
theorem vz_roundM {μ : vr_M} {an : Nat} {ag : Nat → Int} (l : vm_li 6 198 10 0 99 (μ 69) an ag) {off : Int} (ho : 0 ≤ off ∧ off ≤ 9) : ∀ (d i n : Nat), i + d = 31 → 1 ≤ i → d < n → fX10_round_L15 n off (i : Int) μ = some (vz_rd ag an off d i, μ) := by
  have l2 := l.2.1
  intro d
  induction d with
  | zero =>
    intro i n hd hi hn
    obtain ⟨n, rfl⟩ : ∃ m, n = m + 1 := ⟨n - 1, by omega⟩
    rw [fX10_round_L15.eq_2, if_pos (by omega)]
    rfl
  | succ d ih =>
    intro i n hd hi hn
    obtain ⟨n, rfl⟩ : ∃ m, n = m + 1 := ⟨n - 1, by omega⟩
    have e3 : (i : Int) + 1 = ((i + 1 : Nat) : Int) := by omega
    have t := vz_tellM l (rc := fX10_round_L15 n) ho (len := (i : Int)) (by omega) an 0 9000 1 (by omega) (by omega) (Or.inr rfl)
    have t' : fX10_round_L26 (fX10_round_L15 n) 9000 off (i : Int) 1 0 μ = _ := t
    rw [fX10_round_L15.eq_2, if_neg (by omega), t', vz_rd]
    by_cases c : vz_tl ag off (i : Int) an 0 = true
    · rw [if_pos ⟨rfl, c⟩, if_pos c]
    · rw [if_neg (fun q => c q.2), if_neg c, vp_gdT (by omega), e3, ih (i + 1) n (by omega) (by omega) (by omega)]
theorem vz_round (p : Int) : vz_S (fX9_round p) (fX10_round p) := by
  intro Y μ hY hR
  obtain ⟨h, cl, wk, mv, gr, dr, tn, tp, rn, row, an, ag, n, rk, rv, ld, ww, d, b, r1, r2, bm⟩ := vz_open hR
  by_cases c : 0 ≤ p ∧ p ≤ 9
  · have a1 := vz_roundC ww.2.2.2.2.1 (off := p) 30 1 9000 (by decide) (by decide) (by decide)
    have a2 := vz_roundM d.2.2.2.2.1 (μ := μ) c 30 1 9000 (by decide) (by decide) (by decide)
    refine ⟨vz_rd ag an p 30 1, μ, μ, ?_, ?_, hR.mono (by omega)⟩
    · rw [fX9_round, vx_inT c, vp_bind, if_pos vz_T1]
      exact a1
    · rw [fX10_round, vm_inT c, vp_bind, if_pos vz_T1]
      exact a2
  · refine ⟨-2, μ, μ, ?_, ?_, hR.mono (by omega)⟩
    · rw [fX9_round, vx_inF c, vp_bind, if_neg vz_F0]
    · rw [fX10_round, vm_inF c, vp_bind, if_neg vz_F0]
