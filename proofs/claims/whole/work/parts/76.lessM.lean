theorem vy_hs_50 {kind v : Int} {cl : vl_C} {wk mv gr gw : Int} : ∀ (m : Nat) (h : vh_H), vy_hs kind v cl wk mv gr gw m h 5 0 = h 5 0
  | 0, _ => rfl
  | m + 1, h => by
    rw [vy_hs, vy_hs_50 m]
    exact vh_sp_50
theorem vm_less0 {rc : Int → Int → vr_M → Option (Int × vr_M)} {m i : Int} {μ : vr_M} {N : Nat} (h0 : μ 71 0 = (N : Int)) (hN : N ≤ 8) :
    ∀ (d p n : Nat), p + d = N → fX10_less_L47 rc (n + d + 1) m i 0 (p : Int) μ = (fX10_putsBack μ).bind (fun r3 => vr_gd (vr_R (i + 1)) (rc m (i + 1) r3.2)) := by
  intro d
  induction d with
  | zero =>
    intro p n hd
    rw [fX10_less_L47.eq_2, vp_gdT (by omega), if_pos (by omega)]
    simp only [if_true]
  | succ d ih =>
    intro p n hd
    rw [show n + (d + 1) + 1 = (n + d + 1) + 1 by omega, fX10_less_L47.eq_2, vp_gdT (by omega), if_neg (by omega), if_pos rfl, fX10_less_B91, fX10_less_B92, vp_gdT (by omega), show (p : Int) + 1 = ((p + 1 : Nat) : Int) by omega, ih (p + 1) n (by omega)]
theorem vm_less1 {rc : Int → Int → vr_M → Option (Int × vr_M)} {m i : Int} {μ : vr_M} {N : Nat} {a b : Nat → Int} {mw : Bool} (h0 : μ 71 0 = (N : Int)) (hN : N ≤ 8) (ha : ∀ p, p < N → μ 69 (162 + p) = a p ∧ 0 ≤ a p ∧ a p ≤ 9) (hb : ∀ p, p < N → μ 71 (162 + p) = b p ∧ 0 ≤ b p ∧ b p ≤ 9) (hmw : mw = true ↔ ∃ q, q < N ∧ b q < a q) :
    ∀ (d p n : Nat), p + d = N → (∀ q, q < p → a q ≤ b q) → fX10_less_L47 rc (n + d + 1) m i 1 (p : Int) μ = (fX10_putsBack μ).bind (fun r3 => if mw = true then vr_gd (vr_R (i + 1)) (rc m (i + 1) r3.2) else some (i, r3.2)) := by
  intro d
  induction d with
  | zero =>
    intro p n hd hq
    have : ¬ mw = true := fun q => by
      obtain ⟨q, q1, q2⟩ := hmw.mp q
      have := hq q (by omega)
      omega
    rw [fX10_less_L47.eq_2, vp_gdT (by omega), if_pos (by omega)]
    have this : mw = false := by simpa using this
    subst this
    simp only [if_false, Int.reduceEq, Bool.false_eq_true]
  | succ d ih =>
    intro p n hd hq
    obtain ⟨a1, a2⟩ := ha p (by omega)
    obtain ⟨b1, b2⟩ := hb p (by omega)
    have e162 : (162 + (p : Int)).toNat = 162 + p := by omega
    have e3 : (p : Int) + 1 = ((p + 1 : Nat) : Int) := by omega
    rw [show n + (d + 1) + 1 = (n + d + 1) + 1 by omega, fX10_less_L47.eq_2, vp_gdT (by omega), if_neg (by omega), if_neg (by decide), vp_gdT (by omega), e162, a1, b1, vp_gdT (by omega), vp_gdT (by omega)]
    unfold fX10_less_B91 fX10_less_B92
    rw [vp_gdT (by omega), vp_gdT (by omega), e3]
    by_cases c : b p < a p
    · rw [if_pos c, vm_less0 h0 hN d (p + 1) n (by omega)]
      have : mw = true := hmw.mpr ⟨p, by omega, c⟩
      simp only [this, if_true]
    · rw [if_neg c, ih (p + 1) n (by omega) (fun q hqp => by
        by_cases e : q = p
        · subst e; omega
        · exact hq q (by omega))]
theorem vm_lessL {s0 : Nat → Int} {h : vh_H} {cl : vl_C} {wk mv gr dr Y m : Int} (hY : Y ≤ 99000) (hm : 0 ≤ m ∧ m ≤ 300) :
    ∀ (d i n : Nat) (μ : vr_M), i + d = 31 → 1 ≤ i → d < n → vm_kp s0 μ → μ 69 = s0 → vm_B μ h cl wk mv gr dr Y →
      ∃ μ', fX10_less_L19 n m (i : Int) μ = some (vy_less cl wk mv gr m.toNat h d i, μ') ∧ vm_Y μ μ' ∧ μ' 69 = s0 := by
  intro d
  induction d with
  | zero =>
    intro i n μ hd hi hn hk hs hb
    obtain ⟨n, rfl⟩ : ∃ m, n = m + 1 := ⟨n - 1, by omega⟩
    exact ⟨μ, by rw [fX10_less_L19.eq_2, if_pos (by omega)]; rfl, vm_Y.rf, hs⟩
  | succ d ih =>
    intro i n μ hd hi hn hk hs hb
    obtain ⟨n, rfl⟩ : ∃ m, n = m + 1 := ⟨n - 1, by omega⟩
    have w0 := hb.2.1.1
    obtain ⟨N, hN⟩ : ∃ N : Nat, h 5 0 = (N : Int) := ⟨(h 5 0).toNat, by omega⟩
    obtain ⟨μ1, r, k1, k2, k3⟩ := vm_firstL (gw := 1) (m := m) (kind := 2) (v := (i : Int)) (by decide) (by omega) m.toNat 0 9000 μ h Y (by omega) (by omega) (by omega) hb (by omega)
    have k1' : fX10_firstHungry 2 (i : Int) m 1 μ = some (r, μ1) := k1
    have hk1 := hk.x k2
    obtain ⟨μ2, g1, g2, g3, g4⟩ := vm_unk hk1
    have y2 := k2.y.tr (vm_Y.s g2)
    have e00 : μ1 71 0 = (N : Int) := by rw [hk1.1 0 (by decide), ← hs, ← hN, ← hb.1]; rfl
    have nxt : ∃ μ', vr_gd (vr_R ((i : Int) + 1)) (fX10_less_L19 n m ((i : Int) + 1) μ2) = some (vy_less cl wk mv gr m.toNat h d (i + 1), μ') ∧ vm_Y μ μ' ∧ μ' 69 = s0 := by
      obtain ⟨μ', j1, j2, j3⟩ := ih (i + 1) n μ2 (by omega) (by omega) (by omega) g4 g3 (hb.fr (by rw [g3, hs]))
      exact ⟨μ', by rw [vp_gdT (by omega), show (i : Int) + 1 = ((i + 1 : Nat) : Int) by omega]; exact j1, y2.tr j2, j3⟩
    rw [fX10_less_L19.eq_2, if_neg (by omega), k1', vp_bind, vy_less]
    unfold fX10_less_B43
    dsimp only
    rcases k3 with ⟨f1, f2, f3⟩ | ⟨f1, f2⟩
    · have L := vm_less1 (rc := fX10_less_L19 n) (m := m) (i := (i : Int)) (μ := μ1) (N := N) (a := fun p => vy_hs 2 (i : Int) cl wk mv gr 1 m.toNat h 4 p) (b := fun p => h 4 p) (mw := vh_mw (vy_hs 2 (i : Int) cl wk mv gr 1 m.toNat h) h) e00 (by omega) (fun p hp => by
          have wf : ∀ (q : Nat) (h : vh_H) (Y : Int), vh_wf Y h → vh_wf (Y + q) (vy_hs 2 (i : Int) cl wk mv gr 1 q h) := by
            intro q
            induction q with
            | zero => intro h Y w; rw [show Y + ((0 : Nat) : Int) = Y by omega]; exact w
            | succ q ih =>
              intro h Y w
              rw [show Y + ((q + 1 : Nat) : Int) = Y + 1 + (q : Int) by omega]
              exact ih _ _ (vy_h_wf w hb.2.2.1.1 hb.2.2.2.2.2.1 hb.2.2.2.2.2.2.1)
          have w := ((wf m.toNat h Y hb.2.1).2.2.2.2 p (by omega)).2.2.2.2
          exact ⟨by rw [show 162 + p = 130 + 8 * 4 + p by omega]; exact vm_hf f3 (by decide) (by omega), w⟩) (fun p hp => by
          have w := (hb.2.1.2.2.2.2 p (by omega)).2.2.2.2
          exact ⟨by rw [hk1.1 _ (by omega), ← hs, show 162 + p = 130 + 8 * 4 + p by omega]; exact vm_hf hb.1 (by decide) (by omega), w⟩) (by
          rw [vh_mw_iff]
          have := vy_hs_50 (kind := 2) (v := (i : Int)) (cl := cl) (wk := wk) (mv := mv) (gr := gr) (gw := 1) m.toNat h
          constructor
          · rintro ⟨p, p1, p2, p3⟩
            exact ⟨p, by omega, p3⟩
          · rintro ⟨p, p1, p2⟩
            exact ⟨p, by omega, by omega, p2⟩) N 0 (8999 - N) (by omega) (fun q hq => by omega)
      rw [show 8999 - N + N + 1 = 9000 by omega] at L
      have L' : fX10_less_L47 (fX10_less_L19 n) 9000 m (i : Int) 1 0 μ1 = _ := L
      rw [if_neg (fun z => z f2), L', g1, vp_bind]
      dsimp only
      by_cases c : vh_mw (vy_hs 2 (i : Int) cl wk mv gr 1 m.toNat h) h = true
      · rw [if_pos c, if_neg (fun q => by rw [q.2] at c; exact absurd c (by decide))]
        exact nxt
      · refine ⟨μ2, ?_, y2, g3⟩
        rw [if_neg c, if_pos ⟨f1, by simpa using c⟩]
    · have L := vm_less0 (rc := fX10_less_L19 n) (m := m) (i := (i : Int)) (μ := μ1) e00 (by omega) N 0 (8999 - N) (by omega)
      rw [show 8999 - N + N + 1 = 9000 by omega] at L
      have L' : fX10_less_L47 (fX10_less_L19 n) 9000 m (i : Int) 0 0 μ1 = _ := L
      rw [if_pos (by omega), L', g1, vp_bind, if_neg (fun q => by rw [f1] at q; exact absurd q.1 (by decide))]
      exact nxt
theorem vm_less {μ : vr_M} {h : vh_H} {cl : vl_C} {wk mv gr dr Y : Int} (hY : Y ≤ 99000) (hb : vm_B μ h cl wk mv gr dr Y) {m : Int} :
    ∃ μ', fX10_less m μ = some (if 1 ≤ m ∧ m ≤ 30 then vy_less cl wk mv gr m.toNat h 30 1 else -2, μ') ∧ vm_Y μ μ' ∧ μ' 69 = μ 69 := by
  rw [fX10_less]
  by_cases c : 1 ≤ m ∧ m ≤ 30
  · obtain ⟨μ1, a1, a2, a3, a4⟩ := vm_keep μ
    obtain ⟨μ', k1, k2, k3⟩ := vm_lessL (m := m) hY (by omega) 30 1 9000 μ1 (by decide) (by decide) (by decide) a4 a3 (hb.fr a3)
    refine ⟨μ', ?_, (vm_Y.k a2).tr k2, k3⟩
    rw [vm_inT c, vp_bind, if_pos (show ¬ (1 : Int) = 0 by decide), a1, vp_bind, if_pos c]
    exact k1
  · refine ⟨μ, ?_, vm_Y.rf, rfl⟩
    rw [vm_inF c, vp_bind, if_neg c]
    rfl
