theorem vm_ct1L {s : Int} {μ : vr_M} (hs : 0 ≤ s ∧ s < 256) : ∀ (d p n : Nat), p + d = 8 → d < n → fX10_count1_L4 n s (vk_ct s p) (p : Int) μ = some (vk_ct s 8, μ) := by
  intro d
  induction d with
  | zero =>
    intro p n hd hn
    obtain ⟨n, rfl⟩ : ∃ m, n = m + 1 := ⟨n - 1, by omega⟩
    rw [fX10_count1_L4.eq_2, if_pos (by omega), show p = 8 by omega]
  | succ d ih =>
    intro p n hd hn
    obtain ⟨n, rfl⟩ : ∃ m, n = m + 1 := ⟨n - 1, by omega⟩
    have h9 := ih (p + 1) n (by omega) (by omega)
    have e3 : (p : Int) + 1 = ((p + 1 : Nat) : Int) := by omega
    have hc := vk_ct_in s p
    have e : vk_ct s (p + 1) = vk_ct s p + if vp_bit s p = true then 1 else 0 := rfl
    have hb : (0 : Int) ≤ (if vp_bit s p = true then 1 else 0) ∧ (if vp_bit s p = true then (1 : Int) else 0) ≤ 1 := by split <;> omega
    rw [e] at h9
    rw [fX10_count1_L4.eq_2, if_neg (by omega), vp_and_bit hs (by omega), vp_gdT (by omega), vp_gdT (by omega), e3, h9]
theorem vm_ct1 {s : Int} {μ : vr_M} (hs : 0 ≤ s ∧ s < 256) : fX10_count1 s μ = some (vk_ct s 8, μ) := by
  rw [fX10_count1]
  exact vm_ct1L hs 8 0 9000 rfl (by decide)
theorem vm_bestA {μ : vr_M} {G : Nat → Int} {mo : Int} {N : Nat} (hN : μ 69 0 = (N : Int)) (hN8 : N ≤ 8) (hm : μ 69 8 = mo) (hmo : 1 ≤ mo ∧ mo ≤ 99) (hg : vm_gn μ G N) (hG : ∀ p, p < 8 → 0 ≤ G p ∧ G p ≤ 990) :
    ∀ (d p n : Nat), p + d = N → d < n → fX10_bestSet_L12 n (-1) 0 (vk_gv G p) (vm_sm G p) (p : Int) μ = if mo ≤ vm_sm G N then fX10_bestSet_L79 9000 (-1) 0 0 μ else some (vk_gv G N, μ) := by
  intro d
  induction d with
  | zero =>
    intro p n hd hn
    obtain ⟨n, rfl⟩ : ∃ m, n = m + 1 := ⟨n - 1, by omega⟩
    have hp : p = N := by omega
    subst hp
    rw [fX10_bestSet_L12.eq_2, hN, vp_gdT (by omega), if_pos (by omega), hm, vp_gdT (by omega)]
  | succ d ih =>
    intro p n hd hn
    obtain ⟨n, rfl⟩ : ∃ m, n = m + 1 := ⟨n - 1, by omega⟩
    have h9 := ih (p + 1) n (by omega) (by omega)
    have e3 : (p : Int) + 1 = ((p + 1 : Nat) : Int) := by omega
    have e1 : ((p : Int)).toNat = p := rfl
    have g1 := hg p (by omega)
    have g2 := hG p (by omega)
    have v1 := vk_gv_in G p
    have v2 := vp_p8 (p := p) (by omega)
    have s1 := vm_sm_in hG p (by omega)
    have eg : vk_gv G (p + 1) = vk_gv G p + if 0 < G p then 2 ^ p else 0 := rfl
    have es : vm_sm G (p + 1) = vm_sm G p + G p := rfl
    have hor : vr_or (vk_gv G p) (vr_shl 1 (p : Int)) = vk_gv G p + 2 ^ p := by rw [vp_or (by omega) (by omega), vp_bit_hi v1.1 v1.2]; rfl
    have ho0 : vr_or (vk_gv G p) 0 = vk_gv G p := vp_or0 (by omega)
    have B : ∀ y : Int, fX10_bestSet_B42 (fX10_bestSet_L12 n) (-1) 0 (vm_sm G p) (p : Int) (vk_gv G p) y μ = fX10_bestSet_L12 n (-1) 0 (vr_or (vk_gv G p) y) (vm_sm G (p + 1)) ((p + 1 : Nat) : Int) μ := by
      intro y
      rw [fX10_bestSet_B42, vp_gdT (by omega), e1, g1, vp_gdT (by omega), vp_gdT (by omega), e3, es]
    rw [fX10_bestSet_L12.eq_2, hN, vp_gdT (by omega), if_neg (by omega), vp_gdT (by omega), e1, g1, vp_gdT (by omega), B, B, hor, ho0]
    by_cases c : 0 < G p
    · rw [if_pos c] at eg
      rw [if_neg (by omega), ← eg, h9]
    · rw [if_neg c, Int.add_zero] at eg
      rw [if_pos (by omega), ← eg, h9]
theorem vm_bestI {μ : vr_M} {G : Nat → Int} {N : Nat} {rc79 : Int → Int → Int → vr_M → Option (Int × vr_M)} {x1 x2 s : Int} (hN : μ 69 0 = (N : Int)) (hN8 : N ≤ 8) (hg : vm_gn μ G N) (hG : ∀ p, p < 8 → 0 ≤ G p ∧ G p ≤ 990) (hs : 0 ≤ s ∧ s < 256) :
    ∀ (d p n : Nat), p + d = N → ∃ k, fX10_bestSet_L98 rc79 (n + d + 1) x1 x2 s (vh_su G s p) (p : Int) μ = fX10_bestSet_L98 rc79 (k + 1) x1 x2 s (vh_su G s N) (N : Int) μ := by
  intro d
  induction d with
  | zero =>
    intro p n hd
    exact ⟨n, by rw [show p = N by omega]⟩
  | succ d ih =>
    intro p n hd
    obtain ⟨k, hk9⟩ := ih (p + 1) n (by omega)
    refine ⟨k, ?_⟩
    have e3 : (p : Int) + 1 = ((p + 1 : Nat) : Int) := by omega
    have e1 : ((p : Int)).toNat = p := rfl
    have g1 := hg p (by omega)
    have g2 := hG p (by omega)
    have s1 := vh_su_in (s := s) (B := 990) (by omega) hG p (by omega)
    have es : vh_su G s (p + 1) = vh_su G s p + if vp_bit s p = true then G p else 0 := rfl
    rw [es] at hk9
    rw [← hk9, show n + (d + 1) + 1 = (n + d + 1) + 1 by omega, fX10_bestSet_L98.eq_2, hN, vp_gdT (by omega), if_neg (by omega), vp_and_bit hs (by omega)]
    unfold fX10_bestSet_B133
    by_cases c : vp_bit s p = true
    · rw [if_pos c, if_neg (by decide), vp_gdT (by omega), e1, g1, vp_gdT (by omega), vp_gdT (by omega), vp_gdT (by omega), e3, if_pos c]
    · rw [if_neg c, if_pos (by decide), vp_gdT (by omega), vp_gdT (by omega), e3, if_neg c]
theorem vm_bestL {μ : vr_M} {G : Nat → Int} {mo : Int} {N : Nat} (hN : μ 69 0 = (N : Int)) (hN8 : N ≤ 8) (hm : μ 69 8 = mo) (hmo : 1 ≤ mo ∧ mo ≤ 99) (hg : vm_gn μ G N) (hG : ∀ p, p < 8 → 0 ≤ G p ∧ G p ≤ 990) (hz : ∀ p, N ≤ p → G p = 0) :
    ∀ (d z n : Nat), z + d = 2 ^ N → d < n → fX10_bestSet_L79 n (if vk_bs G mo (z - 1) = 0 then -1 else vk_bs G mo (z - 1)) (if vk_bs G mo (z - 1) = 0 then 0 else vh_su G (vk_bs G mo (z - 1)) 8) (z : Int) μ = some (if vk_bs G mo (2 ^ N - 1) = 0 then -1 else vk_bs G mo (2 ^ N - 1), μ) := by
  have h256 : 2 ^ N ≤ 256 := by
    have : ∀ N, N < 9 → 2 ^ N ≤ 256 := by decide
    exact this N (by omega)
  have hsh : vr_shl 1 (N : Int) = ((2 ^ N : Nat) : Int) := by rw [vp_shl (by omega)]; simp
  intro d
  induction d with
  | zero =>
    intro z n hd hn
    obtain ⟨n, rfl⟩ : ∃ m, n = m + 1 := ⟨n - 1, by omega⟩
    rw [fX10_bestSet_L79.eq_2, hN, hsh, if_pos (by omega), show z = 2 ^ N by omega]
  | succ d ih =>
    intro z n hd hn
    obtain ⟨n, rfl⟩ : ∃ m, n = m + 1 := ⟨n - 1, by omega⟩
    have h9 := ih (z + 1) n (by omega) (by omega)
    rw [show z + 1 - 1 = z from rfl] at h9
    have e3 : (z : Int) + 1 = ((z + 1 : Nat) : Int) := by omega
    have hs : 0 ≤ (z : Int) ∧ (z : Int) < 256 := by omega
    obtain ⟨k, hk9⟩ := vm_bestI (rc79 := fX10_bestSet_L79 n) (x1 := if vk_bs G mo (z - 1) = 0 then -1 else vk_bs G mo (z - 1)) (x2 := if vk_bs G mo (z - 1) = 0 then 0 else vh_su G (vk_bs G mo (z - 1)) 8) hN hN8 hg hG hs N 0 (8999 - N) (by omega)
    rw [show 8999 - N + N + 1 = 9000 by omega] at hk9
    have hk9' : fX10_bestSet_L98 (fX10_bestSet_L79 n) 9000 (if vk_bs G mo (z - 1) = 0 then -1 else vk_bs G mo (z - 1)) (if vk_bs G mo (z - 1) = 0 then 0 else vh_su G (vk_bs G mo (z - 1)) 8) (z : Int) 0 0 μ = _ := hk9
    have htl := vh_su_tail (G := G) (s := (z : Int)) hz (8 - N)
    rw [show N + (8 - N) = 8 by omega] at htl
    have hsu := vh_su_in (s := (z : Int)) (B := 990) (by omega) hG 8 (by omega)
    have nxt : ∀ a b : Int, fX10_bestSet_B195 (fX10_bestSet_L79 n) a b (z : Int) μ = fX10_bestSet_L79 n a b ((z + 1 : Nat) : Int) μ := by
      intro a b
      rw [fX10_bestSet_B195, vp_gdT (by omega), e3]
    rw [fX10_bestSet_L79.eq_2, hN, hsh, if_neg (by omega), hk9', fX10_bestSet_L98.eq_2, hN, vp_gdT (by omega), if_pos (by omega), hm, vp_gdT (by omega), ← htl, fX10_bestSet_B189, nxt, nxt]
    have hbi := vk_bs_in G mo (z - 1)
    have h0 : ∀ n, vh_su G 0 n = 0 := by
      intro n
      induction n with
      | zero => rfl
      | succ n ih => unfold vh_su; rw [ih]; simp [vp_bit]
    by_cases z0 : z = 0
    · subst z0
      rw [if_pos (by rw [show ((0 : Nat) : Int) = 0 from rfl, h0]; omega)]
      exact h9
    · obtain ⟨y, rfl⟩ : ∃ y, z = y + 1 := ⟨z - 1, by omega⟩
      rw [show y + 1 - 1 = y from rfl] at hbi ⊢
      have hbs : vk_bs G mo (y + 1) = if mo ≤ vh_su G ((y + 1 : Nat) : Int) 8 ∧ (vk_bs G mo y = 0 ∨ vk_ct ((y + 1 : Nat) : Int) 8 < vk_ct (vk_bs G mo y) 8 ∨ vk_ct ((y + 1 : Nat) : Int) 8 = vk_ct (vk_bs G mo y) 8 ∧ vh_su G ((y + 1 : Nat) : Int) 8 < vh_su G (vk_bs G mo y) 8) then ((y + 1 : Nat) : Int) else vk_bs G mo y := rfl
      have tk : ∀ (q : vk_bs G mo (y + 1) = ((y + 1 : Nat) : Int)), fX10_bestSet_L79 n ((y + 1 : Nat) : Int) (vh_su G ((y + 1 : Nat) : Int) 8) ((y + 1 + 1 : Nat) : Int) μ = some (if vk_bs G mo (2 ^ N - 1) = 0 then -1 else vk_bs G mo (2 ^ N - 1), μ) := by
        intro q
        rw [q, if_neg (by omega), if_neg (by omega)] at h9
        exact h9
      have nt : ∀ (q : vk_bs G mo (y + 1) = vk_bs G mo y), fX10_bestSet_L79 n (if vk_bs G mo y = 0 then -1 else vk_bs G mo y) (if vk_bs G mo y = 0 then 0 else vh_su G (vk_bs G mo y) 8) ((y + 1 + 1 : Nat) : Int) μ = some (if vk_bs G mo (2 ^ N - 1) = 0 then -1 else vk_bs G mo (2 ^ N - 1), μ) := by
        intro q
        rw [q] at h9
        exact h9
      by_cases c1 : vh_su G ((y + 1 : Nat) : Int) 8 < mo
      · rw [if_pos c1]
        exact nt (by rw [hbs, if_neg (fun q => by omega)])
      · rw [if_neg c1]
        by_cases c2 : vk_bs G mo y = 0
        · rw [if_pos (by rw [if_pos c2])]
          exact tk (by rw [hbs, if_pos ⟨by omega, Or.inl c2⟩])
        · rw [if_neg (by rw [if_neg c2]; omega), if_neg c2, if_neg c2]
          rw [if_neg c2, if_neg c2] at nt
          simp only [vm_ct1 hs, vm_ct1 (show 0 ≤ vk_bs G mo y ∧ vk_bs G mo y < 256 by omega), vp_bind]
          by_cases c3 : vk_ct ((y + 1 : Nat) : Int) 8 < vk_ct (vk_bs G mo y) 8
          · rw [if_pos c3]
            rw [fX10_bestSet_B189, nxt, tk (by rw [hbs, if_pos ⟨by omega, Or.inr (Or.inl c3)⟩])]
          · rw [if_neg c3]
            by_cases c4 : vk_ct ((y + 1 : Nat) : Int) 8 = vk_ct (vk_bs G mo y) 8
            · rw [if_neg (fun q => q c4)]
              by_cases c5 : vh_su G (vk_bs G mo y) 8 ≤ vh_su G ((y + 1 : Nat) : Int) 8
              · rw [if_pos c5]
                rw [nxt, nt (by rw [hbs, if_neg (fun q => by omega)])]
              · rw [if_neg c5]
                rw [fX10_bestSet_B189, nxt, tk (by rw [hbs, if_pos ⟨by omega, Or.inr (Or.inr ⟨c4, by omega⟩)⟩])]
            · rw [if_pos c4]
              rw [nxt, nt (by rw [hbs, if_neg (fun q => by omega)])]
theorem vm_best {μ : vr_M} {G : Nat → Int} {mo : Int} {N : Nat} (hN : μ 69 0 = (N : Int)) (hN8 : N ≤ 8) (hm : μ 69 8 = mo) (hmo : 1 ≤ mo ∧ mo ≤ 99) (hg : vm_gn μ G N) (hG : ∀ p, p < 8 → 0 ≤ G p ∧ G p ≤ 990) (hz : ∀ p, N ≤ p → G p = 0) :
    fX10_bestSet μ = some (if vk_bs G mo (2 ^ N - 1) = 0 then vk_gv G 8 else vk_bs G mo (2 ^ N - 1), μ) := by
  have a := vm_bestA hN hN8 hm hmo hg hG N 0 9000 (by omega) (by omega)
  have a' : fX10_bestSet μ = if mo ≤ vm_sm G N then fX10_bestSet_L79 9000 (-1) 0 0 μ else some (vk_gv G N, μ) := a
  have b := vm_bestL hN hN8 hm hmo hg hG hz (2 ^ N) 0 9000 (by omega) (by
    have : ∀ N, N < 9 → 2 ^ N ≤ 256 := by decide
    have := this N (by omega)
    omega)
  have b' : fX10_bestSet_L79 9000 (-1) 0 0 μ = some (if vk_bs G mo (2 ^ N - 1) = 0 then -1 else vk_bs G mo (2 ^ N - 1), μ) := b
  have htl := fun s => vh_su_tail (G := G) (s := s) hz (8 - N)
  rw [show N + (8 - N) = 8 by omega] at htl
  have hgt : vk_gv G 8 = vk_gv G N := by
    have : ∀ d, vk_gv G (N + d) = vk_gv G N := by
      intro d
      induction d with
      | zero => rfl
      | succ d ih =>
        rw [show N + (d + 1) = N + d + 1 from rfl, vk_gv, ih, hz (N + d) (by omega)]
        simp
    have := this (8 - N)
    rw [show N + (8 - N) = 8 by omega] at this
    exact this
  rw [a', b']
  by_cases c : mo ≤ vm_sm G N
  · have hN0 : N ≠ 0 := by
      intro q
      subst q
      have : vm_sm G 0 = 0 := rfl
      omega
    have p1 : 1 < 2 ^ N := Nat.one_lt_two_pow hN0
    obtain ⟨y, hy⟩ : ∃ y, 2 ^ N - 1 = y + 1 := ⟨2 ^ N - 2, by omega⟩
    have hyI : ((y + 1 : Nat) : Int) = 2 ^ N - 1 := by
      rw [← hy, Int.natCast_sub (by omega)]
      simp
    have hfull : vh_su G ((y + 1 : Nat) : Int) 8 = vm_sm G N := by rw [hyI, htl, vm_sm_full hN8 N (Nat.le_refl N)]
    have hne : ¬ vk_bs G mo (2 ^ N - 1) = 0 := by
      rw [hy]
      have hbs : vk_bs G mo (y + 1) = if mo ≤ vh_su G ((y + 1 : Nat) : Int) 8 ∧ (vk_bs G mo y = 0 ∨ vk_ct ((y + 1 : Nat) : Int) 8 < vk_ct (vk_bs G mo y) 8 ∨ vk_ct ((y + 1 : Nat) : Int) 8 = vk_ct (vk_bs G mo y) 8 ∧ vh_su G ((y + 1 : Nat) : Int) 8 < vh_su G (vk_bs G mo y) 8) then ((y + 1 : Nat) : Int) else vk_bs G mo y := rfl
      rw [hbs]
      by_cases c2 : vk_bs G mo y = 0
      · rw [if_pos ⟨by rw [hfull]; exact c, Or.inl c2⟩]
        omega
      · split
        · omega
        · exact c2
    rw [if_pos c, if_neg hne, if_neg hne]
  · have hall : ∀ z, vk_bs G mo z = 0 := by
      intro z
      induction z with
      | zero => rfl
      | succ z ih =>
        unfold vk_bs
        rw [ih, if_neg]
        intro q
        have h1 := vm_sm_su (s := ((z + 1 : Nat) : Int)) hG N (by omega)
        have h2 := htl ((z + 1 : Nat) : Int)
        have h3 := q.1
        omega
    rw [if_neg c, if_pos (hall _), hgt]
