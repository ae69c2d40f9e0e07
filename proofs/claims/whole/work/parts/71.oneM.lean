/-- the best of the first m, as the reference looks for it -/
def vm_br (r : Nat → Int) : Nat → Int
  | 0 => -1
  | m + 1 => if ¬ r m = 0 ∧ (vm_br r m = -1 ∨ r (vm_br r m).toNat < r m) then (m : Int) else vm_br r m
theorem vm_br_in (r : Nat → Int) : ∀ m : Nat, vm_br r m = -1 ∨ (0 ≤ vm_br r m ∧ vm_br r m < (m : Int) ∧ ¬ r (vm_br r m).toNat = 0)
  | 0 => Or.inl rfl
  | m + 1 => by
    have ih := vm_br_in r m
    unfold vm_br
    split
    · next c => exact Or.inr ⟨by omega, by omega, c.1⟩
    · rcases ih with ih | ih
      · exact Or.inl ih
      · exact Or.inr ⟨ih.1, by omega, ih.2.2⟩
theorem vm_br_am {r : Nat → Int} (hr : ∀ p, p < 8 → 0 ≤ r p) : ∀ m : Nat, m < 8 → (vm_br r (m + 1) = -1 ∧ r (vk_am r m) = 0) ∨ (vm_br r (m + 1) = ((vk_am r m : Nat) : Int) ∧ 0 < r (vk_am r m))
  | 0, _ => by
    have h0 := hr 0 (by decide)
    have e : vm_br r 1 = if ¬ r 0 = 0 ∧ ((-1 : Int) = -1 ∨ r ((-1 : Int)).toNat < r 0) then (0 : Int) else -1 := rfl
    have e2 : vk_am r 0 = 0 := rfl
    rw [e, e2]
    by_cases c : r 0 = 0
    · exact Or.inl ⟨by rw [if_neg (fun q => q.1 c)], c⟩
    · exact Or.inr ⟨by rw [if_pos ⟨c, Or.inl rfl⟩]; rfl, by omega⟩
  | m + 1, h => by
    have ih := vm_br_am hr m (by omega)
    have h1 := hr (m + 1) h
    have e : vm_br r (m + 1 + 1) = if ¬ r (m + 1) = 0 ∧ (vm_br r (m + 1) = -1 ∨ r (vm_br r (m + 1)).toNat < r (m + 1)) then ((m + 1 : Nat) : Int) else vm_br r (m + 1) := rfl
    have e2 : vk_am r (m + 1) = if r (vk_am r m) < r (m + 1) then m + 1 else vk_am r m := rfl
    rw [e, e2]
    rcases ih with ⟨i1, i2⟩ | ⟨i1, i2⟩
    · rw [i1, i2]
      by_cases c : 0 < r (m + 1)
      · rw [if_pos c, if_pos ⟨by omega, Or.inl rfl⟩]
        exact Or.inr ⟨rfl, c⟩
      · rw [if_neg c, if_neg (fun q => q.1 (by omega))]
        exact Or.inl ⟨rfl, i2⟩
    · rw [i1, show (((vk_am r m : Nat) : Int)).toNat = vk_am r m from rfl]
      by_cases c : r (vk_am r m) < r (m + 1)
      · rw [if_pos c, if_pos ⟨by omega, Or.inr c⟩]
        exact Or.inr ⟨rfl, by omega⟩
      · rw [if_neg c, if_neg (by omega)]
        exact Or.inr ⟨rfl, i2⟩
theorem vm_br_tail {r : Nat → Int} {N : Nat} (hr : ∀ p, N ≤ p → r p = 0) : ∀ d : Nat, vm_br r (N + d) = vm_br r N
  | 0 => rfl
  | d + 1 => by
    have e : vm_br r (N + d + 1) = if ¬ r (N + d) = 0 ∧ (vm_br r (N + d) = -1 ∨ r (vm_br r (N + d)).toNat < r (N + d)) then ((N + d : Nat) : Int) else vm_br r (N + d) := rfl
    rw [show N + (d + 1) = N + d + 1 from rfl, e, if_neg (fun q => q.1 (hr _ (by omega))), vm_br_tail hr d]
/-- how many are left -/
def vm_nz (r : Nat → Int) : Nat → Nat
  | 0 => 0
  | m + 1 => vm_nz r m + if r m = 0 then 0 else 1
theorem vm_nz_le (r : Nat → Int) : ∀ m, vm_nz r m ≤ m
  | 0 => Nat.le_refl _
  | m + 1 => by
    have := vm_nz_le r m
    unfold vm_nz
    split <;> omega
theorem vm_nz_0 {r : Nat → Int} : ∀ m, vm_nz r m = 0 → ∀ p, p < m → r p = 0
  | 0, _, p, hp => by omega
  | m + 1, h, p, hp => by
    unfold vm_nz at h
    by_cases e : p = m
    · subst e
      by_cases c : r p = 0
      · exact c
      · rw [if_neg c] at h; omega
    · exact vm_nz_0 m (by omega) p (by omega)
theorem vm_nz_same {r r' : Nat → Int} : ∀ m, (∀ p, p < m → r p = r' p) → vm_nz r m = vm_nz r' m
  | 0, _ => rfl
  | m + 1, h => by
    unfold vm_nz
    rw [vm_nz_same m (fun p hp => h p (by omega)), h m (by omega)]
theorem vm_nz_less {r r' : Nat → Int} {b : Nat} (hb : ¬ r b = 0) (hz : r' b = 0) : ∀ m, (∀ p, p < m → p ≠ b → r' p = r p) → b < m → vm_nz r m = vm_nz r' m + 1
  | 0, _, h => by omega
  | m + 1, h, hm => by
    unfold vm_nz
    by_cases e : b = m
    · subst e
      rw [if_neg hb, if_pos hz, vm_nz_same b (fun p hp => (h p (by omega) (by omega)).symm)]
    · rw [vm_nz_less hb hz m (fun p hp => h p (by omega)) (by omega), h m (by omega) (fun q => e q.symm)]
      split <;> omega
/-- ranks of what is not yet in the set -/
def vm_rs (R : Nat → Int) (s : Int) : Nat → Int := fun p => if vp_bit s p = true then 0 else R p
theorem vm_innerL {μ : vr_M} {h : vh_H} {G : Nat → Int} {kind v vi Y s x : Int} {rc6 : Int → Int → Int → Int → Int → vr_M → Option (Int × vr_M)} (hY : Y ≤ 100000) (hw : vh_wf Y h) (hh : vm_h μ = h) (hk : kind = 0 ∨ kind = 2 ∨ kind = 3 ∨ kind = 5 ∨ kind = 6) (hvr : 1 ≤ v ∧ v ≤ 30) {N : Nat} (hN : h 5 0 = (N : Int)) (hg : vm_gn μ G N) (hG : ∀ p, p < 8 → 0 ≤ G p ∧ G p ≤ 990) (hvi : 0 ≤ vi ∧ vi ≤ 40) (hs : 0 ≤ s ∧ s < 256) :
    ∀ (d p n : Nat), p + d = N → ∃ k, fX10_oneByOne_L24 rc6 (n + d + 1) kind v vi s x (vm_br (vm_rs (vk_rk kind v h G vi) s) p) (p : Int) μ = fX10_oneByOne_L24 rc6 (k + 1) kind v vi s x (vm_br (vm_rs (vk_rk kind v h G vi) s) N) (N : Int) μ := by
  have w0 := hw.1
  have m0 : μ 69 0 = (N : Int) := by rw [← hN, ← hh]; rfl
  intro d
  induction d with
  | zero =>
    intro p n hd
    exact ⟨n, by rw [show p = N by omega]⟩
  | succ d ih =>
    intro p n hd
    obtain ⟨k, hk9⟩ := ih (p + 1) n (by omega)
    refine ⟨k, ?_⟩
    have hp8 : p < 8 := by omega
    have e3 : (p : Int) + 1 = ((p + 1 : Nat) : Int) := by omega
    have hbs : vm_br (vm_rs (vk_rk kind v h G vi) s) (p + 1) = if ¬ vm_rs (vk_rk kind v h G vi) s p = 0 ∧ (vm_br (vm_rs (vk_rk kind v h G vi) s) p = -1 ∨ vm_rs (vk_rk kind v h G vi) s (vm_br (vm_rs (vk_rk kind v h G vi) s) p).toNat < vm_rs (vk_rk kind v h G vi) s p) then (p : Int) else vm_br (vm_rs (vk_rk kind v h G vi) s) p := rfl
    have hbi := vm_br_in (vm_rs (vk_rk kind v h G vi) s) p
    have hrp : vm_rs (vk_rk kind v h G vi) s p = if vp_bit s p = true then 0 else vk_rk kind v h G vi p := rfl
    rw [← hk9, show n + (d + 1) + 1 = (n + d + 1) + 1 by omega, fX10_oneByOne_L24.eq_2, vp_gdT (by omega), if_neg (by omega), vp_and_bit hs hp8]
    have nxt : ∀ b : Int, fX10_oneByOne_B95 rc6 (fX10_oneByOne_L24 rc6 (n + d + 1)) kind v vi s x (p : Int) b μ = fX10_oneByOne_L24 rc6 (n + d + 1) kind v vi s x b ((p + 1 : Nat) : Int) μ := by
      intro b
      rw [fX10_oneByOne_B95, vp_gdT (by omega), e3]
    by_cases c : vp_bit s p = true
    · rw [if_pos c] at hrp ⊢
      rw [hrp, if_neg (fun q => q.1 rfl)] at hbs
      rw [if_pos (by decide), fX10_oneByOne_B61, fX10_oneByOne_B62, if_pos rfl, fX10_oneByOne_B93, nxt, hbs]
    · rw [if_neg c] at hrp ⊢
      rw [if_neg (by decide), vm_left hY hw hh hk hvr hN hg hG (show p < N by omega) hvi, vp_bind]
      by_cases c2 : vk_rk kind v h G vi p = 0
      · rw [hrp, if_neg (fun q => q.1 c2)] at hbs
        rw [if_pos c2, if_pos (show ¬ (1 : Int) = 0 by decide), fX10_oneByOne_B61, fX10_oneByOne_B62, if_pos rfl, fX10_oneByOne_B93, nxt, hbs]
      · rw [if_neg c2, if_neg (show ¬ ¬ (0 : Int) = 0 by decide), fX10_oneByOne_B62, if_neg (by decide)]
        by_cases c3 : vm_br (vm_rs (vk_rk kind v h G vi) s) p = -1
        · rw [hrp, if_pos ⟨c2, Or.inl c3⟩] at hbs
          rw [if_pos c3, fX10_oneByOne_B88, nxt, hbs]
        · rw [if_neg c3]
          rcases hbi with hbi | ⟨b1, b2, b3⟩
          · exact absurd hbi c3
          · obtain ⟨q, hq⟩ : ∃ q : Nat, vm_br (vm_rs (vk_rk kind v h G vi) s) p = (q : Int) := ⟨(vm_br (vm_rs (vk_rk kind v h G vi) s) p).toNat, by omega⟩
            rw [hq, show ((q : Int)).toNat = q from rfl] at hbs b3
            rw [hq] at b1 b2
            rw [hq]
            have hrq : vm_rs (vk_rk kind v h G vi) s q = vk_rk kind v h G vi q := by
              unfold vm_rs at b3 ⊢
              by_cases cq : vp_bit s q = true
              · rw [if_pos cq] at b3; exact absurd rfl b3
              · rw [if_neg cq]
            rw [hrq] at b3 hbs
            rw [vm_ahead hY hw hh hk hvr hN hg hG (show p < N by omega) (show q < N by omega) hvi c2 b3, vp_bind]
            rw [hrp] at hbs
            by_cases c4 : vk_rk kind v h G vi q < vk_rk kind v h G vi p
            · rw [if_pos ⟨c2, Or.inr c4⟩] at hbs
              rw [if_pos c4, if_neg (show ¬ (1 : Int) = 0 by decide), fX10_oneByOne_B88, nxt, hbs]
            · rw [if_neg (fun z => z.2.elim (fun z => by omega) c4)] at hbs
              rw [if_neg c4, if_pos rfl, fX10_oneByOne_B93, nxt, hbs]
theorem vm_oneL {μ : vr_M} {h : vh_H} {G : Nat → Int} {kind v vi Y : Int} (hY : Y ≤ 100000) (hw : vh_wf Y h) (hh : vm_h μ = h) (hk : kind = 0 ∨ kind = 2 ∨ kind = 3 ∨ kind = 5 ∨ kind = 6) (hvr : 1 ≤ v ∧ v ≤ 30) {N : Nat} (hN : h 5 0 = (N : Int)) (hg : vm_gn μ G N) (hG : ∀ p, p < 8 → 0 ≤ G p ∧ G p ≤ 990) (hvi : 0 ≤ vi ∧ vi ≤ 40) :
    ∀ (f n : Nat) (s x : Int), vm_nz (vm_rs (vk_rk kind v h G vi) s) 8 ≤ f → f ≤ 8 → f < n → 0 ≤ s ∧ s < 256 → 0 ≤ x ∧ x ≤ 990 * (8 - f) →
      fX10_oneByOne_L6 n kind v vi s x μ = some (vk_gr G (h 5 2) f (vm_rs (vk_rk kind v h G vi) s) s x, μ) := by
  have w0 := hw.1
  have w2 := hw.2.2.1
  have m8 : μ 69 8 = h 5 2 := by rw [← hh]; rfl
  have m0 : μ 69 0 = (N : Int) := by rw [← hN, ← hh]; rfl
  intro f
  induction f with
  | zero =>
    intro n s x hz h8 hn hs hx
    obtain ⟨n, rfl⟩ : ∃ m, n = m + 1 := ⟨n - 1, by omega⟩
    rw [fX10_oneByOne_L6.eq_2, m8, vp_gdT (by omega), vk_gr]
    by_cases c : h 5 2 ≤ x
    · rw [if_pos c]
    · rw [if_neg c]
      obtain ⟨k, hk9⟩ := vm_innerL (x := x) (rc6 := fX10_oneByOne_L6 n) hY hw hh hk hvr hN hg hG hvi hs N 0 (8999 - N) (by omega)
      rw [show 8999 - N + N + 1 = 9000 by omega] at hk9
      have hk9' : fX10_oneByOne_L24 (fX10_oneByOne_L6 n) 9000 kind v vi s x (-1) 0 μ = fX10_oneByOne_L24 (fX10_oneByOne_L6 n) (k + 1) kind v vi s x (vm_br (vm_rs (vk_rk kind v h G vi) s) N) (N : Int) μ := hk9
      have hz0 := vm_nz_0 8 (by omega : vm_nz (vm_rs (vk_rk kind v h G vi) s) 8 = 0)
      have hb : vm_br (vm_rs (vk_rk kind v h G vi) s) N = -1 := by
        rcases vm_br_in (vm_rs (vk_rk kind v h G vi) s) N with b | ⟨b1, b2, b3⟩
        · exact b
        · exact absurd (hz0 _ (by omega)) b3
      rw [hk9', hb, fX10_oneByOne_L24.eq_2, m0, vp_gdT (by omega), if_pos (by omega), if_neg (fun q => q rfl)]
  | succ f ih =>
    intro n s x hz h8 hn hs hx
    obtain ⟨n, rfl⟩ : ∃ m, n = m + 1 := ⟨n - 1, by omega⟩
    have hR : ∀ p, p < 8 → 0 ≤ vm_rs (vk_rk kind v h G vi) s p := by
      intro p hp
      have := (vk_rk_in (kind := kind) (v := v) (hw.2.2.2.2 p hp).2.1 hvi (hG p hp)).1
      unfold vm_rs
      split <;> omega
    have htl : vm_br (vm_rs (vk_rk kind v h G vi) s) 8 = vm_br (vm_rs (vk_rk kind v h G vi) s) N := by
      have := vm_br_tail (r := vm_rs (vk_rk kind v h G vi) s) (N := N) (fun p hp => by
        have : vk_rk kind v h G vi p = 0 := by unfold vk_rk; rw [if_pos (Or.inl (by omega))]
        unfold vm_rs
        rw [this, ite_self]) (8 - N)
      rw [show N + (8 - N) = 8 by omega] at this
      exact this
    have ham := vm_br_am hR 7 (by decide)
    rw [htl] at ham
    have h7 := vk_am_le (vm_rs (vk_rk kind v h G vi) s) 7
    rw [fX10_oneByOne_L6.eq_2, m8, vp_gdT (by omega), vk_gr]
    by_cases c : h 5 2 ≤ x
    · rw [if_pos c, if_pos c]
    · rw [if_neg c, if_neg c]
      obtain ⟨k, hk9⟩ := vm_innerL (x := x) (rc6 := fX10_oneByOne_L6 n) hY hw hh hk hvr hN hg hG hvi hs N 0 (8999 - N) (by omega)
      rw [show 8999 - N + N + 1 = 9000 by omega] at hk9
      have hk9' : fX10_oneByOne_L24 (fX10_oneByOne_L6 n) 9000 kind v vi s x (-1) 0 μ = fX10_oneByOne_L24 (fX10_oneByOne_L6 n) (k + 1) kind v vi s x (vm_br (vm_rs (vk_rk kind v h G vi) s) N) (N : Int) μ := hk9
      rw [hk9']
      generalize hb0 : vk_am (vm_rs (vk_rk kind v h G vi) s) 7 = b at *
      rcases ham with ⟨a1, a2⟩ | ⟨a1, a2⟩
      · rw [a1, if_pos a2, fX10_oneByOne_L24.eq_2, m0, vp_gdT (by omega), if_pos (by omega), if_neg (fun q => q rfl)]
      · have hnb : vp_bit s b = false := by
          cases q : vp_bit s b with
          | false => rfl
          | true => unfold vm_rs at a2; rw [if_pos q] at a2; omega
        have hbr := vm_br_in (vm_rs (vk_rk kind v h G vi) s) N
        rw [a1] at hbr
        have hbN : b < N := by omega
        obtain ⟨s1, s2⟩ := vp_add hs (by omega) hnb
        have hor : vr_or s (vr_shl 1 (b : Int)) = s + 2 ^ b := by rw [vp_or hs (by omega), hnb]; rfl
        have hg1 := hg b hbN
        have hg2 := hG b (by omega)
        have e1 : ((b : Int)).toNat = b := rfl
        have hpow := vp_pow_nn b
        have hcg : ∀ p, p < 8 → vm_rs (vk_rk kind v h G vi) (s + 2 ^ b) p = if p = b then 0 else vm_rs (vk_rk kind v h G vi) s p := by
          intro p hp
          unfold vm_rs
          rw [s2 p hp]
          by_cases e : p = b
          · simp [e]
          · simp [e]
        have hless := vm_nz_less (r := vm_rs (vk_rk kind v h G vi) s) (r' := vm_rs (vk_rk kind v h G vi) (s + 2 ^ b)) (b := b) (by omega) (by rw [hcg b (by omega), if_pos rfl]) 8 (fun p hp hpb => by rw [hcg p hp, if_neg hpb]) (by omega)
        rw [a1, if_neg (by omega), fX10_oneByOne_L24.eq_2, m0, vp_gdT (by omega), if_pos (by omega), if_pos (by omega), vp_gdT (by omega), e1, hg1, vp_gdT (by omega), hor, ih n (s + 2 ^ b) (x + G b) (by omega) (by omega) (by omega) (by omega) (by omega)]
        rw [vk_gr_congr f _ _ hcg]
theorem vm_one {μ : vr_M} {h : vh_H} {G : Nat → Int} {kind v vi Y : Int} (hY : Y ≤ 100000) (hw : vh_wf Y h) (hh : vm_h μ = h) (hk : kind = 0 ∨ kind = 2 ∨ kind = 3 ∨ kind = 5 ∨ kind = 6) (hvr : 1 ≤ v ∧ v ≤ 30) {N : Nat} (hN : h 5 0 = (N : Int)) (hg : vm_gn μ G N) (hG : ∀ p, p < 8 → 0 ≤ G p ∧ G p ≤ 990) (hvi : 0 ≤ vi ∧ vi ≤ 40) :
    fX10_oneByOne kind v vi μ = some (vk_gr G (h 5 2) 8 (vk_rk kind v h G vi) 0 0, μ) := by
  rw [fX10_oneByOne, vm_oneL hY hw hh hk hvr hN hg hG hvi 8 9000 0 0 (vm_nz_le _ 8) (by decide) (by decide) (by decide) (by decide)]
  rw [vk_gr_congr 8 _ _ (r := vm_rs (vk_rk kind v h G vi) 0) (r' := vk_rk kind v h G vi) (fun p hp => by
    unfold vm_rs
    have : vp_bit 0 p = false := by unfold vp_bit; simp
    rw [this]
    simp)]
