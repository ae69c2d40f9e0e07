def vm_sm (G : Nat → Int) : Nat → Int
  | 0 => 0
  | p + 1 => vm_sm G p + G p
theorem vk_gv_in (G : Nat → Int) : ∀ n : Nat, 0 ≤ vk_gv G n ∧ vk_gv G n < 2 ^ n
  | 0 => by simp [vk_gv]
  | n + 1 => by
    have ih := vk_gv_in G n
    have := vp_pow_nn n
    unfold vk_gv
    rw [Int.pow_succ]
    split <;> omega
theorem vm_sm_in {G : Nat → Int} (hG : ∀ p, p < 8 → 0 ≤ G p ∧ G p ≤ 990) : ∀ n : Nat, n ≤ 8 → 0 ≤ vm_sm G n ∧ vm_sm G n ≤ 990 * n
  | 0, _ => by simp [vm_sm]
  | n + 1, h => by
    have ih := vm_sm_in hG n (by omega)
    have := hG n (by omega)
    unfold vm_sm
    omega
theorem vm_sm_su {G : Nat → Int} {s : Int} (hG : ∀ p, p < 8 → 0 ≤ G p ∧ G p ≤ 990) : ∀ n : Nat, n ≤ 8 → vh_su G s n ≤ vm_sm G n
  | 0, _ => by simp [vm_sm, vh_su]
  | n + 1, h => by
    have ih := vm_sm_su (s := s) hG n (by omega)
    have := hG n (by omega)
    unfold vm_sm vh_su
    split <;> omega
theorem vm_full_k : vp_fin 9 (fun N => vp_fin 8 (fun p => vp_bit (2 ^ N - 1) p == decide (p < N))) = true := by decide +kernel
theorem vm_full {N p : Nat} (hN : N ≤ 8) (hp : p < 8) : vp_bit (2 ^ N - 1) p = decide (p < N) := by
  have := vp_fin_at (vp_fin_at vm_full_k (k := N) (by omega)) hp
  simpa using this
theorem vm_sm_full {G : Nat → Int} {N : Nat} (hN : N ≤ 8) : ∀ n : Nat, n ≤ N → vh_su G (2 ^ N - 1) n = vm_sm G n
  | 0, _ => rfl
  | n + 1, h => by
    unfold vh_su vm_sm
    rw [vm_sm_full hN n (by omega), vm_full hN (by omega)]
    simp
    omega
theorem vk_sm_all {G : Nat → Int} {N : Nat} (hN : N ≤ 8) (hz : ∀ p, N ≤ p → G p = 0) : ∀ n : Nat, n ≤ 8 → vh_su G (2 ^ N - 1) n = vm_sm G n
  | 0, _ => rfl
  | n + 1, h => by
    unfold vh_su vm_sm
    rw [vk_sm_all hN hz n (by omega), vm_full hN (by omega)]
    by_cases c : n < N
    · simp [c]
    · simp [c, hz n (by omega)]
theorem vk_bs_in (G : Nat → Int) (mo : Int) : ∀ s : Nat, 0 ≤ vk_bs G mo s ∧ vk_bs G mo s ≤ s
  | 0 => by simp [vk_bs]
  | s + 1 => by
    have ih := vk_bs_in G mo s
    unfold vk_bs
    split <;> omega
theorem vk_ct_in (s : Int) : ∀ n : Nat, 0 ≤ vk_ct s n ∧ vk_ct s n ≤ n
  | 0 => by simp [vk_ct]
  | n + 1 => by
    have ih := vk_ct_in s n
    unfold vk_ct
    split <;> omega
theorem vk_better {G : Nat → Int} {μ : vr_M} (hG : ∀ p, p < 8 → 0 ≤ G p ∧ G p ≤ 990) {a b : Int} (ha : 0 ≤ a ∧ a < 256) (hb : 0 ≤ b ∧ b < 256) (h1 : μ 62 a.toNat = vh_su G a 8) (h2 : μ 62 b.toNat = vh_su G b 8) :
    fX0_isBetter a b μ = some (if vk_ct a 8 < vk_ct b 8 ∨ vk_ct a 8 = vk_ct b 8 ∧ vh_su G a 8 < vh_su G b 8 then 1 else 0, μ) := by
  have c1 := vk_ct_in a 8
  have c2 := vk_ct_in b 8
  have s1 := vh_su_in (s := a) (by omega) hG 8 (by omega)
  have s2 := vh_su_in (s := b) (by omega) hG 8 (by omega)
  unfold fX0_isBetter
  rw [vp_ct hb]
  simp only [vp_bind]
  rw [vp_ct ha]
  simp only [vp_bind]
  unfold fX0_isBetter_B33 fX0_isBetter_B37 fX0_isBetter_B38
  simp only [h1, h2]
  by_cases d1 : vk_ct a 8 < vk_ct b 8
  · simp (disch := omega) only [vp_gdT, vp_gdTT, vp_let, vr_R, if_pos, if_neg, ite_true, ite_false, vp_bind, if_true, if_false, not_true_eq_false, not_false_eq_true, decide_eq_true_eq, true_or, or_true, true_and, and_true, false_or, or_false, false_and, and_false]
  · by_cases d2 : vk_ct a 8 = vk_ct b 8
    · by_cases d3 : vh_su G a 8 < vh_su G b 8
      · simp (disch := omega) only [vp_gdT, vp_gdTT, vp_let, vr_R, if_pos, if_neg, ite_true, ite_false, vp_bind, if_true, if_false, not_true_eq_false, not_false_eq_true, decide_eq_true_eq, true_or, or_true, true_and, and_true, false_or, or_false, false_and, and_false]
      · simp (disch := omega) only [vp_gdT, vp_gdTT, vp_let, vr_R, if_pos, if_neg, ite_true, ite_false, vp_bind, if_true, if_false, not_true_eq_false, not_false_eq_true, decide_eq_true_eq, true_or, or_true, true_and, and_true, false_or, or_false, false_and, and_false]
    · simp (disch := omega) only [vp_gdT, vp_gdTT, vp_let, vr_R, if_pos, if_neg, ite_true, ite_false, vp_bind, if_true, if_false, not_true_eq_false, not_false_eq_true, decide_eq_true_eq, true_or, or_true, true_and, and_true, false_or, or_false, false_and, and_false]
theorem vk_all {N : Nat} (hN8 : N ≤ 8) {μ : vr_M} {k : Nat} (hN : μ k 5 = (N : Int)) : fX2_all k μ = some (2 ^ N - 1, μ) := by
  have h := vp_p8 hN8
  have h2 := vp_pow_nn N
  unfold fX2_all
  rw [hN, vp_shl (by omega), vp_gdT (by omega)]
/-- with all together too little there is no set; with enough there is one -/
theorem vk_bs_none {G : Nat → Int} {mo : Int} (hG : ∀ p, p < 8 → 0 ≤ G p ∧ G p ≤ 990) (h : vm_sm G 8 < mo) : ∀ z, vk_bs G mo z = 0
  | 0 => rfl
  | z + 1 => by
    unfold vk_bs
    rw [vk_bs_none hG h z, if_neg]
    intro q
    have h1 := vm_sm_su (s := ((z + 1 : Nat) : Int)) hG 8 (by omega)
    have h3 := q.1
    omega
theorem vk_bs_some {G : Nat → Int} {mo : Int} {N : Nat} (hN : N ≤ 8) (hz : ∀ p, N ≤ p → G p = 0) (hmo : 1 ≤ mo) (h : mo ≤ vm_sm G 8) : ¬ vk_bs G mo (2 ^ N - 1) = 0 := by
  have hf := vk_sm_all hN hz 8 (by omega)
  have hN0 : N ≠ 0 := by
    intro q
    subst q
    have h0 : ∀ n, vm_sm G n = 0 := by
      intro n
      induction n with
      | zero => rfl
      | succ n ih => rw [vm_sm, ih, hz n (by omega)]; rfl
    rw [h0] at h
    omega
  have p1 : 1 < 2 ^ N := Nat.one_lt_two_pow hN0
  obtain ⟨y, hy⟩ : ∃ y, 2 ^ N - 1 = y + 1 := ⟨2 ^ N - 2, by omega⟩
  have hyI : ((y + 1 : Nat) : Int) = 2 ^ N - 1 := by
    rw [← hy, Int.natCast_sub (by omega)]
    simp
  have hfull : vh_su G ((y + 1 : Nat) : Int) 8 = vm_sm G 8 := by rw [hyI, hf]
  rw [hy]
  have hbs : vk_bs G mo (y + 1) = if mo ≤ vh_su G ((y + 1 : Nat) : Int) 8 ∧ (vk_bs G mo y = 0 ∨ vk_ct ((y + 1 : Nat) : Int) 8 < vk_ct (vk_bs G mo y) 8 ∨ vk_ct ((y + 1 : Nat) : Int) 8 = vk_ct (vk_bs G mo y) 8 ∧ vh_su G ((y + 1 : Nat) : Int) 8 < vh_su G (vk_bs G mo y) 8) then ((y + 1 : Nat) : Int) else vk_bs G mo y := rfl
  rw [hbs]
  by_cases c2 : vk_bs G mo y = 0
  · rw [if_pos ⟨by rw [hfull]; exact h, Or.inl c2⟩]
    omega
  · split
    · omega
    · exact c2
/-- all that give -/
theorem vk_giveL {G : Nat → Int} (hG : ∀ p, p < 8 → 0 ≤ G p ∧ G p ≤ 990) {μ : vr_M} (hg : vk_gn μ G) :
    ∀ (d p n : Nat), 8 - p = d → p ≤ 8 → 8 < p + n → fX0_picksAllThatGive_L4 n (vk_gv G p) (p : Int) μ = some (vk_gv G 8, μ) := by
  intro d
  induction d with
  | zero =>
    intro p n hd hp hn
    obtain ⟨n, rfl⟩ : ∃ m, n = m + 1 := ⟨n - 1, by omega⟩
    have : p = 8 := by omega
    subst this
    rw [fX0_picksAllThatGive_L4.eq_2, if_pos (by decide)]
  | succ d ih =>
    intro p n hd hp hn
    obtain ⟨n, rfl⟩ : ∃ m, n = m + 1 := ⟨n - 1, by omega⟩
    have h9 := ih (p + 1) n (by omega) (by omega) (by omega)
    have hb := vk_gv_in G p
    have h256 := vp_p8 (p := p) (by omega)
    have g1 := hg p (by omega)
    have g2 := hG p (by omega)
    have e1 : ((p : Int)).toNat = p := rfl
    have e3 : (p : Int) + 1 = ((p + 1 : Nat) : Int) := by omega
    have hor : vr_or (vk_gv G p) (vr_shl 1 (p : Int)) = vk_gv G p + 2 ^ p := by rw [vp_or (by omega) (by omega), vp_bit_hi hb.1 hb.2]; rfl
    rw [show vk_gv G (p + 1) = vk_gv G p + if 0 < G p then 2 ^ p else 0 from rfl] at h9
    rw [fX0_picksAllThatGive_L4.eq_2, e1, g1, hor]
    unfold fX0_picksAllThatGive_B25
    rw [if_neg (by omega), vp_gdT (by omega), vp_gdT (by omega), vp_gdT (by omega), vp_gdT (by omega), e3]
    by_cases c : 0 < G p
    · rw [if_pos c] at h9
      rw [if_neg (by omega), h9]
    · rw [if_neg c, Int.add_zero] at h9
      rw [if_pos (by omega), h9]
/-- the fewest -/
theorem vk_fewB {q : Prop} [Decidable q] {μ : vr_M} {a b : Int} (rc : Int → Int → vr_M → Option (Int × vr_M)) (h : fX0_isBetter a b μ = some (if q then 1 else 0, μ)) :
    (fX0_isBetter a b μ).bind (fun r10 => if r10.1 = 0 then fX0_picksFewest_B86 rc b a r10.2 else fX0_picksFewest_B84 rc a r10.2) = if q then fX0_picksFewest_B84 rc a μ else fX0_picksFewest_B86 rc b a μ := by
  rw [h]
  by_cases c : q
  · rw [if_pos c, if_pos c]
    simp only [vp_bind]
    rw [if_neg (by decide)]
  · rw [if_neg c, if_neg c]
    simp only [vp_bind]
    rw [if_pos trivial]
theorem vk_few86 {rc : Int → Int → vr_M → Option (Int × vr_M)} {x1 : Int} {z : Nat} {μ : vr_M} (h : z < 256) : fX0_picksFewest_B86 rc x1 (z : Int) μ = rc x1 ((z + 1 : Nat) : Int) μ := by
  rw [fX0_picksFewest_B86, vp_gdT (by omega), show (z : Int) + 1 = ((z + 1 : Nat) : Int) by omega]
theorem vk_fewL {G : Nat → Int} (hG : ∀ p, p < 8 → 0 ≤ G p ∧ G p ≤ 990) {mo : Int} (hmo : 1 ≤ mo ∧ mo ≤ 99) {N A : Nat} (hN8 : N ≤ 8) (hA : A = 2 ^ N - 1) :
    ∀ (d s n : Nat) (μ : vr_M), A + 1 - s = d → 1 ≤ s → s ≤ A + 1 → A + 1 < s + n → μ 52 5 = (N : Int) → μ 52 7 = mo → vk_gn μ G → (∀ t, t < s → μ 62 t = vh_su G (t : Int) 8) →
      ∃ μ', fX0_picksFewest_L4 n (vk_bs G mo (s - 1)) (s : Int) μ = some (vk_bs G mo A, μ') ∧ vp_fr [62] μ μ' ∧ μ' 62 0 = μ 62 0 := by
  have hA256 : A ≤ 255 := by
    have : ∀ N, N < 9 → 2 ^ N ≤ 256 := by decide
    have := this N (by omega)
    omega
  have hAi : (2 : Int) ^ N - 1 = (A : Int) := by
    have h1 : 1 ≤ 2 ^ N := Nat.one_le_two_pow
    have h2 : ((2 ^ N : Nat) : Int) = 2 ^ N := by simp
    omega
  intro d
  induction d with
  | zero =>
    intro s n μ hd h1 hs hn hN hm hg hsu
    obtain ⟨n, rfl⟩ : ∃ m, n = m + 1 := ⟨n - 1, by omega⟩
    have : s = A + 1 := by omega
    subst this
    refine ⟨μ, ?_, vp_fr.rf, rfl⟩
    rw [fX0_picksFewest_L4.eq_2, vk_all hN8 hN, hAi, show A + 1 - 1 = A from rfl]
    unfold fX0_picksFewest_B92
    simp only [vp_bind]
    rw [if_pos (by omega)]
  | succ d ih =>
    intro s n μ hd h1 hs hn hN hm hg hsu
    obtain ⟨n, rfl⟩ : ∃ m, n = m + 1 := ⟨n - 1, by omega⟩
    obtain ⟨tz1, t8, tb, a0, a1, ab⟩ := vp_tz (s := (s : Int)) (by omega) μ
    obtain ⟨z, rfl⟩ : ∃ z, s = z + 1 := ⟨s - 1, by omega⟩
    have hsum : vh_su G (vr_and ((z + 1 : Nat) : Int) (((z + 1 : Nat) : Int) - 1)) 8 + G (vk_tz ((z + 1 : Nat) : Int)) = vh_su G ((z + 1 : Nat) : Int) 8 := by
      have := vh_su_less (G := G) ab tb 8 (by omega)
      rw [if_pos t8] at this
      omega
    have hand : μ 62 (vr_and ((z + 1 : Nat) : Int) (((z + 1 : Nat) : Int) - 1)).toNat = vh_su G (vr_and ((z + 1 : Nat) : Int) (((z + 1 : Nat) : Int) - 1)) 8 := by
      have := hsu (vr_and ((z + 1 : Nat) : Int) (((z + 1 : Nat) : Int) - 1)).toNat (by omega)
      rw [Int.toNat_of_nonneg a0] at this
      exact this
    have hgt := hg _ t8
    have tm : ((vk_tz ((z + 1 : Nat) : Int) : Nat) : Int).tmod 8 = ((vk_tz ((z + 1 : Nat) : Int) : Nat) : Int) := by rw [Int.tmod_eq_emod_of_nonneg (by omega)]; omega
    have hss := vh_su_in (s := ((z + 1 : Nat) : Int)) (by omega) hG 8 (by omega)
    have hbi := vk_bs_in G mo z
    -- the memory behind the step
    generalize hμ : vr_u μ 62 (z + 1) (vh_su G ((z + 1 : Nat) : Int) 8) = μ9
    have f9 : vp_fr [62] μ μ9 := by rw [← hμ]; exact vp_fr.u (by decide)
    have hsu9 : ∀ t, t < z + 1 + 1 → μ9 62 t = vh_su G (t : Int) 8 := by
      intro t ht
      rw [← hμ]
      by_cases e : t = z + 1
      · subst e; rw [vp_us]
      · rw [vp_uj e]; exact hsu t (by omega)
    have hg9 : vk_gn μ9 G := fun p hp => by rw [f9 60 (by decide)]; exact hg p hp
    obtain ⟨μ', k1, k2, k3⟩ := ih (z + 1 + 1) n μ9 (by omega) (by omega) (by omega) (by omega) (by rw [f9 52 (by decide)]; exact hN) (by rw [f9 52 (by decide)]; exact hm) hg9 hsu9
    rw [show z + 1 + 1 - 1 = z + 1 from rfl] at k1
    refine ⟨μ', ?_, f9.tr k2, by rw [k3, ← hμ, vp_uj (by omega)]⟩
    have h86 := fun x1 => vk_few86 (rc := fX0_picksFewest_L4 n) (x1 := x1) (z := z + 1) (μ := μ9) (by omega)
    rw [fX0_picksFewest_L4.eq_2, vk_all hN8 hN, hAi, show z + 1 - 1 = z from rfl]
    simp only [vp_bind]
    rw [if_neg (by omega), if_neg (by omega)]
    rw [tz1]
    simp only [vp_bind, tm]
    rw [vp_gdT (by omega), vp_gdT (by omega), vp_gdT (by omega)]
    rw [show (((z + 1 : Nat) : Int)).toNat = z + 1 from rfl, show (((vk_tz ((z + 1 : Nat) : Int) : Nat) : Int)).toNat = vk_tz ((z + 1 : Nat) : Int) from rfl, hand, hgt, hsum, hμ]
    simp only [vp_let]
    have s9 := hsu9 (z + 1) (by omega)
    have m9 : μ9 52 7 = mo := by rw [f9 52 (by decide)]; exact hm
    rw [s9, m9, vp_gdT (by omega), vp_gdT (by omega)]
    have hbs : vk_bs G mo (z + 1) = if mo ≤ vh_su G ((z + 1 : Nat) : Int) 8 ∧ (vk_bs G mo z = 0 ∨ vk_ct ((z + 1 : Nat) : Int) 8 < vk_ct (vk_bs G mo z) 8 ∨ vk_ct ((z + 1 : Nat) : Int) 8 = vk_ct (vk_bs G mo z) 8 ∧ vh_su G ((z + 1 : Nat) : Int) 8 < vh_su G (vk_bs G mo z) 8) then ((z + 1 : Nat) : Int) else vk_bs G mo z := vk_bs.eq_2 G mo z
    by_cases c1 : vh_su G ((z + 1 : Nat) : Int) 8 < mo
    · rw [if_neg (by omega)] at hbs
      rw [if_pos c1, h86, ← hbs, k1]
    · rw [if_neg c1]
      by_cases c2 : vk_bs G mo z = 0
      · rw [if_pos ⟨by omega, Or.inl c2⟩] at hbs
        rw [if_pos c2]
        unfold fX0_picksFewest_B84
        rw [h86, ← hbs, k1]
      · rw [if_neg c2]
        have hs9b := hsu9 (vk_bs G mo z).toNat (by omega)
        rw [Int.toNat_of_nonneg hbi.1] at hs9b
        have hbet := vk_better (μ := μ9) hG (a := ((z + 1 : Nat) : Int)) (b := vk_bs G mo z) (by omega) (by omega) s9 hs9b
        clear hs9b
        rw [vk_fewB (fX0_picksFewest_L4 n) hbet]
        by_cases c3 : vk_ct ((z + 1 : Nat) : Int) 8 < vk_ct (vk_bs G mo z) 8 ∨ vk_ct ((z + 1 : Nat) : Int) 8 = vk_ct (vk_bs G mo z) 8 ∧ vh_su G ((z + 1 : Nat) : Int) 8 < vh_su G (vk_bs G mo z) 8
        · rw [if_pos ⟨Int.not_lt.mp c1, Or.inr c3⟩] at hbs
          rw [if_pos c3]
          unfold fX0_picksFewest_B84
          rw [h86, ← hbs, k1]
        · rw [if_neg (fun q => q.2.elim c2 c3)] at hbs
          rw [if_neg c3, h86, ← hbs, k1]
