def vk_gq (G : Nat → Int) (s : Nat) : Nat → Int
  | 0 => 0
  | p + 1 => vk_gq G s p + if 2 ^ p ≤ s ∧ 0 < G p then 2 ^ p else 0
theorem vk_gq_in {G : Nat → Int} {s t : Nat} (hs : s < 2 ^ t) : ∀ n : Nat, 0 ≤ vk_gq G s n ∧ vk_gq G s n < 2 ^ (min n t)
  | 0 => by simp [vk_gq]
  | n + 1 => by
    have ih := vk_gq_in (G := G) hs n
    unfold vk_gq
    have hp := vp_pow_nn n
    by_cases c : n < t
    · rw [show min n t = n by omega] at ih
      rw [show min (n + 1) t = n + 1 by omega, Int.pow_succ]
      split <;> omega
    · rw [show min n t = t by omega] at ih
      rw [show min (n + 1) t = t by omega]
      have : ¬ 2 ^ n ≤ s := by
        have := Nat.pow_le_pow_right (n := 2) (by decide) (show t ≤ n by omega)
        omega
      rw [if_neg (fun q => this q.1)]
      omega
theorem vk_gq_same {G : Nat → Int} {s s' : Nat} : ∀ n : Nat, (∀ p, p < n → (2 ^ p ≤ s ∧ 0 < G p ↔ 2 ^ p ≤ s' ∧ 0 < G p)) → vk_gq G s n = vk_gq G s' n
  | 0, _ => rfl
  | n + 1, h => by
    unfold vk_gq
    rw [vk_gq_same n (fun p hp => h p (by omega)), vp_cs (h n (by omega))]
theorem vk_gq_add {G : Nat → Int} {s t : Nat} (hs : s + 1 = 2 ^ t) : ∀ n : Nat, vk_gq G (s + 1) n = vk_gq G s n + if t < n ∧ 0 < G t then 2 ^ t else 0
  | 0 => by simp [vk_gq]
  | n + 1 => by
    have ih := vk_gq_add (G := G) hs n
    unfold vk_gq
    rw [ih]
    by_cases e : n = t
    · subst e
      have h1 : 2 ^ n ≤ s + 1 := by omega
      have h2 : ¬ 2 ^ n ≤ s := by omega
      have h3 : ¬ n < n := by omega
      have h4 : n < n + 1 := by omega
      simp only [h1, h2, h3, h4, true_and, false_and, if_false]
      try omega
    · have h1 : (2 ^ n ≤ s + 1 ∧ 0 < G n ↔ 2 ^ n ≤ s ∧ 0 < G n) := by
        rcases Nat.lt_or_ge n t with q | q
        · have h5 := Nat.pow_lt_pow_right (a := 2) (by decide) q
          constructor <;> intro z <;> exact ⟨by omega, z.2⟩
        · have h5 := Nat.pow_lt_pow_right (a := 2) (by decide) (show t < n by omega)
          constructor <;> intro z <;> exact ⟨by omega, z.2⟩
      rw [vp_cs h1]
      have h2 : (t < n + 1 ∧ 0 < G t ↔ t < n ∧ 0 < G t) := by constructor <;> intro z <;> exact ⟨by omega, z.2⟩
      rw [vp_cs h2]
      omega
theorem vk_gq_end {G : Nat → Int} {N : Nat} (hG : ∀ p, N ≤ p → p < 8 → G p = 0) : ∀ n : Nat, n ≤ 8 → vk_gq G (2 ^ N - 1) n = vk_gv G n
  | 0, _ => rfl
  | n + 1, h => by
    unfold vk_gq vk_gv
    rw [vk_gq_end hG n (by omega)]
    have e : (2 ^ n ≤ 2 ^ N - 1 ∧ 0 < G n ↔ 0 < G n) := by
      rcases Nat.lt_or_ge n N with q | q
      · have h5 := Nat.pow_lt_pow_right (a := 2) (by decide) q
        exact ⟨fun z => z.2, fun z => ⟨by omega, z⟩⟩
      · have := hG n q (by omega)
        exact ⟨fun z => z.2, fun z => by omega⟩
    rw [vp_cs e]
theorem vk_tz_pow : ∀ t, t < 8 → vk_tz ((2 ^ t : Nat) : Int) = t := by decide +kernel
theorem vk_bs_in (G : Nat → Int) (mo : Int) : ∀ s : Nat, 0 ≤ vk_bs G mo s ∧ vk_bs G mo s ≤ s
  | 0 => by simp [vk_bs]
  | s + 1 => by
    have ih := vk_bs_in G mo s
    unfold vk_bs
    split <;> omega
theorem vk_ct_in (s : Int) : ∀ n : Nat, 0 ≤ vk_ct s n ∧ vk_ct s n ≤ n
  | 0 => by simp [vk_ct]
  | n + 1 => by
    have ih := vk_ct_in s n
    unfold vk_ct
    split <;> omega
theorem vk_better {G : Nat → Int} {μ : vr_M} (hG : ∀ p, p < 8 → 0 ≤ G p ∧ G p ≤ 990) {a b : Int} (ha : 0 ≤ a ∧ a < 256) (hb : 0 ≤ b ∧ b < 256) (h1 : μ 62 a.toNat = vh_su G a 8) (h2 : μ 62 b.toNat = vh_su G b 8) :
    fX0_isBetter a b μ = some (if vk_ct a 8 < vk_ct b 8 ∨ vk_ct a 8 = vk_ct b 8 ∧ vh_su G a 8 < vh_su G b 8 then 1 else 0, μ) := by
  have c1 := vk_ct_in a 8
  have c2 := vk_ct_in b 8
  have s1 := vh_su_in (s := a) (by omega) hG 8 (by omega)
  have s2 := vh_su_in (s := b) (by omega) hG 8 (by omega)
  unfold fX0_isBetter
  rw [vp_ct hb]
  simp only [vp_bind]
  rw [vp_ct ha]
  simp only [vp_bind]
  unfold fX0_isBetter_B33 fX0_isBetter_B37 fX0_isBetter_B38
  simp only [h1, h2]
  by_cases d1 : vk_ct a 8 < vk_ct b 8
  · simp (disch := omega) only [vp_gdT, vp_gdTT, vp_let, vr_R, if_pos, if_neg, ite_true, ite_false, vp_bind, if_true, if_false, not_true_eq_false, not_false_eq_true, decide_eq_true_eq, true_or, or_true, true_and, and_true, false_or, or_false, false_and, and_false]
  · by_cases d2 : vk_ct a 8 = vk_ct b 8
    · by_cases d3 : vh_su G a 8 < vh_su G b 8
      · simp (disch := omega) only [vp_gdT, vp_gdTT, vp_let, vr_R, if_pos, if_neg, ite_true, ite_false, vp_bind, if_true, if_false, not_true_eq_false, not_false_eq_true, decide_eq_true_eq, true_or, or_true, true_and, and_true, false_or, or_false, false_and, and_false]
      · simp (disch := omega) only [vp_gdT, vp_gdTT, vp_let, vr_R, if_pos, if_neg, ite_true, ite_false, vp_bind, if_true, if_false, not_true_eq_false, not_false_eq_true, decide_eq_true_eq, true_or, or_true, true_and, and_true, false_or, or_false, false_and, and_false]
    · simp (disch := omega) only [vp_gdT, vp_gdTT, vp_let, vr_R, if_pos, if_neg, ite_true, ite_false, vp_bind, if_true, if_false, not_true_eq_false, not_false_eq_true, decide_eq_true_eq, true_or, or_true, true_and, and_true, false_or, or_false, false_and, and_false]
theorem vk_all {N : Nat} (hN8 : N ≤ 8) {μ : vr_M} {k : Nat} (hN : μ k 5 = (N : Int)) : fX2_all k μ = some (2 ^ N - 1, μ) := by
  have h := vp_p8 hN8
  have h2 := vp_pow_nn N
  unfold fX2_all
  rw [hN, vp_shl (by omega), vp_gdT (by omega)]
theorem vk_few90 {G : Nat → Int} (hG : ∀ p, p < 8 → 0 ≤ G p ∧ G p ≤ 990) {μ : vr_M} (hg : vk_gn μ G) {s : Nat} (hs : 1 ≤ s ∧ s < 256) (rc : Int → Int → Int → vr_M → Option (Int × vr_M)) (x1 : Int) :
    fX0_picksFewest_B90 rc x1 (vk_gq G (s - 1) 8) (s : Int) ((vk_tz (s : Int) : Nat) : Int) μ = rc x1 (vk_gq G s 8) ((s + 1 : Nat) : Int) μ := by
  obtain ⟨-, t8, tb, -, -, -⟩ := vp_tz (s := (s : Int)) (by omega) μ
  obtain ⟨z, rfl⟩ : ∃ z, s = z + 1 := ⟨s - 1, by omega⟩
  rw [show z + 1 - 1 = z from rfl]
  generalize ht : vk_tz ((z + 1 : Nat) : Int) = t at *
  have hp : vr_shl 1 (t : Int) = ((2 ^ t : Nat) : Int) := by rw [vp_shl (by omega)]; simp
  have g1 := hg t t8
  have g2 := hG t t8
  have e1 : ((t : Int)).toNat = t := rfl
  have e3 : ((z + 1 : Nat) : Int) + 1 = ((z + 1 + 1 : Nat) : Int) := by omega
  unfold fX0_picksFewest_B90 fX0_picksFewest_B112
  rw [hp, e1, g1, e3]
  by_cases c : z + 1 = 2 ^ t
  · have ha := vk_gq_add (G := G) c 8
    have hb := vk_gq_in (G := G) (s := z) (t := t) (by omega) 8
    rw [show min 8 t = t by omega] at hb
    have h256 := vp_p8 (p := t) (by omega)
    rw [if_neg (by omega), vp_gdT (by omega), vp_gdT (by omega)]
    by_cases d : 0 < G t
    · rw [if_pos ⟨t8, d⟩] at ha
      have hor : vr_or (vk_gq G z 8) ((z + 1 : Nat) : Int) = vk_gq G z 8 + 2 ^ t := by
        rw [c, ← hp, vp_or (by omega) t8, vp_bit_hi hb.1 hb.2]; rfl
      rw [if_neg (by omega), vp_gdT (by omega), hor, ha]
    · rw [if_neg (fun q => d q.2), Int.add_zero] at ha
      rw [if_pos (by omega), vp_gdT (by omega), ha]
  · have hs2 : vk_gq G (z + 1) 8 = vk_gq G z 8 := vk_gq_same 8 (fun p hp => by
      have hne : z + 1 ≠ 2 ^ p := by
        intro q
        have := vk_tz_pow p hp
        rw [← q, ht] at this
        subst this
        exact c q
      constructor <;> intro w <;> exact ⟨by omega, w.2⟩)
    rw [if_pos (by omega), vp_gdT (by omega), hs2]
theorem vk_fewB {q : Prop} [Decidable q] {μ : vr_M} {a b x2 t : Int} (rc : Int → Int → Int → vr_M → Option (Int × vr_M)) (h : fX0_isBetter a b μ = some (if q then 1 else 0, μ)) (ht : vr_R t) :
    (fX0_isBetter a b μ).bind (fun r14 => if r14.1 = 0 then vr_gd (vr_R t) (fX0_picksFewest_B90 rc b x2 a t r14.2) else vr_gd (vr_R t) (fX0_picksFewest_B88 rc x2 a t r14.2)) = if q then fX0_picksFewest_B88 rc x2 a t μ else fX0_picksFewest_B90 rc b x2 a t μ := by
  rw [h]
  by_cases c : q
  · rw [if_pos c, if_pos c]
    simp only [vp_bind]
    rw [if_neg (by decide), vp_gdT ht]
  · rw [if_neg c, if_neg c]
    simp only [vp_bind]
    rw [if_pos trivial, vp_gdT ht]
theorem vk_fewL {G : Nat → Int} (hG : ∀ p, p < 8 → 0 ≤ G p ∧ G p ≤ 990) {mo : Int} (hmo : 1 ≤ mo ∧ mo ≤ 99) {N A : Nat} (hN8 : N ≤ 8) (hA : A = 2 ^ N - 1) :
    ∀ (d s n : Nat) (μ : vr_M), A + 1 - s = d → 1 ≤ s → s ≤ A + 1 → A + 1 < s + n → μ 52 5 = (N : Int) → μ 52 7 = mo → vk_gn μ G → (∀ t, t < s → μ 62 t = vh_su G (t : Int) 8) →
      ∃ μ', fX0_picksFewest_L6 n (vk_bs G mo (s - 1)) (vk_gq G (s - 1) 8) (s : Int) μ = some (if vk_bs G mo A = 0 then vk_gq G A 8 else vk_bs G mo A, μ') ∧ vp_fr [62] μ μ' ∧ μ' 62 0 = μ 62 0 := by
  have hA256 : A ≤ 255 := by
    have : ∀ N, N < 9 → 2 ^ N ≤ 256 := by decide
    have := this N (by omega)
    omega
  have hAi : (2 : Int) ^ N - 1 = (A : Int) := by
    have h1 : 1 ≤ 2 ^ N := Nat.one_le_two_pow
    have h2 : ((2 ^ N : Nat) : Int) = 2 ^ N := by simp
    omega
  intro d
  induction d with
  | zero =>
    intro s n μ hd h1 hs hn hN hm hg hsu
    obtain ⟨n, rfl⟩ : ∃ m, n = m + 1 := ⟨n - 1, by omega⟩
    have : s = A + 1 := by omega
    subst this
    refine ⟨μ, ?_, vp_fr.rf, rfl⟩
    rw [fX0_picksFewest_L6.eq_2, vk_all hN8 hN, hAi, show A + 1 - 1 = A from rfl]
    unfold fX0_picksFewest_B118 fX0_picksFewest_B127
    simp only [vp_bind]
    rw [if_pos (by omega)]
    by_cases c : vk_bs G mo A = 0
    · rw [if_neg (by omega), if_pos c]
    · rw [if_pos c, if_neg c]
  | succ d ih =>
    intro s n μ hd h1 hs hn hN hm hg hsu
    obtain ⟨n, rfl⟩ : ∃ m, n = m + 1 := ⟨n - 1, by omega⟩
    obtain ⟨tz1, t8, tb, a0, a1, ab⟩ := vp_tz (s := (s : Int)) (by omega) μ
    obtain ⟨z, rfl⟩ : ∃ z, s = z + 1 := ⟨s - 1, by omega⟩
    have hsum : vh_su G (vr_and ((z + 1 : Nat) : Int) (((z + 1 : Nat) : Int) - 1)) 8 + G (vk_tz ((z + 1 : Nat) : Int)) = vh_su G ((z + 1 : Nat) : Int) 8 := by
      have := vh_su_less (G := G) ab tb 8 (by omega)
      rw [if_pos t8] at this
      omega
    have hand : μ 62 (vr_and ((z + 1 : Nat) : Int) (((z + 1 : Nat) : Int) - 1)).toNat = vh_su G (vr_and ((z + 1 : Nat) : Int) (((z + 1 : Nat) : Int) - 1)) 8 := by
      have := hsu (vr_and ((z + 1 : Nat) : Int) (((z + 1 : Nat) : Int) - 1)).toNat (by omega)
      rw [Int.toNat_of_nonneg a0] at this
      exact this
    have hgt := hg _ t8
    have tm : ((vk_tz ((z + 1 : Nat) : Int) : Nat) : Int).tmod 8 = ((vk_tz ((z + 1 : Nat) : Int) : Nat) : Int) := by rw [Int.tmod_eq_emod_of_nonneg (by omega)]; omega
    have hss := vh_su_in (s := ((z + 1 : Nat) : Int)) (by omega) hG 8 (by omega)
    have hbi := vk_bs_in G mo z
    -- the memory behind the step
    generalize hμ : vr_u μ 62 (z + 1) (vh_su G ((z + 1 : Nat) : Int) 8) = μ9
    have f9 : vp_fr [62] μ μ9 := by rw [← hμ]; exact vp_fr.u (by decide)
    have hsu9 : ∀ t, t < z + 1 + 1 → μ9 62 t = vh_su G (t : Int) 8 := by
      intro t ht
      rw [← hμ]
      by_cases e : t = z + 1
      · subst e; rw [vp_us]
      · rw [vp_uj e]; exact hsu t (by omega)
    have hg9 : vk_gn μ9 G := fun p hp => by rw [f9 60 (by decide)]; exact hg p hp
    obtain ⟨μ', k1, k2, k3⟩ := ih (z + 1 + 1) n μ9 (by omega) (by omega) (by omega) (by omega) (by rw [f9 52 (by decide)]; exact hN) (by rw [f9 52 (by decide)]; exact hm) hg9 hsu9
    rw [show z + 1 + 1 - 1 = z + 1 from rfl] at k1
    refine ⟨μ', ?_, f9.tr k2, by rw [k3, ← hμ, vp_uj (by omega)]⟩
    have h90 := fun x1 => vk_few90 (s := z + 1) hG hg9 (by omega) (fX0_picksFewest_L6 n) x1
    rw [show z + 1 - 1 = z from rfl] at h90
    rw [fX0_picksFewest_L6.eq_2, vk_all hN8 hN, hAi, show z + 1 - 1 = z from rfl]
    simp only [vp_bind]
    rw [if_neg (by omega), if_neg (by omega)]
    rw [tz1]
    simp only [vp_bind, tm]
    rw [vp_gdT (by omega), vp_gdT (by omega), vp_gdT (by omega)]
    rw [show (((z + 1 : Nat) : Int)).toNat = z + 1 from rfl, show (((vk_tz ((z + 1 : Nat) : Int) : Nat) : Int)).toNat = vk_tz ((z + 1 : Nat) : Int) from rfl, hand, hgt, hsum, hμ]
    simp only [vp_let]
    have s9 := hsu9 (z + 1) (by omega)
    have m9 : μ9 52 7 = mo := by rw [f9 52 (by decide)]; exact hm
    rw [s9, m9, vp_gdT (by omega), vp_gdT (by omega)]
    have hbs : vk_bs G mo (z + 1) = if mo ≤ vh_su G ((z + 1 : Nat) : Int) 8 ∧ (vk_bs G mo z = 0 ∨ vk_ct ((z + 1 : Nat) : Int) 8 < vk_ct (vk_bs G mo z) 8 ∨ vk_ct ((z + 1 : Nat) : Int) 8 = vk_ct (vk_bs G mo z) 8 ∧ vh_su G ((z + 1 : Nat) : Int) 8 < vh_su G (vk_bs G mo z) 8) then ((z + 1 : Nat) : Int) else vk_bs G mo z := vk_bs.eq_2 G mo z
    by_cases c1 : vh_su G ((z + 1 : Nat) : Int) 8 < mo
    · rw [if_neg (by omega)] at hbs
      rw [if_pos c1, vp_gdT (by omega), h90, ← hbs, k1]
    · rw [if_neg c1]
      by_cases c2 : vk_bs G mo z = 0
      · rw [if_pos ⟨by omega, Or.inl c2⟩] at hbs
        rw [if_pos c2, vp_gdT (by omega)]
        unfold fX0_picksFewest_B88
        rw [h90, ← hbs, k1]
      · rw [if_neg c2]
        have hs9b := hsu9 (vk_bs G mo z).toNat (by omega)
        rw [Int.toNat_of_nonneg hbi.1] at hs9b
        have hbet := vk_better (μ := μ9) hG (a := ((z + 1 : Nat) : Int)) (b := vk_bs G mo z) (by omega) (by omega) s9 hs9b
        clear hs9b
        rw [vk_fewB (fX0_picksFewest_L6 n) hbet (by omega)]
        by_cases c3 : vk_ct ((z + 1 : Nat) : Int) 8 < vk_ct (vk_bs G mo z) 8 ∨ vk_ct ((z + 1 : Nat) : Int) 8 = vk_ct (vk_bs G mo z) 8 ∧ vh_su G ((z + 1 : Nat) : Int) 8 < vh_su G (vk_bs G mo z) 8
        · rw [if_pos ⟨Int.not_lt.mp c1, Or.inr c3⟩] at hbs
          rw [if_pos c3]
          unfold fX0_picksFewest_B88
          rw [h90, ← hbs, k1]
        · rw [if_neg (fun q => q.2.elim c2 c3)] at hbs
          rw [if_neg c3, h90, ← hbs, k1]
