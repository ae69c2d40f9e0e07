def vm_ky (rd : Int) (h : vh_H) (j : Nat) : Int := if j = 24 then h 5 1 else if j = 25 then h 5 3 % rd else if ((j / 3 : Nat) : Int) < h 5 0 then h (2 + j % 3) (j / 3) else 0
theorem vm_ky_at {rd : Int} {h : vh_H} {p q : Nat} (hp : p < 8) (hq : q < 3) : vm_ky rd h (3 * p + q) = if (p : Int) < h 5 0 then h (2 + q) p else 0 := by
  unfold vm_ky
  rw [if_neg (by omega), if_neg (by omega), show (3 * p + q) / 3 = p by omega, show (3 * p + q) % 3 = q by omega]
theorem vm_noteL {rd Y : Int} {h : vh_H} {k : Nat} (hY : Y ≤ 100000) (hw : vh_wf Y h) (hrd : 1 ≤ rd ∧ rd ≤ 30) (hk : k ≤ 200) :
    ∀ (d p n : Nat) (μ : vr_M), p + d = 8 → d < n → vm_h μ = h → (∀ j, j < 3 * p → μ 75 (26 * k + j) = vm_ky rd h j) →
      ∃ μ', fX10_notes_L2 n (k : Int) rd (p : Int) μ = some (0, μ') ∧ vp_fr [75] μ μ' ∧ (∀ j, j < 26 → μ' 75 (26 * k + j) = vm_ky rd h j) ∧ ∀ j, j < 26 * k → μ' 75 j = μ 75 j := by
  intro d
  induction d with
  | zero =>
    intro p n μ hd hn hh hj
    obtain ⟨n, rfl⟩ : ∃ m, n = m + 1 := ⟨n - 1, by omega⟩
    have m7 : μ 69 7 = h 5 1 := by rw [← hh]; rfl
    have m3 : μ 69 3 = h 5 3 := by rw [← hh]; rfl
    have w3 := hw.2.2.2.1
    have e24 : (26 * (k : Int) + 24).toNat = 26 * k + 24 := by omega
    have e25 : (26 * (k : Int) + 25).toNat = 26 * k + 25 := by omega
    have tm : (h 5 3).tmod rd = h 5 3 % rd := Int.tmod_eq_emod_of_nonneg w3.1
    refine ⟨vr_u (vr_u μ 75 (26 * k + 24) (h 5 1)) 75 (26 * k + 25) (h 5 3 % rd), ?_, (vp_fr.u (by decide)).tr (vp_fr.u (by decide)), fun j hj26 => ?_, fun j hj2 => ?_⟩
    · rw [fX10_notes_L2.eq_2, if_pos (by omega), vp_gdT (by omega), vp_let, e24, m7]
      have n3 : vr_u μ 75 (26 * k + 24) (h 5 1) 69 3 = h 5 3 := by rw [vp_un (by decide), m3]
      simp only [n3, tm, e25]
      rw [vp_gdT (by omega), vp_gdT (by omega), vp_gdT (by omega)]
    · by_cases c5 : j = 25
      · subst c5; rw [vp_us]; rfl
      · rw [vp_uj (by omega)]
        by_cases c4 : j = 24
        · subst c4; rw [vp_us]; rfl
        · rw [vp_uj (by omega), hj j (by omega)]
    · rw [vp_uj (by omega), vp_uj (by omega)]
  | succ d ih =>
    intro p n μ hd hn hh hj
    obtain ⟨n, rfl⟩ : ∃ m, n = m + 1 := ⟨n - 1, by omega⟩
    have hp8 : p < 8 := by omega
    have w0 := hw.1
    have m0 : μ 69 0 = h 5 0 := by rw [← hh]; rfl
    have p2 := vm_hf hh (f := 2) (by decide) hp8
    have p3 := vm_hf hh (f := 3) (by decide) hp8
    have p4 := vm_hf hh (f := 4) (by decide) hp8
    obtain ⟨b0, b1, b2, b3, b4⟩ := hw.2.2.2.2 p hp8
    have e146 : (146 + (p : Int)).toNat = 130 + 8 * 2 + p := by omega
    have e154 : (154 + (p : Int)).toNat = 130 + 8 * 3 + p := by omega
    have e162 : (162 + (p : Int)).toNat = 130 + 8 * 4 + p := by omega
    have e3 : (p : Int) + 1 = ((p + 1 : Nat) : Int) := by omega
    have i0 : (26 * (k : Int) + 3 * (p : Int)).toNat = 26 * k + 3 * p := by omega
    have i1 : (26 * (k : Int) + 3 * (p : Int) + 1).toNat = 26 * k + 3 * p + 1 := by omega
    have i2 : (26 * (k : Int) + 3 * (p : Int) + 2).toNat = 26 * k + 3 * p + 2 := by omega
    have k0 := vm_ky_at (rd := rd) (h := h) (p := p) (q := 0) hp8 (by decide)
    have k1 := vm_ky_at (rd := rd) (h := h) (p := p) (q := 1) hp8 (by decide)
    have k2 := vm_ky_at (rd := rd) (h := h) (p := p) (q := 2) hp8 (by decide)
    generalize hM : vr_u (vr_u (vr_u μ 75 (26 * k + 3 * p) (vm_ky rd h (3 * p + 0))) 75 (26 * k + 3 * p + 1) (vm_ky rd h (3 * p + 1))) 75 (26 * k + 3 * p + 2) (vm_ky rd h (3 * p + 2)) = M
    have fM : vp_fr [75] μ M := by rw [← hM]; exact ((vp_fr.u (by decide)).tr (vp_fr.u (by decide))).tr (vp_fr.u (by decide))
    obtain ⟨μ', g1, g2, g3, g4⟩ := ih (p + 1) n M (by omega) (by omega) ((vm_h_fr (fM 69 (by decide))).trans hh) (fun j hjp => by
      rw [← hM]
      by_cases c2 : j = 3 * p + 2
      · subst c2; rw [show 26 * k + (3 * p + 2) = 26 * k + 3 * p + 2 by omega, vp_us]
      · rw [vp_uj (by omega)]
        by_cases c1 : j = 3 * p + 1
        · subst c1; rw [show 26 * k + (3 * p + 1) = 26 * k + 3 * p + 1 by omega, vp_us]
        · rw [vp_uj (by omega)]
          by_cases c0 : j = 3 * p
          · subst c0; rw [vp_us]; rfl
          · rw [vp_uj (by omega)]; exact hj j (by omega))
    refine ⟨μ', ?_, fM.tr g2, g3, fun j hj2 => by rw [g4 j hj2, ← hM, vp_uj (by omega), vp_uj (by omega), vp_uj (by omega)]⟩
    rw [fX10_notes_L2.eq_2, if_neg (by omega), vp_gdT (by omega), m0]
    unfold fX10_notes_B44 fX10_notes_B83 fX10_notes_B122
    simp only [vp_let, vp_un (show 69 ≠ 75 by decide), m0, i0, i1, i2, e146, e154, e162, p2, p3, p4, e3]
    by_cases c : h 5 0 ≤ (p : Int)
    · rw [if_neg (by omega)] at k0 k1 k2
      rw [k0, k1, k2] at hM
      rw [if_pos c, vp_gdT (by omega), vp_gdT (by omega), vp_gdT (by omega), if_pos c, vp_gdT (by omega), vp_gdT (by omega), vp_gdT (by omega), if_pos c, vp_gdT (by omega), vp_gdT (by omega), vp_gdT (by omega), hM, g1]
    · rw [if_pos (by omega)] at k0 k1 k2
      rw [k0, k1, k2] at hM
      rw [if_neg c, vp_gdT (by omega), vp_gdT (by omega), vp_gdT (by omega), vp_gdT (by omega), vp_gdT (by omega), if_neg c, vp_gdT (by omega), vp_gdT (by omega), vp_gdT (by omega), vp_gdT (by omega), vp_gdT (by omega), if_neg c, vp_gdT (by omega), vp_gdT (by omega), vp_gdT (by omega), vp_gdT (by omega), vp_gdT (by omega), hM, g1]
theorem vm_note {rd Y : Int} {h : vh_H} {k : Nat} {μ : vr_M} (hY : Y ≤ 100000) (hw : vh_wf Y h) (hrd : 1 ≤ rd ∧ rd ≤ 30) (hk : k ≤ 200) (hh : vm_h μ = h) :
    ∃ μ', fX10_notes (k : Int) rd μ = some (0, μ') ∧ vp_fr [75] μ μ' ∧ (∀ j, j < 26 → μ' 75 (26 * k + j) = vm_ky rd h j) ∧ ∀ j, j < 26 * k → μ' 75 j = μ 75 j :=
  vm_noteL hY hw hrd hk 8 0 9000 μ (by decide) (by decide) hh (fun j hj => by omega)
def vm_s26 (Q : Nat → Nat → Int) (a b : Nat) : Bool := (List.range 26).all (fun j => decide (Q a j = Q b j))
theorem vm_s26_iff {Q : Nat → Nat → Int} {a b : Nat} : vm_s26 Q a b = true ↔ ∀ j, j < 26 → Q a j = Q b j := by
  unfold vm_s26
  rw [List.all_eq_true]
  exact ⟨fun h j hj => of_decide_eq_true (h j (List.mem_range.mpr hj)), fun h j hj => decide_eq_true (h j (List.mem_range.mp hj))⟩
theorem vm_s26L {Q : Nat → Nat → Int} {μ : vr_M} {rc : Int → Int → vr_M → Option (Int × vr_M)} {j k : Nat} (hj : j ≤ 200) (hk : k ≤ 200) (hR : ∀ a t, a ≤ k → t < 26 → vr_R (Q a t)) (hjk : j ≤ k) (h1 : ∀ a t, a ≤ k → t < 26 → μ 75 (26 * a + t) = Q a t) :
    ∀ (d t n : Nat), t + d = 26 → (∀ u, u < t → Q j u = Q k u) → fX10_formerOf_L12 rc (n + d + 2) (k : Int) (j : Int) 1 (t : Int) μ = fX10_formerOf_B62 rc (k : Int) (j : Int) (if vm_s26 Q j k = true then 1 else 0) μ := by
  intro d
  induction d with
  | zero =>
    intro t n hd ht
    rw [show n + 0 + 2 = (n + 1) + 1 from rfl, fX10_formerOf_L12.eq_2, if_pos (by omega), if_pos (vm_s26_iff.mpr (fun u hu => ht u (by omega)))]
  | succ d ih =>
    intro t n hd ht
    have ea : (26 * (j : Int) + (t : Int)).toNat = 26 * j + t := by omega
    have eb : (26 * (k : Int) + (t : Int)).toNat = 26 * k + t := by omega
    have e3 : (t : Int) + 1 = ((t + 1 : Nat) : Int) := by omega
    have q1 := h1 j t hjk (by omega)
    have q2 := h1 k t (Nat.le_refl k) (by omega)
    have r1 := hR j t hjk (by omega)
    have r2 := hR k t (Nat.le_refl k) (by omega)
    rw [show n + (d + 1) + 2 = (n + d + 2) + 1 by omega, fX10_formerOf_L12.eq_2, if_neg (by omega), if_neg (by decide), vp_gdT (by omega), vp_gdT (by omega), ea, eb, q1, q2, vp_gdT r1, vp_gdT r2]
    unfold fX10_formerOf_B55
    rw [vp_gdT (by omega), vp_gdT (by omega), e3]
    by_cases c : Q j t = Q k t
    · rw [if_neg (fun z => z c), ih (t + 1) n (by omega) (fun u hu => by
        by_cases e : u = t
        · subst e; exact c
        · exact ht u (by omega))]
    · rw [if_pos c, show n + d + 2 = (n + d + 1) + 1 by omega, fX10_formerOf_L12.eq_2, if_neg (fun q => c (vm_s26_iff.mp q t (by omega)))]
      by_cases z : 26 ≤ ((t + 1 : Nat) : Int)
      · rw [if_pos z]
      · rw [if_neg z, if_pos rfl]
def vm_fm (Q : Nat → Nat → Int) (k : Nat) : Nat → Nat → Int
  | 0, _ => -1
  | d + 1, j => if vm_s26 Q j k = true then (j : Int) else vm_fm Q k d (j + 1)
theorem vm_formerL {Q : Nat → Nat → Int} {μ : vr_M} {k : Nat} (hk : k ≤ 200) (hR : ∀ a t, a ≤ k → t < 26 → vr_R (Q a t)) (h1 : ∀ a t, a ≤ k → t < 26 → μ 75 (26 * a + t) = Q a t) :
    ∀ (d j n : Nat), j + d = k → d < n → fX10_formerOf_L2 n (k : Int) (j : Int) μ = some (vm_fm Q k d j, μ) := by
  intro d
  induction d with
  | zero =>
    intro j n hd hn
    obtain ⟨n, rfl⟩ : ∃ m, n = m + 1 := ⟨n - 1, by omega⟩
    rw [fX10_formerOf_L2.eq_2, if_pos (by omega)]
    rfl
  | succ d ih =>
    intro j n hd hn
    obtain ⟨n, rfl⟩ : ∃ m, n = m + 1 := ⟨n - 1, by omega⟩
    have e3 : (j : Int) + 1 = ((j + 1 : Nat) : Int) := by omega
    have L := vm_s26L (rc := fX10_formerOf_L2 n) (j := j) (by omega) hk hR (by omega) h1 26 0 8972 (by decide) (fun u hu => by omega)
    have L' : fX10_formerOf_L12 (fX10_formerOf_L2 n) 9000 (k : Int) (j : Int) 1 0 μ = fX10_formerOf_B62 (fX10_formerOf_L2 n) (k : Int) (j : Int) (if vm_s26 Q j k = true then 1 else 0) μ := L
    rw [fX10_formerOf_L2.eq_2, if_neg (by omega), L', vm_fm]
    unfold fX10_formerOf_B62
    by_cases c : vm_s26 Q j k = true
    · rw [if_pos c, if_neg (by decide), if_pos c]
    · rw [if_neg c, if_pos rfl, vp_gdT (by omega), e3, ih (j + 1) n (by omega) (by omega), if_neg c]
theorem vm_fm_fl {Q K : Nat → Nat → Int} {k : Nat} (hs : ∀ a, a < k → (vm_s26 Q a k = true ↔ vc_sm K a k = true)) : ∀ (d j : Nat), j + d = k → vm_fm Q k d j = if vc_fl K k d j < k then ((vc_fl K k d j : Nat) : Int) else -1
  | 0, j, h => by rw [vm_fm, vc_fl, if_neg (by omega)]
  | d + 1, j, h => by
    have e := hs j (by omega)
    rw [vm_fm, vc_fl]
    by_cases c : vc_sm K j k = true
    · rw [if_pos (e.mpr c), if_pos c, if_pos (by omega)]
    · rw [if_neg (fun q => c (e.mp q)), if_neg c, vm_fm_fl hs d (j + 1) (by omega)]
/-- both kinds of keys tell the same years apart -/
theorem vm_ky_key {kind v Y Y' : Int} {h h' : vh_H} (hvr : 1 ≤ v ∧ v ≤ 30) (hw : vh_wf Y h) (hw' : vh_wf Y' h') (h0 : h 5 0 = h' 5 0) :
    (∀ j, j < 26 → vm_ky (if kind = 1 then v else 1) h j = vm_ky (if kind = 1 then v else 1) h' j) ↔ ∀ j, j < 9 → vc_key kind v h j = vc_key kind v h' j := by
  have w0 := hw.1
  have t1 : vc_tn kind v h = h 5 3 % (if kind = 1 then v else 1) := by unfold vc_tn; split <;> omega
  have t2 : vc_tn kind v h' = h' 5 3 % (if kind = 1 then v else 1) := by unfold vc_tn; split <;> omega
  have hrd : (1 : Int) ≤ (if kind = 1 then v else 1) ∧ (if kind = 1 then v else 1) ≤ 30 := by split <;> omega
  generalize (if kind = 1 then v else 1) = rd at *
  have m1 := Int.emod_nonneg (h 5 3) (show rd ≠ 0 by omega)
  have m2 := Int.emod_lt_of_pos (h 5 3) (show 0 < rd by omega)
  have m3 := Int.emod_nonneg (h' 5 3) (show rd ≠ 0 by omega)
  have m4 := Int.emod_lt_of_pos (h' 5 3) (show 0 < rd by omega)
  have k8 : ∀ h : vh_H, vc_key kind v h 8 = h 5 1 * 31 + vc_tn kind v h := fun _ => rfl
  have k24 : ∀ h : vh_H, vm_ky rd h 24 = h 5 1 := fun _ => rfl
  have k25 : ∀ h : vh_H, vm_ky rd h 25 = h 5 3 % rd := fun _ => rfl
  have kp : ∀ (h : vh_H) (p : Nat), p < 8 → vc_key kind v h p = if (p : Int) < h 5 0 then (h 2 p * 31 + h 3 p) * 10 + h 4 p else 0 := fun h p hp => by unfold vc_key; rw [if_neg (by omega)]
  constructor
  · intro q j hj
    by_cases c8 : j = 8
    · subst c8
      have a := q 24 (by decide)
      have b := q 25 (by decide)
      rw [k24, k24] at a
      rw [k25, k25] at b
      rw [k8, k8, t1, t2]
      omega
    · have a := q (3 * j + 0) (by omega)
      have b := q (3 * j + 1) (by omega)
      have c := q (3 * j + 2) (by omega)
      rw [vm_ky_at (by omega) (by decide), vm_ky_at (by omega) (by decide)] at a b c
      rw [kp h j (by omega), kp h' j (by omega), ← h0]
      rw [← h0] at a b c
      by_cases z : (j : Int) < h 5 0
      · rw [if_pos z, if_pos z] at a b c
        rw [if_pos z, if_pos z]
        rw [show 2 + 0 = 2 from rfl] at a
        rw [show 2 + 1 = 3 from rfl] at b
        rw [show 2 + 2 = 4 from rfl] at c
        rw [a, b, c]
      · rw [if_neg z, if_neg z]
  · intro q j hj
    have a := q 8 (by decide)
    rw [k8, k8, t1, t2] at a
    have w1 := hw.2.1
    have w1' := hw'.2.1
    by_cases c4 : j = 24
    · subst c4
      rw [k24, k24]
      omega
    · by_cases c5 : j = 25
      · subst c5
        rw [k25, k25]
        omega
      · obtain ⟨p, t, hp, ht, rfl⟩ : ∃ p t, p < 8 ∧ t < 3 ∧ j = 3 * p + t := ⟨j / 3, j % 3, by omega, by omega, by omega⟩
        have b := q p (by omega)
        rw [kp h p hp, kp h' p hp, ← h0] at b
        rw [vm_ky_at hp ht, vm_ky_at hp ht, ← h0]
        obtain ⟨-, -, x2, x3, x4⟩ := hw.2.2.2.2 p hp
        obtain ⟨-, -, y2, y3, y4⟩ := hw'.2.2.2.2 p hp
        by_cases z : (p : Int) < h 5 0
        · rw [if_pos z, if_pos z] at b
          rw [if_pos z, if_pos z]
          rcases (show t = 0 ∨ t = 1 ∨ t = 2 by omega) with rfl | rfl | rfl
          · show h 2 p = h' 2 p; omega
          · show h 3 p = h' 3 p; omega
          · show h 4 p = h' 4 p; omega
        · rw [if_neg z, if_neg z]
