/-! what the Statement gives of the start -/
abbrev vs_fl : List Cond := flatC (Jvm.Cond.and given_1 narrow_1)
def vs_tm (i : Nat) : Term := Term.string (vr_Str i).1 (vr_Str i).2.1
theorem vs_tabA {args : Array Value} {s : State} {A : Nat → Prop} (hgv : (Jvm.Cond.and given_1 narrow_1).before args s = true) (hts : ∀ w ∈ lw_tbl, w.before args s = true) (hA : ∀ a : Nat, a < s.heap.size → ¬ A a) : ∃ a : Nat, va_Z "VillageRounds" "ABOVE" "[I" (.ref a) A s s.heap ∧ va_T .int a 7 (fun j => .int (vr_I (vr_ABOVE.getD j 0))) A s s.heap := by
  have hs := flat_of_before _ hgv
  have hm : ∀ j : Nat, j < 7 → Cond.eq (.elem (.static "VillageRounds" "ABOVE" "[I") (.int (Int32.ofNat j))) (.int (vr_I (vr_ABOVE.getD j 0))) ∈ vs_fl := by decide +kernel
  obtain ⟨t, h1, h2⟩ := va_Tof (args := args) (s := s) (tm := .static "VillageRounds" "ABOVE" "[I") (ty := .int) (N := 7) (f := fun j => .int (vr_I (vr_ABOVE.getD j 0))) (A := A) (by decide) (hs _ (by decide +kernel)) (va_eqt (hs _ (by decide +kernel))) (fun j hj => va_eqt (hs _ (hm j hj))) hA
  exact ⟨t, va_Zof (hts _ (by decide +kernel)) (hts _ (by decide +kernel)) h1 hA, h2⟩
theorem vs_tabB {args : Array Value} {s : State} {A : Nat → Prop} (hgv : (Jvm.Cond.and given_1 narrow_1).before args s = true) (hts : ∀ w ∈ lw_tbl, w.before args s = true) (hA : ∀ a : Nat, a < s.heap.size → ¬ A a) : ∃ a : Nat, va_Z "VillageRounds" "BODIES" "[I" (.ref a) A s s.heap ∧ va_T .int a 21 (fun j => .int (vr_I (vr_BODIES.getD j 0))) A s s.heap := by
  have hs := flat_of_before _ hgv
  have hm : ∀ j : Nat, j < 21 → Cond.eq (.elem (.static "VillageRounds" "BODIES" "[I") (.int (Int32.ofNat j))) (.int (vr_I (vr_BODIES.getD j 0))) ∈ vs_fl := by decide +kernel
  obtain ⟨t, h1, h2⟩ := va_Tof (args := args) (s := s) (tm := .static "VillageRounds" "BODIES" "[I") (ty := .int) (N := 21) (f := fun j => .int (vr_I (vr_BODIES.getD j 0))) (A := A) (by decide) (hs _ (by decide +kernel)) (va_eqt (hs _ (by decide +kernel))) (fun j hj => va_eqt (hs _ (hm j hj))) hA
  exact ⟨t, va_Zof (hts _ (by decide +kernel)) (hts _ (by decide +kernel)) h1 hA, h2⟩
theorem vs_jdk {args : Array Value} {s : State} {A : Nat → Prop} (hgv : (Jvm.Cond.and given_1 narrow_1).before args s = true) (hts : ∀ w ∈ lw_tbl, w.before args s = true) (hA : ∀ a : Nat, a < s.heap.size → ¬ A a) : va_Z "java/lang/String" "COMPACT_STRINGS" "Z" (.int 1) A s s.heap ∧ ∃ q, va_Z "jdk/internal/util/Preconditions" "SIOOBE_FORMATTER" "Ljava/util/function/BiFunction;" q A s s.heap ∧ q.category = 1 := by
  have hs := flat_of_before _ hgv
  have h1 : (Cond.isRef (.static "jdk/internal/util/Preconditions" "SIOOBE_FORMATTER" "Ljava/util/function/BiFunction;")).before args s = true := hs _ (by decide +kernel)
  obtain ⟨v, h2, h3⟩ := Cond.isRef_spec h1
  refine ⟨va_Zof (hts _ (by decide +kernel)) (hts _ (by decide +kernel)) (va_eqi (hs _ (by decide +kernel))) hA, v, va_Zof (hts _ (by decide +kernel)) (hts _ (by decide +kernel)) h2 hA, ?_⟩
  cases v <;> first | rfl | (simp [Value.isRef] at h3)
theorem vs_str {args : Array Value} {s : State} {A : Nat → Prop} (hgv : (Jvm.Cond.and given_1 narrow_1).before args s = true) (hts : ∀ w ∈ lw_tbl, w.before args s = true) (hA : ∀ a : Nat, a < s.heap.size → ¬ A a) : ∃ ak av : Nat → Nat, ∀ i, i < 17 → (va_O "java/lang/String" (ak i) A s s.heap ∧ va_OF "java/lang/String" "coder" "B" (.int 0) (ak i) A s s.heap ∧ va_OF "java/lang/String" "value" "[B" (.ref (av i)) (ak i) A s s.heap ∧ va_T .byte (av i) (vr_by i).length (fun j => .int ((vr_by i).getD j 0)) A s s.heap) ∧ vk_R (vr_Str i).1 (vr_Str i).2.1 (vr_Str i).2.2.1 (ak i) s := by
  have hs := flat_of_before _ hgv
  have hex : ∀ i : Nat, i < 17 → Cond.exactly (vs_tm i) "java/lang/String" ∈ vs_fl := by decide +kernel
  have hco : ∀ i : Nat, i < 17 → Cond.eq (.field (vs_tm i) "java/lang/String" "coder" "B") (.int 0) ∈ vs_fl := by decide +kernel
  have har : ∀ i : Nat, i < 17 → Cond.arrayOf (.field (vs_tm i) "java/lang/String" "value" "[B") .byte ∈ vs_fl := by decide +kernel
  have hle : ∀ i : Nat, i < 17 → Cond.eq (.length (.field (vs_tm i) "java/lang/String" "value" "[B")) (.int (Int32.ofNat (vr_by i).length)) ∈ vs_fl := by decide +kernel
  have hel : ∀ i : Nat, i < 17 → ∀ j : Nat, j < (vr_by i).length → Cond.eq (.elem (.field (vs_tm i) "java/lang/String" "value" "[B") (.int (Int32.ofNat j))) (.int ((vr_by i).getD j 0)) ∈ vs_fl := by decide +kernel
  have hsr : ∀ i : Nat, i < 17 → Cond.stringRef (vr_Str i).1 (vr_Str i).2.1 (vr_Str i).2.2.1 ∈ lw_tbl := by decide +kernel
  have hlen : ∀ i : Nat, i < 17 → (vr_by i).length < 2 ^ 31 := by decide +kernel
  have h0 : ∀ i : Nat, ∃ q : Nat × Nat, i < 17 → (va_O "java/lang/String" q.1 A s s.heap ∧ va_OF "java/lang/String" "coder" "B" (.int 0) q.1 A s s.heap ∧ va_OF "java/lang/String" "value" "[B" (.ref q.2) q.1 A s s.heap ∧ va_T .byte q.2 (vr_by i).length (fun j => .int ((vr_by i).getD j 0)) A s s.heap) ∧ vk_R (vr_Str i).1 (vr_Str i).2.1 (vr_Str i).2.2.1 q.1 s := by
    intro i
    by_cases hi : i < 17
    · obtain ⟨a, c, cA, kA, q1, q2, q3, q4, q5, q6, -⟩ := Cond.exactly_spec (args := args) (first := s) (o := none) (s := s) (idx := []) (t := vs_tm i) (cls := "java/lang/String") (hs _ (hex i hi))
      obtain ⟨t, ht, hT⟩ := va_Tof (args := args) (s := s) (f := fun j => .int ((vr_by i).getD j 0)) (A := A) (hlen i hi) (hs _ (har i hi)) (va_eqt (hs _ (hle i hi))) (fun j hj => va_eqt (hs _ (hel i hi j hj))) hA
      exact ⟨(a, t), fun _ => ⟨⟨⟨cA, q3, q5, by rw [q6]; exact q2, hA a (Array.getElem?_eq_some_iff.mp q3).1⟩, vk_OFof q1 (va_eqt (hs _ (hco i hi))) hA, vk_OFof q1 ht hA, hT⟩, vk_R.of (hts _ (hsr i hi)) q1⟩⟩
    · exact ⟨(0, 0), fun h => absurd h hi⟩
  obtain ⟨F, hF⟩ := Classical.axiomOfChoice h0
  exact ⟨fun i => (F i).1, fun i => (F i).2, hF⟩
theorem vs_known {args : Array Value} {s : State} (htT : ∀ w ∈ vr_T, w.before args s = true) : ∃ D : vbx_D, va_K D.1 vwCl [(D.2.1, .int), (D.2.2, .boolean)] s := by
  obtain ⟨c0, i0, h0⟩ := u_known htT wx_X0 (htT _ wn_X0)
  obtain ⟨c1, i1, h1⟩ := u_known htT wx_X1 (htT _ wn_X1)
  obtain ⟨c2, i2, h2⟩ := u_known htT wx_X2 (htT _ wn_X2)
  obtain ⟨c3, i3, h3⟩ := u_known htT wx_X3 (htT _ wn_X3)
  obtain ⟨c4, i4, h4⟩ := u_known htT wx_X4 (htT _ wn_X4)
  obtain ⟨c5, i5, h5⟩ := u_known htT wx_X5 (htT _ wn_X5)
  obtain ⟨c6, i6, h6⟩ := u_known htT wx_X6 (htT _ wn_X6)
  obtain ⟨c7, i7, h7⟩ := u_known htT wx_X7 (htT _ wn_X7)
  obtain ⟨c8, i8, h8⟩ := u_known htT wx_X8 (htT _ wn_X8)
  obtain ⟨c9, i9, h9⟩ := u_known htT wx_X9 (htT _ wn_X9)
  obtain ⟨c10, i10, h10⟩ := u_known htT wx_X10 (htT _ wn_X10)
  obtain ⟨cI, kI, mI, a1, a2, a3⟩ := Cond.arrayClass_spec (htT _ wa_int)
  obtain ⟨cZ, kZ, mZ, b1, b2, b3⟩ := Cond.arrayClass_spec (htT _ wa_boolean)
  refine ⟨((fun k => [c0, c1, c2, c3, c4, c5, c6, c7, c8, c9, c10].getD k c0, fun k => [i0, i1, i2, i3, i4, i5, i6, i7, i8, i9, i10].getD k i0), (cI, cZ)), ?_, ?_⟩
  · intro k q hq
    match k, hq with
    | 0, hq => cases hq; exact h0
    | 1, hq => cases hq; exact h1
    | 2, hq => cases hq; exact h2
    | 3, hq => cases hq; exact h3
    | 4, hq => cases hq; exact h4
    | 5, hq => cases hq; exact h5
    | 6, hq => cases hq; exact h6
    | 7, hq => cases hq; exact h7
    | 8, hq => cases hq; exact h8
    | 9, hq => cases hq; exact h9
    | 10, hq => cases hq; exact h10
    | k + 11, hq => simp [vwCl] at hq
  · intro k q hq
    match k, hq with
    | 0, hq => cases hq; exact ⟨fun n z => ⟨fun k h => (by cases h), kI, a2, mI, a3⟩, a1⟩
    | 1, hq => cases hq; exact ⟨fun n z => ⟨fun k h => (by cases h), kZ, b2, mZ, b3⟩, b1⟩
    | k + 2, hq => simp at hq
