theorem dX10_age_0 : decode cX10_age 0 = .ok (.iload_n 1, 1) := by decide +kernel
theorem dX10_age_1 : decode cX10_age 1 = .ok (.iconst (-1), 1) := by decide +kernel
theorem dX10_age_2 : decode cX10_age 2 = .ok (.if_icmp .ne 13, 3) := by decide +kernel
theorem dX10_age_5 : decode cX10_age 5 = .ok (.aload_n 0, 1) := by decide +kernel
theorem dX10_age_6 : decode cX10_age 6 = .ok (.getfield 9, 3) := by decide +kernel
theorem dX10_age_9 : decode cX10_age 9 = .ok (.bipush 6, 2) := by decide +kernel
theorem dX10_age_11 : decode cX10_age 11 = .ok (.iconst 0, 1) := by decide +kernel
theorem dX10_age_12 : decode cX10_age 12 = .ok (.iastore, 1) := by decide +kernel
theorem dX10_age_13 : decode cX10_age 13 = .ok (.iconst 0, 1) := by decide +kernel
theorem dX10_age_14 : decode cX10_age 14 = .ok (.ireturn, 1) := by decide +kernel
theorem dX10_age_15 : decode cX10_age 15 = .ok (.iload_n 1, 1) := by decide +kernel
theorem dX10_age_16 : decode cX10_age 16 = .ok (.iconst 0, 1) := by decide +kernel
theorem dX10_age_17 : decode cX10_age 17 = .ok (.bipush 99, 2) := by decide +kernel
theorem dX10_age_19 : decode cX10_age 19 = .ok (.invokestatic 44, 3) := by decide +kernel
theorem dX10_age_22 : decode cX10_age 22 = .ok (.ifCond .ne 6, 3) := by decide +kernel
theorem dX10_age_25 : decode cX10_age 25 = .ok (.bipush (-2), 2) := by decide +kernel
theorem dX10_age_27 : decode cX10_age 27 = .ok (.ireturn, 1) := by decide +kernel
theorem dX10_age_28 : decode cX10_age 28 = .ok (.aload_n 0, 1) := by decide +kernel
theorem dX10_age_29 : decode cX10_age 29 = .ok (.getfield 9, 3) := by decide +kernel
theorem dX10_age_32 : decode cX10_age 32 = .ok (.bipush 6, 2) := by decide +kernel
theorem dX10_age_34 : decode cX10_age 34 = .ok (.iaload, 1) := by decide +kernel
theorem dX10_age_35 : decode cX10_age 35 = .ok (.bipush 10, 2) := by decide +kernel
theorem dX10_age_37 : decode cX10_age 37 = .ok (.if_icmp .ne 6, 3) := by decide +kernel
theorem dX10_age_40 : decode cX10_age 40 = .ok (.bipush (-4), 2) := by decide +kernel
theorem dX10_age_42 : decode cX10_age 42 = .ok (.ireturn, 1) := by decide +kernel
theorem dX10_age_43 : decode cX10_age 43 = .ok (.aload_n 0, 1) := by decide +kernel
theorem dX10_age_44 : decode cX10_age 44 = .ok (.getfield 9, 3) := by decide +kernel
theorem dX10_age_47 : decode cX10_age 47 = .ok (.sipush 198, 3) := by decide +kernel
theorem dX10_age_50 : decode cX10_age 50 = .ok (.aload_n 0, 1) := by decide +kernel
theorem dX10_age_51 : decode cX10_age 51 = .ok (.getfield 9, 3) := by decide +kernel
theorem dX10_age_54 : decode cX10_age 54 = .ok (.bipush 6, 2) := by decide +kernel
theorem dX10_age_56 : decode cX10_age 56 = .ok (.iaload, 1) := by decide +kernel
theorem dX10_age_57 : decode cX10_age 57 = .ok (.iadd, 1) := by decide +kernel
theorem dX10_age_58 : decode cX10_age 58 = .ok (.iload_n 1, 1) := by decide +kernel
theorem dX10_age_59 : decode cX10_age 59 = .ok (.iastore, 1) := by decide +kernel
theorem dX10_age_60 : decode cX10_age 60 = .ok (.aload_n 0, 1) := by decide +kernel
theorem dX10_age_61 : decode cX10_age 61 = .ok (.getfield 9, 3) := by decide +kernel
theorem dX10_age_64 : decode cX10_age 64 = .ok (.bipush 6, 2) := by decide +kernel
theorem dX10_age_66 : decode cX10_age 66 = .ok (.dup2, 1) := by decide +kernel
theorem dX10_age_67 : decode cX10_age 67 = .ok (.iaload, 1) := by decide +kernel
theorem dX10_age_68 : decode cX10_age 68 = .ok (.iconst 1, 1) := by decide +kernel
theorem dX10_age_69 : decode cX10_age 69 = .ok (.iadd, 1) := by decide +kernel
theorem dX10_age_70 : decode cX10_age 70 = .ok (.iastore, 1) := by decide +kernel
theorem dX10_age_71 : decode cX10_age 71 = .ok (.aload_n 0, 1) := by decide +kernel
theorem dX10_age_72 : decode cX10_age 72 = .ok (.getfield 9, 3) := by decide +kernel
theorem dX10_age_75 : decode cX10_age 75 = .ok (.bipush 6, 2) := by decide +kernel
theorem dX10_age_77 : decode cX10_age 77 = .ok (.iaload, 1) := by decide +kernel
theorem dX10_age_78 : decode cX10_age 78 = .ok (.ireturn, 1) := by decide +kernel
def fX10_age (a0 : Int) (μ : vr_M) : Option (Int × vr_M) :=
  if ¬ a0 = (-1) then (fX10_in a0 0 99 μ).bind (fun r1 => if ¬ r1.1 = 0 then vr_gd (vr_R (r1.2 69 6)) (if ¬ (r1.2 69 6) = 10 then vr_gd (0 ≤ (198 + (r1.2 69 6)) ∧ (198 + (r1.2 69 6)) < 933) (vr_let (vr_u r1.2 69 (198 + (r1.2 69 6)).toNat a0) (fun μ4 => vr_let (vr_u μ4 69 6 ((μ4 69 6) + 1)) (fun μ5 => vr_gd (vr_R (μ5 69 6)) (some (μ5 69 6, μ5))))) else some ((-4), r1.2)) else some ((-2), r1.2)) else some (0, vr_u μ 69 6 0)
set_option maxRecDepth 100000 in
set_option maxHeartbeats 4000000 in
theorem ct_X10_age (l : Launch) (G : vr_G) (a0 : Int) (h_a0 : vr_R a0) (μ : vr_M) : vr_CI l yX10_age cX10_age 2 (some .int) ({ frames := 1, cells := 0, slots := 0, locals := 22 } : Room) G [.ref (vr_ad G 68), .int (vr_I a0)] μ (fX10_age a0 μ) := by
  refine vr_start (own := RX10) (by decide) rfl (Nat.le_of_ble_eq_true rfl) (fun p e s m args below meth c C0 => ?_)
  show vr_J p l e _ s m args below meth c 2 0 0 G (vr_Z (vr_QI G) G args s below) 0 [(0, .ref (vr_ad G 68)), (1, .int (vr_I a0))] [] μ _
  unfold fX10_age
  refine jr_iload_n C0 1 dX10_age_0 rfl rfl ?_
  refine jr_iconst C0 dX10_age_1 ?_
  refine jr_icmp_ne C0 h_a0 (⟨by decide, by decide⟩) dX10_age_2 (tgt := 15) (by decide) ?_ ?_
  · refine jr_iload_n C0 1 dX10_age_15 rfl rfl ?_
    refine jr_iconst C0 dX10_age_16 ?_
    refine jr_bipush C0 dX10_age_17 rfl ?_
    refine jr_sI C0 (ct_X10_in l G a0 h_a0 0 (⟨by decide, by decide⟩) 99 (⟨by decide, by decide⟩) _) mi_X10_in wm_X10_44 ⟨Nat.le_of_ble_eq_true rfl, Nat.le_of_ble_eq_true rfl⟩ ⟨rfl, rfl⟩ (As := [.int (vr_I a0), .int (vr_I 0), .int (vr_I 99)]) rfl (st := []) rfl (Nat.le_of_ble_eq_true rfl) dX10_age_19 (fun r1 hr1 => ?_)
    refine jr_if_ne C0 hr1 dX10_age_22 (tgt := 28) (by decide) ?_ ?_
    · refine jr_aload_n C0 0 dX10_age_28 rfl rfl ?_
      refine jr_getr C0 (by decide) kd_68 (by decide) rfl wx_X10 (i := 1) (by decide) wf_X10_9 (j := 69) rfl dX10_age_29 ?_
      refine jr_bipush C0 dX10_age_32 rfl ?_
      refine jr_iald C0 (by decide) kd_69 kl_69 (by decide) (j := 6) rfl dX10_age_34 ?_
      refine jr_bipush C0 dX10_age_35 rfl ?_
      refine jr_gd (fun g2 => ?_)
      refine jr_icmp_ne C0 g2 (⟨by decide, by decide⟩) dX10_age_37 (tgt := 43) (by decide) ?_ ?_
      · refine jr_aload_n C0 0 dX10_age_43 rfl rfl ?_
        refine jr_getr C0 (by decide) kd_68 (by decide) rfl wx_X10 (i := 1) (by decide) wf_X10_9 (j := 69) rfl dX10_age_44 ?_
        refine jr_sipush C0 dX10_age_47 rfl ?_
        refine jr_aload_n C0 0 dX10_age_50 rfl rfl ?_
        refine jr_getr C0 (by decide) kd_68 (by decide) rfl wx_X10 (i := 1) (by decide) wf_X10_9 (j := 69) rfl dX10_age_51 ?_
        refine jr_bipush C0 dX10_age_54 rfl ?_
        refine jr_iald C0 (by decide) kd_69 kl_69 (by decide) (j := 6) rfl dX10_age_56 ?_
        refine jr_iadd C0 dX10_age_57 ?_
        refine jr_iload_n C0 1 dX10_age_58 rfl rfl ?_
        refine jr_gd (fun g3 => ?_)
        refine jr_iast C0 (by decide) kd_69 kl_69 g3 (j := (198 + (r1.2 69 6)).toNat) rfl dX10_age_59 ?_
        refine jr_aload_n C0 0 dX10_age_60 rfl rfl ?_
        refine jr_getr C0 (by decide) kd_68 (by decide) rfl wx_X10 (i := 1) (by decide) wf_X10_9 (j := 69) rfl dX10_age_61 ?_
        refine jr_bipush C0 dX10_age_64 rfl ?_
        refine jr_dup2 C0 rfl rfl dX10_age_66 ?_
        refine jr_let (fun μ4 => ?_)
        refine jr_iald C0 (by decide) kd_69 kl_69 (by decide) (j := 6) rfl dX10_age_67 ?_
        refine jr_iconst C0 dX10_age_68 ?_
        refine jr_iadd C0 dX10_age_69 ?_
        refine jr_iast C0 (by decide) kd_69 kl_69 (by decide) (j := 6) rfl dX10_age_70 ?_
        refine jr_aload_n C0 0 dX10_age_71 rfl rfl ?_
        refine jr_getr C0 (by decide) kd_68 (by decide) rfl wx_X10 (i := 1) (by decide) wf_X10_9 (j := 69) rfl dX10_age_72 ?_
        refine jr_bipush C0 dX10_age_75 rfl ?_
        refine jr_let (fun μ5 => ?_)
        refine jr_iald C0 (by decide) kd_69 kl_69 (by decide) (j := 6) rfl dX10_age_77 ?_
        refine jr_gd (fun g6 => ?_)
        exact jr_iret C0 g6 dX10_age_78
      refine jr_bipush C0 dX10_age_40 rfl ?_
      exact jr_iret C0 (⟨by decide, by decide⟩) dX10_age_42
    refine jr_bipush C0 dX10_age_25 rfl ?_
    exact jr_iret C0 (⟨by decide, by decide⟩) dX10_age_27
  refine jr_aload_n C0 0 dX10_age_5 rfl rfl ?_
  refine jr_getr C0 (by decide) kd_68 (by decide) rfl wx_X10 (i := 1) (by decide) wf_X10_9 (j := 69) rfl dX10_age_6 ?_
  refine jr_bipush C0 dX10_age_9 rfl ?_
  refine jr_iconst C0 dX10_age_11 ?_
  refine jr_iast C0 (by decide) kd_69 kl_69 (by decide) (j := 6) rfl dX10_age_12 ?_
  refine jr_iconst C0 dX10_age_13 ?_
  exact jr_iret C0 (⟨by decide, by decide⟩) dX10_age_14
theorem dX10_round_0 : decode cX10_round 0 = .ok (.iload_n 1, 1) := by decide +kernel
theorem dX10_round_1 : decode cX10_round 1 = .ok (.iconst 0, 1) := by decide +kernel
theorem dX10_round_2 : decode cX10_round 2 = .ok (.bipush 9, 2) := by decide +kernel
theorem dX10_round_4 : decode cX10_round 4 = .ok (.invokestatic 44, 3) := by decide +kernel
theorem dX10_round_7 : decode cX10_round 7 = .ok (.ifCond .ne 6, 3) := by decide +kernel
theorem dX10_round_10 : decode cX10_round 10 = .ok (.bipush (-2), 2) := by decide +kernel
theorem dX10_round_12 : decode cX10_round 12 = .ok (.ireturn, 1) := by decide +kernel
theorem dX10_round_13 : decode cX10_round 13 = .ok (.iconst 1, 1) := by decide +kernel
theorem dX10_round_14 : decode cX10_round 14 = .ok (.istore_n 2, 1) := by decide +kernel
theorem dX10_round_15 : decode cX10_round 15 = .ok (.iload_n 2, 1) := by decide +kernel
theorem dX10_round_16 : decode cX10_round 16 = .ok (.bipush 30, 2) := by decide +kernel
theorem dX10_round_18 : decode cX10_round 18 = .ok (.if_icmp .gt 77, 3) := by decide +kernel
theorem dX10_round_21 : decode cX10_round 21 = .ok (.iconst 1, 1) := by decide +kernel
theorem dX10_round_22 : decode cX10_round 22 = .ok (.istore_n 3, 1) := by decide +kernel
theorem dX10_round_23 : decode cX10_round 23 = .ok (.iconst 0, 1) := by decide +kernel
theorem dX10_round_24 : decode cX10_round 24 = .ok (.istore 4, 2) := by decide +kernel
theorem dX10_round_26 : decode cX10_round 26 = .ok (.iload 4, 2) := by decide +kernel
theorem dX10_round_28 : decode cX10_round 28 = .ok (.aload_n 0, 1) := by decide +kernel
theorem dX10_round_29 : decode cX10_round 29 = .ok (.getfield 9, 3) := by decide +kernel
theorem dX10_round_32 : decode cX10_round 32 = .ok (.bipush 6, 2) := by decide +kernel
theorem dX10_round_34 : decode cX10_round 34 = .ok (.iaload, 1) := by decide +kernel
theorem dX10_round_35 : decode cX10_round 35 = .ok (.if_icmp .ge 48, 3) := by decide +kernel
theorem dX10_round_38 : decode cX10_round 38 = .ok (.aload_n 0, 1) := by decide +kernel
theorem dX10_round_39 : decode cX10_round 39 = .ok (.getfield 9, 3) := by decide +kernel
theorem dX10_round_42 : decode cX10_round 42 = .ok (.sipush 198, 3) := by decide +kernel
theorem dX10_round_45 : decode cX10_round 45 = .ok (.iload 4, 2) := by decide +kernel
theorem dX10_round_47 : decode cX10_round 47 = .ok (.iadd, 1) := by decide +kernel
theorem dX10_round_48 : decode cX10_round 48 = .ok (.iaload, 1) := by decide +kernel
theorem dX10_round_49 : decode cX10_round 49 = .ok (.iload_n 2, 1) := by decide +kernel
theorem dX10_round_50 : decode cX10_round 50 = .ok (.irem, 1) := by decide +kernel
theorem dX10_round_51 : decode cX10_round 51 = .ok (.istore 5, 2) := by decide +kernel
theorem dX10_round_53 : decode cX10_round 53 = .ok (.iload_n 3, 1) := by decide +kernel
theorem dX10_round_54 : decode cX10_round 54 = .ok (.ifCond .eq 21, 3) := by decide +kernel
theorem dX10_round_57 : decode cX10_round 57 = .ok (.iload 5, 2) := by decide +kernel
theorem dX10_round_59 : decode cX10_round 59 = .ok (.iload_n 1, 1) := by decide +kernel
theorem dX10_round_60 : decode cX10_round 60 = .ok (.if_icmp .le 11, 3) := by decide +kernel
theorem dX10_round_63 : decode cX10_round 63 = .ok (.iload_n 2, 1) := by decide +kernel
theorem dX10_round_64 : decode cX10_round 64 = .ok (.iload 5, 2) := by decide +kernel
theorem dX10_round_66 : decode cX10_round 66 = .ok (.isub, 1) := by decide +kernel
theorem dX10_round_67 : decode cX10_round 67 = .ok (.iload_n 1, 1) := by decide +kernel
theorem dX10_round_68 : decode cX10_round 68 = .ok (.if_icmp .gt 7, 3) := by decide +kernel
theorem dX10_round_71 : decode cX10_round 71 = .ok (.iconst 1, 1) := by decide +kernel
theorem dX10_round_72 : decode cX10_round 72 = .ok (.goto 4, 3) := by decide +kernel
theorem dX10_round_75 : decode cX10_round 75 = .ok (.iconst 0, 1) := by decide +kernel
theorem dX10_round_76 : decode cX10_round 76 = .ok (.istore_n 3, 1) := by decide +kernel
theorem dX10_round_77 : decode cX10_round 77 = .ok (.iinc 4 1, 3) := by decide +kernel
theorem dX10_round_80 : decode cX10_round 80 = .ok (.goto (-54), 3) := by decide +kernel
theorem dX10_round_83 : decode cX10_round 83 = .ok (.iload_n 3, 1) := by decide +kernel
theorem dX10_round_84 : decode cX10_round 84 = .ok (.ifCond .eq 5, 3) := by decide +kernel
theorem dX10_round_87 : decode cX10_round 87 = .ok (.iload_n 2, 1) := by decide +kernel
theorem dX10_round_88 : decode cX10_round 88 = .ok (.ireturn, 1) := by decide +kernel
theorem dX10_round_89 : decode cX10_round 89 = .ok (.iinc 2 1, 3) := by decide +kernel
theorem dX10_round_92 : decode cX10_round 92 = .ok (.goto (-77), 3) := by decide +kernel
theorem dX10_round_95 : decode cX10_round 95 = .ok (.bipush (-5), 2) := by decide +kernel
theorem dX10_round_97 : decode cX10_round 97 = .ok (.ireturn, 1) := by decide +kernel
def fX10_round_B76 (rc15 : Int → Int → vr_M → Option (Int × vr_M)) (rc26 : Int → Int → Int → Int → vr_M → Option (Int × vr_M)) (x1 : Int) (x2 : Int) (x4 : Int) (y0 : Int) (μ : vr_M) : Option (Int × vr_M) :=
  vr_gd (vr_R (x4 + 1)) (rc26 x1 x2 y0 (x4 + 1) μ)
def fX10_round_B71 (rc15 : Int → Int → vr_M → Option (Int × vr_M)) (rc26 : Int → Int → Int → Int → vr_M → Option (Int × vr_M)) (x1 : Int) (x2 : Int) (x4 : Int) (μ : vr_M) : Option (Int × vr_M) :=
  fX10_round_B76 rc15 rc26 x1 x2 x4 1 μ
def fX10_round_B75 (rc15 : Int → Int → vr_M → Option (Int × vr_M)) (rc26 : Int → Int → Int → Int → vr_M → Option (Int × vr_M)) (x1 : Int) (x2 : Int) (x4 : Int) (μ : vr_M) : Option (Int × vr_M) :=
  fX10_round_B76 rc15 rc26 x1 x2 x4 0 μ
def fX10_round_L26 (rc15 : Int → Int → vr_M → Option (Int × vr_M)) : Nat → Int → Int → Int → Int → vr_M → Option (Int × vr_M)
  | 0, _, _, _, _, _ => none
  | n + 1, x1, x2, x3, x4, μ => vr_gd (vr_R (μ 69 6)) (if (μ 69 6) ≤ x4 then if x3 = 0 then vr_gd (vr_R (x2 + 1)) (rc15 x1 (x2 + 1) μ) else some (x2, μ) else vr_gd (0 ≤ (198 + x4) ∧ (198 + x4) < 933) (vr_gd (vr_R (μ 69 (198 + x4).toNat)) (vr_gd (¬ x2 = 0) (if x3 = 0 then fX10_round_B75 rc15 (fX10_round_L26 rc15 n) x1 x2 x4 μ else vr_gd (vr_R ((μ 69 (198 + x4).toNat).tmod x2)) (if ((μ 69 (198 + x4).toNat).tmod x2) ≤ x1 then fX10_round_B71 rc15 (fX10_round_L26 rc15 n) x1 x2 x4 μ else vr_gd (vr_R (x2 - ((μ 69 (198 + x4).toNat).tmod x2))) (if x1 < (x2 - ((μ 69 (198 + x4).toNat).tmod x2)) then fX10_round_B75 rc15 (fX10_round_L26 rc15 n) x1 x2 x4 μ else fX10_round_B71 rc15 (fX10_round_L26 rc15 n) x1 x2 x4 μ))))))
def fX10_round_L15 : Nat → Int → Int → vr_M → Option (Int × vr_M)
  | 0, _, _, _ => none
  | n + 1, x1, x2, μ => if 30 < x2 then some ((-5), μ) else fX10_round_L26 (fX10_round_L15 n) 9000 x1 x2 1 0 μ
def fX10_round (a0 : Int) (μ : vr_M) : Option (Int × vr_M) :=
  (fX10_in a0 0 9 μ).bind (fun r9 => if ¬ r9.1 = 0 then fX10_round_L15 9000 a0 1 r9.2 else some ((-2), r9.2))
set_option maxRecDepth 100000 in
set_option maxHeartbeats 4000000 in
theorem ct_X10_round (l : Launch) (G : vr_G) (a0 : Int) (h_a0 : vr_R a0) (μ : vr_M) : vr_CI l yX10_round cX10_round 6 (some .int) ({ frames := 1, cells := 0, slots := 0, locals := 22 } : Room) G [.ref (vr_ad G 68), .int (vr_I a0)] μ (fX10_round a0 μ) := by
  refine vr_start (own := RX10) (by decide) rfl (Nat.le_of_ble_eq_true rfl) (fun p e s m args below meth c C0 => ?_)
  show vr_J p l e _ s m args below meth c 6 0 0 G (vr_Z (vr_QI G) G args s below) 0 [(0, .ref (vr_ad G 68)), (1, .int (vr_I a0))] [] μ _
  have L15 : ∀ (n : Nat) (x1 : Int) (h_x1 : vr_R x1) (x2 : Int) (h_x2 : vr_R x2) (μ : vr_M), vr_J p l e ({ frames := 1, cells := 0, slots := 0, locals := 22 } : Room) s m args below meth c 6 0 0 G (vr_Z (vr_QI G) G args s below) 15 [(0, .ref (vr_ad G 68)), (1, .int (vr_I x1)), (2, .int (vr_I x2))] [] μ (fX10_round_L15 n x1 x2 μ) := by
    intro n15
    induction n15 with
    | zero => intros; exact jr_none
    | succ n15 ih15 =>
      have L26 : ∀ (n : Nat) (x1 : Int) (h_x1 : vr_R x1) (x2 : Int) (h_x2 : vr_R x2) (x3 : Int) (h_x3 : vr_R x3) (x4 : Int) (h_x4 : vr_R x4) (μ : vr_M), vr_J p l e ({ frames := 1, cells := 0, slots := 0, locals := 22 } : Room) s m args below meth c 6 0 0 G (vr_Z (vr_QI G) G args s below) 26 [(0, .ref (vr_ad G 68)), (1, .int (vr_I x1)), (2, .int (vr_I x2)), (3, .int (vr_I x3)), (4, .int (vr_I x4))] [] μ (fX10_round_L26 (fX10_round_L15 n15) n x1 x2 x3 x4 μ) := by
        intro n26
        induction n26 with
        | zero => intros; exact jr_none
        | succ n26 ih26 =>
          have B76 : ∀ (x1 : Int) (h_x1 : vr_R x1) (x2 : Int) (h_x2 : vr_R x2) (x4 : Int) (h_x4 : vr_R x4) (y0 : Int) (h_y0 : vr_R y0) (μ : vr_M), vr_J p l e ({ frames := 1, cells := 0, slots := 0, locals := 22 } : Room) s m args below meth c 6 0 0 G (vr_Z (vr_QI G) G args s below) 76 [(0, .ref (vr_ad G 68)), (1, .int (vr_I x1)), (2, .int (vr_I x2)), (4, .int (vr_I x4))] [.int (vr_I y0)] μ (fX10_round_B76 (fX10_round_L15 n15) (fX10_round_L26 (fX10_round_L15 n15) n26) x1 x2 x4 y0 μ) := by
            intro x1 h_x1 x2 h_x2 x4 h_x4 y0 h_y0 μ
            unfold fX10_round_B76
            refine jr_istore_n C0 dX10_round_76 rfl (by decide) (lv' := [(3, .int (vr_I y0)), (0, .ref (vr_ad G 68)), (1, .int (vr_I x1)), (2, .int (vr_I x2)), (4, .int (vr_I x4))]) rfl ?_
            refine jr_iinc C0 (q := 4) dX10_round_77 rfl (by decide) (lv' := [(4, .int (vr_I (x4 + 1))), (3, .int (vr_I y0)), (0, .ref (vr_ad G 68)), (1, .int (vr_I x1)), (2, .int (vr_I x2))]) rfl ?_
            refine jr_goto C0 dX10_round_80 (tgt := 26) (by decide) ?_
            refine jr_gd (fun g1 => ?_)
            refine jr_sub [2, 3, 4, 1, 0] rfl ?_
            exact ih26 x1 h_x1 x2 h_x2 y0 h_y0 (x4 + 1) g1 _
          have B71 : ∀ (x1 : Int) (h_x1 : vr_R x1) (x2 : Int) (h_x2 : vr_R x2) (x4 : Int) (h_x4 : vr_R x4) (μ : vr_M), vr_J p l e ({ frames := 1, cells := 0, slots := 0, locals := 22 } : Room) s m args below meth c 6 0 0 G (vr_Z (vr_QI G) G args s below) 71 [(0, .ref (vr_ad G 68)), (1, .int (vr_I x1)), (2, .int (vr_I x2)), (4, .int (vr_I x4))] [] μ (fX10_round_B71 (fX10_round_L15 n15) (fX10_round_L26 (fX10_round_L15 n15) n26) x1 x2 x4 μ) := by
            intro x1 h_x1 x2 h_x2 x4 h_x4 μ
            unfold fX10_round_B71
            refine jr_iconst C0 dX10_round_71 ?_
            refine jr_goto C0 dX10_round_72 (tgt := 76) (by decide) ?_
            exact B76 x1 h_x1 x2 h_x2 x4 h_x4 1 (⟨by decide, by decide⟩) _
          have B75 : ∀ (x1 : Int) (h_x1 : vr_R x1) (x2 : Int) (h_x2 : vr_R x2) (x4 : Int) (h_x4 : vr_R x4) (μ : vr_M), vr_J p l e ({ frames := 1, cells := 0, slots := 0, locals := 22 } : Room) s m args below meth c 6 0 0 G (vr_Z (vr_QI G) G args s below) 75 [(0, .ref (vr_ad G 68)), (1, .int (vr_I x1)), (2, .int (vr_I x2)), (4, .int (vr_I x4))] [] μ (fX10_round_B75 (fX10_round_L15 n15) (fX10_round_L26 (fX10_round_L15 n15) n26) x1 x2 x4 μ) := by
            intro x1 h_x1 x2 h_x2 x4 h_x4 μ
            unfold fX10_round_B75
            refine jr_iconst C0 dX10_round_75 ?_
            exact B76 x1 h_x1 x2 h_x2 x4 h_x4 0 (⟨by decide, by decide⟩) _
          intro x1 h_x1 x2 h_x2 x3 h_x3 x4 h_x4 μ
          rw [fX10_round_L26.eq_2]
          refine jr_iload C0 4 dX10_round_26 rfl ?_
          refine jr_aload_n C0 0 dX10_round_28 rfl rfl ?_
          refine jr_getr C0 (by decide) kd_68 (by decide) rfl wx_X10 (i := 1) (by decide) wf_X10_9 (j := 69) rfl dX10_round_29 ?_
          refine jr_bipush C0 dX10_round_32 rfl ?_
          refine jr_iald C0 (by decide) kd_69 kl_69 (by decide) (j := 6) rfl dX10_round_34 ?_
          refine jr_gd (fun g2 => ?_)
          refine jr_icmp_ge C0 h_x4 g2 dX10_round_35 (tgt := 83) (by decide) ?_ ?_
          · refine jr_iload_n C0 3 dX10_round_83 rfl rfl ?_
            refine jr_if_eq C0 h_x3 dX10_round_84 (tgt := 89) (by decide) ?_ ?_
            · refine jr_iinc C0 (q := 2) dX10_round_89 rfl (by decide) (lv' := [(2, .int (vr_I (x2 + 1))), (0, .ref (vr_ad G 68)), (1, .int (vr_I x1)), (3, .int (vr_I x3)), (4, .int (vr_I x4))]) rfl ?_
              refine jr_goto C0 dX10_round_92 (tgt := 15) (by decide) ?_
              refine jr_gd (fun g3 => ?_)
              refine jr_sub [1, 2, 0] rfl ?_
              exact ih15 x1 h_x1 (x2 + 1) g3 _
            refine jr_iload_n C0 2 dX10_round_87 rfl rfl ?_
            exact jr_iret C0 h_x2 dX10_round_88
          refine jr_aload_n C0 0 dX10_round_38 rfl rfl ?_
          refine jr_getr C0 (by decide) kd_68 (by decide) rfl wx_X10 (i := 1) (by decide) wf_X10_9 (j := 69) rfl dX10_round_39 ?_
          refine jr_sipush C0 dX10_round_42 rfl ?_
          refine jr_iload C0 4 dX10_round_45 rfl ?_
          refine jr_iadd C0 dX10_round_47 ?_
          refine jr_gd (fun g4 => ?_)
          refine jr_iald C0 (by decide) kd_69 kl_69 g4 (j := (198 + x4).toNat) rfl dX10_round_48 ?_
          refine jr_iload_n C0 2 dX10_round_49 rfl rfl ?_
          refine jr_gd (fun g5 => ?_)
          refine jr_gd (fun g6 => ?_)
          refine jr_irem C0 g5 h_x2 g6 dX10_round_50 ?_
          refine jr_istore C0 dX10_round_51 (by decide) (lv' := [(5, .int (vr_I ((μ 69 (198 + x4).toNat).tmod x2))), (0, .ref (vr_ad G 68)), (1, .int (vr_I x1)), (2, .int (vr_I x2)), (3, .int (vr_I x3)), (4, .int (vr_I x4))]) rfl ?_
          refine jr_iload_n C0 4 dX10_round_53 rfl rfl ?_
          refine jr_if_eq C0 h_x3 dX10_round_54 (tgt := 75) (by decide) ?_ ?_
          · refine jr_sub [1, 2, 3, 5] rfl ?_
            exact B75 x1 h_x1 x2 h_x2 x4 h_x4 _
          refine jr_iload C0 0 dX10_round_57 rfl ?_
          refine jr_iload_n C0 2 dX10_round_59 rfl rfl ?_
          refine jr_gd (fun g7 => ?_)
          refine jr_icmp_le C0 g7 h_x1 dX10_round_60 (tgt := 71) (by decide) ?_ ?_
          · refine jr_sub [1, 2, 3, 5] rfl ?_
            exact B71 x1 h_x1 x2 h_x2 x4 h_x4 _
          refine jr_iload_n C0 3 dX10_round_63 rfl rfl ?_
          refine jr_iload C0 0 dX10_round_64 rfl ?_
          refine jr_isub C0 dX10_round_66 ?_
          refine jr_iload_n C0 2 dX10_round_67 rfl rfl ?_
          refine jr_gd (fun g8 => ?_)
          refine jr_icmp_gt C0 g8 h_x1 dX10_round_68 (tgt := 75) (by decide) ?_ ?_
          · refine jr_sub [1, 2, 3, 5] rfl ?_
            exact B75 x1 h_x1 x2 h_x2 x4 h_x4 _
          refine jr_sub [1, 2, 3, 5] rfl ?_
          exact B71 x1 h_x1 x2 h_x2 x4 h_x4 _
      intro x1 h_x1 x2 h_x2 μ
      rw [fX10_round_L15.eq_2]
      refine jr_iload_n C0 2 dX10_round_15 rfl rfl ?_
      refine jr_bipush C0 dX10_round_16 rfl ?_
      refine jr_icmp_gt C0 h_x2 (⟨by decide, by decide⟩) dX10_round_18 (tgt := 95) (by decide) ?_ ?_
      · refine jr_bipush C0 dX10_round_95 rfl ?_
        exact jr_iret C0 (⟨by decide, by decide⟩) dX10_round_97
      refine jr_iconst C0 dX10_round_21 ?_
      refine jr_istore_n C0 dX10_round_22 rfl (by decide) (lv' := [(3, .int (vr_I 1)), (0, .ref (vr_ad G 68)), (1, .int (vr_I x1)), (2, .int (vr_I x2))]) rfl ?_
      refine jr_iconst C0 dX10_round_23 ?_
      refine jr_istore C0 dX10_round_24 (by decide) (lv' := [(4, .int (vr_I 0)), (3, .int (vr_I 1)), (0, .ref (vr_ad G 68)), (1, .int (vr_I x1)), (2, .int (vr_I x2))]) rfl ?_
      refine jr_sub [2, 3, 4, 1, 0] rfl ?_
      exact L26 9000 x1 h_x1 x2 h_x2 1 (⟨by decide, by decide⟩) 0 (⟨by decide, by decide⟩) _
  unfold fX10_round
  refine jr_iload_n C0 1 dX10_round_0 rfl rfl ?_
  refine jr_iconst C0 dX10_round_1 ?_
  refine jr_bipush C0 dX10_round_2 rfl ?_
  refine jr_sI C0 (ct_X10_in l G a0 h_a0 0 (⟨by decide, by decide⟩) 9 (⟨by decide, by decide⟩) _) mi_X10_in wm_X10_44 ⟨Nat.le_of_ble_eq_true rfl, Nat.le_of_ble_eq_true rfl⟩ ⟨rfl, rfl⟩ (As := [.int (vr_I a0), .int (vr_I 0), .int (vr_I 9)]) rfl (st := []) rfl (Nat.le_of_ble_eq_true rfl) dX10_round_4 (fun r9 hr9 => ?_)
  refine jr_if_ne C0 hr9 dX10_round_7 (tgt := 13) (by decide) ?_ ?_
  · refine jr_iconst C0 dX10_round_13 ?_
    refine jr_istore_n C0 dX10_round_14 rfl (by decide) (lv' := [(2, .int (vr_I 1)), (0, .ref (vr_ad G 68)), (1, .int (vr_I a0))]) rfl ?_
    refine jr_sub [1, 2, 0] rfl ?_
    exact L15 9000 a0 h_a0 1 (⟨by decide, by decide⟩) _
  refine jr_bipush C0 dX10_round_10 rfl ?_
  exact jr_iret C0 (⟨by decide, by decide⟩) dX10_round_12
theorem dX10_runs_0 : decode cX10_runs 0 = .ok (.aload_n 0, 1) := by decide +kernel
theorem dX10_runs_1 : decode cX10_runs 1 = .ok (.getfield 245, 3) := by decide +kernel
theorem dX10_runs_4 : decode cX10_runs 4 = .ok (.bipush 20, 2) := by decide +kernel
theorem dX10_runs_6 : decode cX10_runs 6 = .ok (.if_icmp .ge 13, 3) := by decide +kernel
theorem dX10_runs_9 : decode cX10_runs 9 = .ok (.aload_n 0, 1) := by decide +kernel
theorem dX10_runs_10 : decode cX10_runs 10 = .ok (.getfield 37, 3) := by decide +kernel
theorem dX10_runs_13 : decode cX10_runs 13 = .ok (.aload_n 0, 1) := by decide +kernel
theorem dX10_runs_14 : decode cX10_runs 14 = .ok (.getfield 245, 3) := by decide +kernel
theorem dX10_runs_17 : decode cX10_runs 17 = .ok (.iload_n 1, 1) := by decide +kernel
theorem dX10_runs_18 : decode cX10_runs 18 = .ok (.iastore, 1) := by decide +kernel
theorem dX10_runs_19 : decode cX10_runs 19 = .ok (.aload_n 0, 1) := by decide +kernel
theorem dX10_runs_20 : decode cX10_runs 20 = .ok (.dup, 1) := by decide +kernel
theorem dX10_runs_21 : decode cX10_runs 21 = .ok (.getfield 245, 3) := by decide +kernel
theorem dX10_runs_24 : decode cX10_runs 24 = .ok (.iconst 1, 1) := by decide +kernel
theorem dX10_runs_25 : decode cX10_runs 25 = .ok (.iadd, 1) := by decide +kernel
theorem dX10_runs_26 : decode cX10_runs 26 = .ok (.putfield 245, 3) := by decide +kernel
theorem dX10_runs_29 : decode cX10_runs 29 = .ok (.return_, 1) := by decide +kernel
def fX10_runs_B19 (μ : vr_M) : Option (Int × vr_M) :=
  some (0, vr_u μ 68 22 ((μ 68 22) + 1))
def fX10_runs (a0 : Int) (μ : vr_M) : Option (Int × vr_M) :=
  vr_gd (vr_R (μ 68 22)) (if 20 ≤ (μ 68 22) then fX10_runs_B19 μ else vr_gd (0 ≤ (μ 68 22) ∧ (μ 68 22) < 20) (fX10_runs_B19 (vr_u μ 77 (μ 68 22).toNat a0)))
set_option maxRecDepth 100000 in
set_option maxHeartbeats 4000000 in
theorem ct_X10_runs (l : Launch) (G : vr_G) (a0 : Int) (h_a0 : vr_R a0) (μ : vr_M) : vr_CV l yX10_runs cX10_runs 2 none ({ frames := 0, cells := 0, slots := 0, locals := 0 } : Room) G [.ref (vr_ad G 68), .int (vr_I a0)] μ (fX10_runs a0 μ) := by
  refine vr_start (own := RX10) (by decide) rfl (Nat.le_of_ble_eq_true rfl) (fun p e s m args below meth c C0 => ?_)
  show vr_J p l e _ s m args below meth c 2 0 0 G (vr_Z (vr_QV G) G args s below) 0 [(0, .ref (vr_ad G 68)), (1, .int (vr_I a0))] [] μ _
  have B19 : ∀ (μ : vr_M), vr_J p l e ({ frames := 0, cells := 0, slots := 0, locals := 0 } : Room) s m args below meth c 2 0 0 G (vr_Z (vr_QV G) G args s below) 19 [(0, .ref (vr_ad G 68))] [] μ (fX10_runs_B19 μ) := by
    intro μ
    unfold fX10_runs_B19
    refine jr_aload_n C0 0 dX10_runs_19 rfl rfl ?_
    refine jr_dup C0 rfl dX10_runs_20 ?_
    refine jr_geti C0 (by decide) kd_68 (by decide) rfl wx_X10 (i := 22) (by decide) wf_X10_245 rfl dX10_runs_21 ?_
    refine jr_iconst C0 dX10_runs_24 ?_
    refine jr_iadd C0 dX10_runs_25 ?_
    refine jr_puti C0 (by decide) kd_68 (by decide) rfl wx_X10 (i := 22) (by decide) wf_X10_245 rfl tyX10_ok nmX10 rfl rfl rfl dX10_runs_26 ?_
    exact jr_vret C0 dX10_runs_29
  unfold fX10_runs
  refine jr_aload_n C0 0 dX10_runs_0 rfl rfl ?_
  refine jr_geti C0 (by decide) kd_68 (by decide) rfl wx_X10 (i := 22) (by decide) wf_X10_245 rfl dX10_runs_1 ?_
  refine jr_bipush C0 dX10_runs_4 rfl ?_
  refine jr_gd (fun g1 => ?_)
  refine jr_icmp_ge C0 g1 (⟨by decide, by decide⟩) dX10_runs_6 (tgt := 19) (by decide) ?_ ?_
  · refine jr_sub [0] rfl ?_
    exact B19 _
  refine jr_aload_n C0 0 dX10_runs_9 rfl rfl ?_
  refine jr_getr C0 (by decide) kd_68 (by decide) rfl wx_X10 (i := 21) (by decide) wf_X10_37 (j := 77) rfl dX10_runs_10 ?_
  refine jr_aload_n C0 0 dX10_runs_13 rfl rfl ?_
  refine jr_geti C0 (by decide) kd_68 (by decide) rfl wx_X10 (i := 22) (by decide) wf_X10_245 rfl dX10_runs_14 ?_
  refine jr_iload_n C0 1 dX10_runs_17 rfl rfl ?_
  refine jr_gd (fun g2 => ?_)
  refine jr_iast C0 (by decide) kd_77 kl_77 g2 (j := (μ 68 22).toNat) rfl dX10_runs_18 ?_
  refine jr_sub [0] rfl ?_
  exact B19 _
theorem dX10_isUnder_0 : decode cX10_isUnder 0 = .ok (.iload_n 1, 1) := by decide +kernel
theorem dX10_isUnder_1 : decode cX10_isUnder 1 = .ok (.ifCond .eq 34, 3) := by decide +kernel
theorem dX10_isUnder_4 : decode cX10_isUnder 4 = .ok (.iload_n 1, 1) := by decide +kernel
theorem dX10_isUnder_5 : decode cX10_isUnder 5 = .ok (.iload_n 0, 1) := by decide +kernel
theorem dX10_isUnder_6 : decode cX10_isUnder 6 = .ok (.if_icmp .eq 29, 3) := by decide +kernel
theorem dX10_isUnder_9 : decode cX10_isUnder 9 = .ok (.iload_n 1, 1) := by decide +kernel
theorem dX10_isUnder_10 : decode cX10_isUnder 10 = .ok (.iconst 2, 1) := by decide +kernel
theorem dX10_isUnder_11 : decode cX10_isUnder 11 = .ok (.if_icmp .ne 14, 3) := by decide +kernel
theorem dX10_isUnder_14 : decode cX10_isUnder 14 = .ok (.iload_n 0, 1) := by decide +kernel
theorem dX10_isUnder_15 : decode cX10_isUnder 15 = .ok (.iconst 5, 1) := by decide +kernel
theorem dX10_isUnder_16 : decode cX10_isUnder 16 = .ok (.if_icmp .eq 19, 3) := by decide +kernel
theorem dX10_isUnder_19 : decode cX10_isUnder 19 = .ok (.iload_n 0, 1) := by decide +kernel
theorem dX10_isUnder_20 : decode cX10_isUnder 20 = .ok (.bipush 6, 2) := by decide +kernel
theorem dX10_isUnder_22 : decode cX10_isUnder 22 = .ok (.if_icmp .eq 13, 3) := by decide +kernel
theorem dX10_isUnder_25 : decode cX10_isUnder 25 = .ok (.iload_n 1, 1) := by decide +kernel
theorem dX10_isUnder_26 : decode cX10_isUnder 26 = .ok (.iconst 3, 1) := by decide +kernel
theorem dX10_isUnder_27 : decode cX10_isUnder 27 = .ok (.if_icmp .ne 12, 3) := by decide +kernel
theorem dX10_isUnder_30 : decode cX10_isUnder 30 = .ok (.iload_n 0, 1) := by decide +kernel
theorem dX10_isUnder_31 : decode cX10_isUnder 31 = .ok (.iconst 4, 1) := by decide +kernel
theorem dX10_isUnder_32 : decode cX10_isUnder 32 = .ok (.if_icmp .ne 7, 3) := by decide +kernel
theorem dX10_isUnder_35 : decode cX10_isUnder 35 = .ok (.iconst 1, 1) := by decide +kernel
theorem dX10_isUnder_36 : decode cX10_isUnder 36 = .ok (.goto 4, 3) := by decide +kernel
theorem dX10_isUnder_39 : decode cX10_isUnder 39 = .ok (.iconst 0, 1) := by decide +kernel
theorem dX10_isUnder_40 : decode cX10_isUnder 40 = .ok (.ireturn, 1) := by decide +kernel
def fX10_isUnder_B40 (y0 : Int) (μ : vr_M) : Option (Int × vr_M) :=
  vr_gd (y0 = 0 ∨ y0 = 1) (some (y0, μ))
def fX10_isUnder_B35 (μ : vr_M) : Option (Int × vr_M) :=
  fX10_isUnder_B40 1 μ
def fX10_isUnder_B39 (μ : vr_M) : Option (Int × vr_M) :=
  fX10_isUnder_B40 0 μ
def fX10_isUnder_B25 (x0 : Int) (x1 : Int) (μ : vr_M) : Option (Int × vr_M) :=
  if ¬ x1 = 3 then fX10_isUnder_B39 μ else if ¬ x0 = 4 then fX10_isUnder_B39 μ else fX10_isUnder_B35 μ
def fX10_isUnder (a0 : Int) (a1 : Int) (μ : vr_M) : Option (Int × vr_M) :=
  if a1 = 0 then fX10_isUnder_B35 μ else if a1 = a0 then fX10_isUnder_B35 μ else if ¬ a1 = 2 then fX10_isUnder_B25 a0 a1 μ else if a0 = 5 then fX10_isUnder_B35 μ else if a0 = 6 then fX10_isUnder_B35 μ else fX10_isUnder_B25 a0 a1 μ
set_option maxRecDepth 100000 in
set_option maxHeartbeats 4000000 in
theorem ct_X10_isUnder (l : Launch) (G : vr_G) (a0 : Int) (h_a0 : vr_R a0) (a1 : Int) (h_a1 : vr_R a1) (μ : vr_M) : vr_CI l yX10_isUnder cX10_isUnder 2 (some .boolean) ({ frames := 0, cells := 0, slots := 0, locals := 0 } : Room) G [.int (vr_I a0), .int (vr_I a1)] μ (fX10_isUnder a0 a1 μ) := by
  refine vr_start (own := RX10) (by decide) rfl (Nat.le_of_ble_eq_true rfl) (fun p e s m args below meth c C0 => ?_)
  show vr_J p l e _ s m args below meth c 2 0 0 G (vr_Z (vr_QI G) G args s below) 0 [(0, .int (vr_I a0)), (1, .int (vr_I a1))] [] μ _
  have B40 : ∀ (y0 : Int) (h_y0 : vr_R y0) (μ : vr_M), vr_J p l e ({ frames := 0, cells := 0, slots := 0, locals := 0 } : Room) s m args below meth c 2 0 0 G (vr_Z (vr_QI G) G args s below) 40 [] [.int (vr_I y0)] μ (fX10_isUnder_B40 y0 μ) := by
    intro y0 h_y0 μ
    unfold fX10_isUnder_B40
    refine jr_gd (fun g1 => ?_)
    exact jr_zret C0 h_y0 (vr_nz g1) dX10_isUnder_40
  have B35 : ∀ (μ : vr_M), vr_J p l e ({ frames := 0, cells := 0, slots := 0, locals := 0 } : Room) s m args below meth c 2 0 0 G (vr_Z (vr_QI G) G args s below) 35 [] [] μ (fX10_isUnder_B35 μ) := by
    intro μ
    unfold fX10_isUnder_B35
    refine jr_iconst C0 dX10_isUnder_35 ?_
    refine jr_goto C0 dX10_isUnder_36 (tgt := 40) (by decide) ?_
    exact B40 1 (⟨by decide, by decide⟩) _
  have B39 : ∀ (μ : vr_M), vr_J p l e ({ frames := 0, cells := 0, slots := 0, locals := 0 } : Room) s m args below meth c 2 0 0 G (vr_Z (vr_QI G) G args s below) 39 [] [] μ (fX10_isUnder_B39 μ) := by
    intro μ
    unfold fX10_isUnder_B39
    refine jr_iconst C0 dX10_isUnder_39 ?_
    exact B40 0 (⟨by decide, by decide⟩) _
  have B25 : ∀ (x0 : Int) (h_x0 : vr_R x0) (x1 : Int) (h_x1 : vr_R x1) (μ : vr_M), vr_J p l e ({ frames := 0, cells := 0, slots := 0, locals := 0 } : Room) s m args below meth c 2 0 0 G (vr_Z (vr_QI G) G args s below) 25 [(0, .int (vr_I x0)), (1, .int (vr_I x1))] [] μ (fX10_isUnder_B25 x0 x1 μ) := by
    intro x0 h_x0 x1 h_x1 μ
    unfold fX10_isUnder_B25
    refine jr_iload_n C0 1 dX10_isUnder_25 rfl rfl ?_
    refine jr_iconst C0 dX10_isUnder_26 ?_
    refine jr_icmp_ne C0 h_x1 (⟨by decide, by decide⟩) dX10_isUnder_27 (tgt := 39) (by decide) ?_ ?_
    · refine jr_sub [] rfl ?_
      exact B39 _
    refine jr_iload_n C0 0 dX10_isUnder_30 rfl rfl ?_
    refine jr_iconst C0 dX10_isUnder_31 ?_
    refine jr_icmp_ne C0 h_x0 (⟨by decide, by decide⟩) dX10_isUnder_32 (tgt := 39) (by decide) ?_ ?_
    · refine jr_sub [] rfl ?_
      exact B39 _
    refine jr_sub [] rfl ?_
    exact B35 _
  unfold fX10_isUnder
  refine jr_iload_n C0 1 dX10_isUnder_0 rfl rfl ?_
  refine jr_if_eq C0 h_a1 dX10_isUnder_1 (tgt := 35) (by decide) ?_ ?_
  · refine jr_sub [] rfl ?_
    exact B35 _
  refine jr_iload_n C0 1 dX10_isUnder_4 rfl rfl ?_
  refine jr_iload_n C0 0 dX10_isUnder_5 rfl rfl ?_
  refine jr_icmp_eq C0 h_a1 h_a0 dX10_isUnder_6 (tgt := 35) (by decide) ?_ ?_
  · refine jr_sub [] rfl ?_
    exact B35 _
  refine jr_iload_n C0 1 dX10_isUnder_9 rfl rfl ?_
  refine jr_iconst C0 dX10_isUnder_10 ?_
  refine jr_icmp_ne C0 h_a1 (⟨by decide, by decide⟩) dX10_isUnder_11 (tgt := 25) (by decide) ?_ ?_
  · exact B25 a0 h_a0 a1 h_a1 _
  refine jr_iload_n C0 0 dX10_isUnder_14 rfl rfl ?_
  refine jr_iconst C0 dX10_isUnder_15 ?_
  refine jr_icmp_eq C0 h_a0 (⟨by decide, by decide⟩) dX10_isUnder_16 (tgt := 35) (by decide) ?_ ?_
  · refine jr_sub [] rfl ?_
    exact B35 _
  refine jr_iload_n C0 0 dX10_isUnder_19 rfl rfl ?_
  refine jr_bipush C0 dX10_isUnder_20 rfl ?_
  refine jr_icmp_eq C0 h_a0 (⟨by decide, by decide⟩) dX10_isUnder_22 (tgt := 35) (by decide) ?_ ?_
  · refine jr_sub [] rfl ?_
    exact B35 _
  exact B25 a0 h_a0 a1 h_a1 _
theorem dX10_plainBurns_0 : decode cX10_plainBurns 0 = .ok (.aload_n 0, 1) := by decide +kernel
theorem dX10_plainBurns_1 : decode cX10_plainBurns 1 = .ok (.iconst 1, 1) := by decide +kernel
theorem dX10_plainBurns_2 : decode cX10_plainBurns 2 = .ok (.invokevirtual 248, 3) := by decide +kernel
theorem dX10_plainBurns_5 : decode cX10_plainBurns 5 = .ok (.iload_n 1, 1) := by decide +kernel
theorem dX10_plainBurns_6 : decode cX10_plainBurns 6 = .ok (.aload_n 0, 1) := by decide +kernel
theorem dX10_plainBurns_7 : decode cX10_plainBurns 7 = .ok (.getfield 251, 3) := by decide +kernel
theorem dX10_plainBurns_10 : decode cX10_plainBurns 10 = .ok (.iadd, 1) := by decide +kernel
theorem dX10_plainBurns_11 : decode cX10_plainBurns 11 = .ok (.ireturn, 1) := by decide +kernel
def fX10_plainBurns (a0 : Int) (μ : vr_M) : Option (Int × vr_M) :=
  (fX10_runs 1 μ).bind (fun r1 => vr_gd (vr_R (a0 + (r1.2 68 24))) (some (a0 + (r1.2 68 24), r1.2)))
set_option maxRecDepth 100000 in
set_option maxHeartbeats 4000000 in
theorem ct_X10_plainBurns (l : Launch) (G : vr_G) (a0 : Int) (h_a0 : vr_R a0) (μ : vr_M) : vr_CI l yX10_plainBurns cX10_plainBurns 2 (some .int) ({ frames := 1, cells := 0, slots := 0, locals := 21 } : Room) G [.ref (vr_ad G 68), .int (vr_I a0)] μ (fX10_plainBurns a0 μ) := by
  refine vr_start (own := RX10) (by decide) rfl (Nat.le_of_ble_eq_true rfl) (fun p e s m args below meth c C0 => ?_)
  show vr_J p l e _ s m args below meth c 2 0 0 G (vr_Z (vr_QI G) G args s below) 0 [(0, .ref (vr_ad G 68)), (1, .int (vr_I a0))] [] μ _
  unfold fX10_plainBurns
  refine jr_aload_n C0 0 dX10_plainBurns_0 rfl rfl ?_
  refine jr_iconst C0 dX10_plainBurns_1 ?_
  refine jr_vV0 C0 (by decide) kd_68 (by decide) rfl (ct_X10_runs l G 1 (⟨by decide, by decide⟩) _) mi_X10_runs wm_X10_248 ⟨Nat.le_of_ble_eq_true rfl, Nat.le_of_ble_eq_true rfl⟩ ⟨rfl, rfl⟩ (As := [.int (vr_I 1)]) rfl (st := []) rfl (Nat.le_of_ble_eq_true rfl) dX10_plainBurns_2 (fun r1 => ?_)
  refine jr_iload_n C0 1 dX10_plainBurns_5 rfl rfl ?_
  refine jr_aload_n C0 0 dX10_plainBurns_6 rfl rfl ?_
  refine jr_geti C0 (by decide) kd_68 (by decide) rfl wx_X10 (i := 24) (by decide) wf_X10_251 rfl dX10_plainBurns_7 ?_
  refine jr_iadd C0 dX10_plainBurns_10 ?_
  refine jr_gd (fun g2 => ?_)
  exact jr_iret C0 g2 dX10_plainBurns_11
theorem dX10_burnsActs_0 : decode cX10_burnsActs 0 = .ok (.aload_n 0, 1) := by decide +kernel
theorem dX10_burnsActs_1 : decode cX10_burnsActs 1 = .ok (.getfield 254, 3) := by decide +kernel
theorem dX10_burnsActs_4 : decode cX10_burnsActs 4 = .ok (.iconst 1, 1) := by decide +kernel
theorem dX10_burnsActs_5 : decode cX10_burnsActs 5 = .ok (.if_icmp .ne 17, 3) := by decide +kernel
theorem dX10_burnsActs_8 : decode cX10_burnsActs 8 = .ok (.aload_n 0, 1) := by decide +kernel
theorem dX10_burnsActs_9 : decode cX10_burnsActs 9 = .ok (.bipush 11, 2) := by decide +kernel
theorem dX10_burnsActs_11 : decode cX10_burnsActs 11 = .ok (.invokevirtual 248, 3) := by decide +kernel
theorem dX10_burnsActs_14 : decode cX10_burnsActs 14 = .ok (.aload_n 0, 1) := by decide +kernel
theorem dX10_burnsActs_15 : decode cX10_burnsActs 15 = .ok (.iload_n 1, 1) := by decide +kernel
theorem dX10_burnsActs_16 : decode cX10_burnsActs 16 = .ok (.iconst 3, 1) := by decide +kernel
theorem dX10_burnsActs_17 : decode cX10_burnsActs 17 = .ok (.imul, 1) := by decide +kernel
theorem dX10_burnsActs_18 : decode cX10_burnsActs 18 = .ok (.invokevirtual 257, 3) := by decide +kernel
theorem dX10_burnsActs_21 : decode cX10_burnsActs 21 = .ok (.ireturn, 1) := by decide +kernel
theorem dX10_burnsActs_22 : decode cX10_burnsActs 22 = .ok (.aload_n 0, 1) := by decide +kernel
theorem dX10_burnsActs_23 : decode cX10_burnsActs 23 = .ok (.getfield 254, 3) := by decide +kernel
theorem dX10_burnsActs_26 : decode cX10_burnsActs 26 = .ok (.iconst 5, 1) := by decide +kernel
theorem dX10_burnsActs_27 : decode cX10_burnsActs 27 = .ok (.if_icmp .ne 20, 3) := by decide +kernel
theorem dX10_burnsActs_30 : decode cX10_burnsActs 30 = .ok (.aload_n 0, 1) := by decide +kernel
theorem dX10_burnsActs_31 : decode cX10_burnsActs 31 = .ok (.bipush 51, 2) := by decide +kernel
theorem dX10_burnsActs_33 : decode cX10_burnsActs 33 = .ok (.invokevirtual 248, 3) := by decide +kernel
theorem dX10_burnsActs_36 : decode cX10_burnsActs 36 = .ok (.aload_n 0, 1) := by decide +kernel
theorem dX10_burnsActs_37 : decode cX10_burnsActs 37 = .ok (.iload_n 1, 1) := by decide +kernel
theorem dX10_burnsActs_38 : decode cX10_burnsActs 38 = .ok (.invokevirtual 257, 3) := by decide +kernel
theorem dX10_burnsActs_41 : decode cX10_burnsActs 41 = .ok (.aload_n 0, 1) := by decide +kernel
theorem dX10_burnsActs_42 : decode cX10_burnsActs 42 = .ok (.getfield 251, 3) := by decide +kernel
theorem dX10_burnsActs_45 : decode cX10_burnsActs 45 = .ok (.ixor, 1) := by decide +kernel
theorem dX10_burnsActs_46 : decode cX10_burnsActs 46 = .ok (.ireturn, 1) := by decide +kernel
theorem dX10_burnsActs_47 : decode cX10_burnsActs 47 = .ok (.aload_n 0, 1) := by decide +kernel
theorem dX10_burnsActs_48 : decode cX10_burnsActs 48 = .ok (.iload_n 1, 1) := by decide +kernel
theorem dX10_burnsActs_49 : decode cX10_burnsActs 49 = .ok (.invokevirtual 257, 3) := by decide +kernel
theorem dX10_burnsActs_52 : decode cX10_burnsActs 52 = .ok (.ireturn, 1) := by decide +kernel
def fX10_burnsActs (a0 : Int) (μ : vr_M) : Option (Int × vr_M) :=
  vr_gd (vr_R (μ 68 23)) (if ¬ (μ 68 23) = 1 then if ¬ (μ 68 23) = 5 then (fX10_plainBurns a0 μ).bind (fun r2 => some (r2.1, r2.2)) else (fX10_runs 51 μ).bind (fun r3 => (fX10_plainBurns a0 r3.2).bind (fun r4 => some (vr_xor r4.1 (r4.2 68 24), r4.2))) else (fX10_runs 11 μ).bind (fun r5 => vr_gd (vr_R (a0 * 3)) ((fX10_plainBurns (a0 * 3) r5.2).bind (fun r7 => some (r7.1, r7.2)))))
set_option maxRecDepth 100000 in
set_option maxHeartbeats 4000000 in
theorem ct_X10_burnsActs (l : Launch) (G : vr_G) (a0 : Int) (h_a0 : vr_R a0) (μ : vr_M) : vr_CI l yX10_burnsActs cX10_burnsActs 2 (some .int) ({ frames := 2, cells := 0, slots := 0, locals := 42 } : Room) G [.ref (vr_ad G 68), .int (vr_I a0)] μ (fX10_burnsActs a0 μ) := by
  refine vr_start (own := RX10) (by decide) rfl (Nat.le_of_ble_eq_true rfl) (fun p e s m args below meth c C0 => ?_)
  show vr_J p l e _ s m args below meth c 2 0 0 G (vr_Z (vr_QI G) G args s below) 0 [(0, .ref (vr_ad G 68)), (1, .int (vr_I a0))] [] μ _
  unfold fX10_burnsActs
  refine jr_aload_n C0 0 dX10_burnsActs_0 rfl rfl ?_
  refine jr_geti C0 (by decide) kd_68 (by decide) rfl wx_X10 (i := 23) (by decide) wf_X10_254 rfl dX10_burnsActs_1 ?_
  refine jr_iconst C0 dX10_burnsActs_4 ?_
  refine jr_gd (fun g1 => ?_)
  refine jr_icmp_ne C0 g1 (⟨by decide, by decide⟩) dX10_burnsActs_5 (tgt := 22) (by decide) ?_ ?_
  · refine jr_aload_n C0 0 dX10_burnsActs_22 rfl rfl ?_
    refine jr_geti C0 (by decide) kd_68 (by decide) rfl wx_X10 (i := 23) (by decide) wf_X10_254 rfl dX10_burnsActs_23 ?_
    refine jr_iconst C0 dX10_burnsActs_26 ?_
    refine jr_icmp_ne C0 g1 (⟨by decide, by decide⟩) dX10_burnsActs_27 (tgt := 47) (by decide) ?_ ?_
    · refine jr_aload_n C0 0 dX10_burnsActs_47 rfl rfl ?_
      refine jr_iload_n C0 1 dX10_burnsActs_48 rfl rfl ?_
      refine jr_vI C0 (by decide) kd_68 (by decide) rfl (ct_X10_plainBurns l G a0 h_a0 _) mi_X10_plainBurns wm_X10_257 ⟨Nat.le_of_ble_eq_true rfl, Nat.le_of_ble_eq_true rfl⟩ ⟨rfl, rfl⟩ (As := [.int (vr_I a0)]) rfl (st := []) rfl (Nat.le_of_ble_eq_true rfl) dX10_burnsActs_49 (fun r2 hr2 => ?_)
      exact jr_iret C0 hr2 dX10_burnsActs_52
    refine jr_aload_n C0 0 dX10_burnsActs_30 rfl rfl ?_
    refine jr_bipush C0 dX10_burnsActs_31 rfl ?_
    refine jr_vV0 C0 (by decide) kd_68 (by decide) rfl (ct_X10_runs l G 51 (⟨by decide, by decide⟩) _) mi_X10_runs wm_X10_248 ⟨Nat.le_of_ble_eq_true rfl, Nat.le_of_ble_eq_true rfl⟩ ⟨rfl, rfl⟩ (As := [.int (vr_I 51)]) rfl (st := []) rfl (Nat.le_of_ble_eq_true rfl) dX10_burnsActs_33 (fun r3 => ?_)
    refine jr_aload_n C0 0 dX10_burnsActs_36 rfl rfl ?_
    refine jr_iload_n C0 1 dX10_burnsActs_37 rfl rfl ?_
    refine jr_vI C0 (by decide) kd_68 (by decide) rfl (ct_X10_plainBurns l G a0 h_a0 _) mi_X10_plainBurns wm_X10_257 ⟨Nat.le_of_ble_eq_true rfl, Nat.le_of_ble_eq_true rfl⟩ ⟨rfl, rfl⟩ (As := [.int (vr_I a0)]) rfl (st := []) rfl (Nat.le_of_ble_eq_true rfl) dX10_burnsActs_38 (fun r4 hr4 => ?_)
    refine jr_aload_n C0 0 dX10_burnsActs_41 rfl rfl ?_
    refine jr_geti C0 (by decide) kd_68 (by decide) rfl wx_X10 (i := 24) (by decide) wf_X10_251 rfl dX10_burnsActs_42 ?_
    refine jr_ixor C0 dX10_burnsActs_45 ?_
    exact jr_iret C0 (vr_RT _) dX10_burnsActs_46
  refine jr_aload_n C0 0 dX10_burnsActs_8 rfl rfl ?_
  refine jr_bipush C0 dX10_burnsActs_9 rfl ?_
  refine jr_vV0 C0 (by decide) kd_68 (by decide) rfl (ct_X10_runs l G 11 (⟨by decide, by decide⟩) _) mi_X10_runs wm_X10_248 ⟨Nat.le_of_ble_eq_true rfl, Nat.le_of_ble_eq_true rfl⟩ ⟨rfl, rfl⟩ (As := [.int (vr_I 11)]) rfl (st := []) rfl (Nat.le_of_ble_eq_true rfl) dX10_burnsActs_11 (fun r5 => ?_)
  refine jr_aload_n C0 0 dX10_burnsActs_14 rfl rfl ?_
  refine jr_iload_n C0 1 dX10_burnsActs_15 rfl rfl ?_
  refine jr_iconst C0 dX10_burnsActs_16 ?_
  refine jr_imul C0 dX10_burnsActs_17 ?_
  refine jr_gd (fun g6 => ?_)
  refine jr_vI C0 (by decide) kd_68 (by decide) rfl (ct_X10_plainBurns l G (a0 * 3) g6 _) mi_X10_plainBurns wm_X10_257 ⟨Nat.le_of_ble_eq_true rfl, Nat.le_of_ble_eq_true rfl⟩ ⟨rfl, rfl⟩ (As := [.int (vr_I (a0 * 3))]) rfl (st := []) rfl (Nat.le_of_ble_eq_true rfl) dX10_burnsActs_18 (fun r7 hr7 => ?_)
  exact jr_iret C0 hr7 dX10_burnsActs_21
theorem dX10_plainRests_0 : decode cX10_plainRests 0 = .ok (.aload_n 0, 1) := by decide +kernel
theorem dX10_plainRests_1 : decode cX10_plainRests 1 = .ok (.iconst 2, 1) := by decide +kernel
theorem dX10_plainRests_2 : decode cX10_plainRests 2 = .ok (.invokevirtual 248, 3) := by decide +kernel
theorem dX10_plainRests_5 : decode cX10_plainRests 5 = .ok (.aload_n 0, 1) := by decide +kernel
theorem dX10_plainRests_6 : decode cX10_plainRests 6 = .ok (.iload_n 1, 1) := by decide +kernel
theorem dX10_plainRests_7 : decode cX10_plainRests 7 = .ok (.invokevirtual 260, 3) := by decide +kernel
theorem dX10_plainRests_10 : decode cX10_plainRests 10 = .ok (.aload_n 0, 1) := by decide +kernel
theorem dX10_plainRests_11 : decode cX10_plainRests 11 = .ok (.getfield 263, 3) := by decide +kernel
theorem dX10_plainRests_14 : decode cX10_plainRests 14 = .ok (.isub, 1) := by decide +kernel
theorem dX10_plainRests_15 : decode cX10_plainRests 15 = .ok (.ireturn, 1) := by decide +kernel
def fX10_plainRests (a0 : Int) (μ : vr_M) : Option (Int × vr_M) :=
  (fX10_runs 2 μ).bind (fun r1 => (fX10_burnsActs a0 r1.2).bind (fun r2 => vr_gd (vr_R (r2.1 - (r2.2 68 25))) (some (r2.1 - (r2.2 68 25), r2.2))))
set_option maxRecDepth 100000 in
set_option maxHeartbeats 4000000 in
theorem ct_X10_plainRests (l : Launch) (G : vr_G) (a0 : Int) (h_a0 : vr_R a0) (μ : vr_M) : vr_CI l yX10_plainRests cX10_plainRests 2 (some .int) ({ frames := 3, cells := 0, slots := 0, locals := 63 } : Room) G [.ref (vr_ad G 68), .int (vr_I a0)] μ (fX10_plainRests a0 μ) := by
  refine vr_start (own := RX10) (by decide) rfl (Nat.le_of_ble_eq_true rfl) (fun p e s m args below meth c C0 => ?_)
  show vr_J p l e _ s m args below meth c 2 0 0 G (vr_Z (vr_QI G) G args s below) 0 [(0, .ref (vr_ad G 68)), (1, .int (vr_I a0))] [] μ _
  unfold fX10_plainRests
  refine jr_aload_n C0 0 dX10_plainRests_0 rfl rfl ?_
  refine jr_iconst C0 dX10_plainRests_1 ?_
  refine jr_vV0 C0 (by decide) kd_68 (by decide) rfl (ct_X10_runs l G 2 (⟨by decide, by decide⟩) _) mi_X10_runs wm_X10_248 ⟨Nat.le_of_ble_eq_true rfl, Nat.le_of_ble_eq_true rfl⟩ ⟨rfl, rfl⟩ (As := [.int (vr_I 2)]) rfl (st := []) rfl (Nat.le_of_ble_eq_true rfl) dX10_plainRests_2 (fun r1 => ?_)
  refine jr_aload_n C0 0 dX10_plainRests_5 rfl rfl ?_
  refine jr_iload_n C0 1 dX10_plainRests_6 rfl rfl ?_
  refine jr_vI C0 (by decide) kd_68 (by decide) rfl (ct_X10_burnsActs l G a0 h_a0 _) mi_X10_burnsActs wm_X10_260 ⟨Nat.le_of_ble_eq_true rfl, Nat.le_of_ble_eq_true rfl⟩ ⟨rfl, rfl⟩ (As := [.int (vr_I a0)]) rfl (st := []) rfl (Nat.le_of_ble_eq_true rfl) dX10_plainRests_7 (fun r2 hr2 => ?_)
  refine jr_aload_n C0 0 dX10_plainRests_10 rfl rfl ?_
  refine jr_geti C0 (by decide) kd_68 (by decide) rfl wx_X10 (i := 25) (by decide) wf_X10_263 rfl dX10_plainRests_11 ?_
  refine jr_isub C0 dX10_plainRests_14 ?_
  refine jr_gd (fun g3 => ?_)
  exact jr_iret C0 g3 dX10_plainRests_15
theorem dX10_restRests_0 : decode cX10_restRests 0 = .ok (.aload_n 0, 1) := by decide +kernel
theorem dX10_restRests_1 : decode cX10_restRests 1 = .ok (.bipush 21, 2) := by decide +kernel
theorem dX10_restRests_3 : decode cX10_restRests 3 = .ok (.invokevirtual 248, 3) := by decide +kernel
theorem dX10_restRests_6 : decode cX10_restRests 6 = .ok (.aload_n 0, 1) := by decide +kernel
theorem dX10_restRests_7 : decode cX10_restRests 7 = .ok (.iload_n 1, 1) := by decide +kernel
theorem dX10_restRests_8 : decode cX10_restRests 8 = .ok (.invokevirtual 266, 3) := by decide +kernel
theorem dX10_restRests_11 : decode cX10_restRests 11 = .ok (.ineg, 1) := by decide +kernel
theorem dX10_restRests_12 : decode cX10_restRests 12 = .ok (.ireturn, 1) := by decide +kernel
def fX10_restRests (a0 : Int) (μ : vr_M) : Option (Int × vr_M) :=
  (fX10_runs 21 μ).bind (fun r1 => (fX10_plainRests a0 r1.2).bind (fun r2 => vr_gd (vr_R (-r2.1)) (some (-r2.1, r2.2))))
set_option maxRecDepth 100000 in
set_option maxHeartbeats 4000000 in
theorem ct_X10_restRests (l : Launch) (G : vr_G) (a0 : Int) (h_a0 : vr_R a0) (μ : vr_M) : vr_CI l yX10_restRests cX10_restRests 2 (some .int) ({ frames := 4, cells := 0, slots := 0, locals := 84 } : Room) G [.ref (vr_ad G 68), .int (vr_I a0)] μ (fX10_restRests a0 μ) := by
  refine vr_start (own := RX10) (by decide) rfl (Nat.le_of_ble_eq_true rfl) (fun p e s m args below meth c C0 => ?_)
  show vr_J p l e _ s m args below meth c 2 0 0 G (vr_Z (vr_QI G) G args s below) 0 [(0, .ref (vr_ad G 68)), (1, .int (vr_I a0))] [] μ _
  unfold fX10_restRests
  refine jr_aload_n C0 0 dX10_restRests_0 rfl rfl ?_
  refine jr_bipush C0 dX10_restRests_1 rfl ?_
  refine jr_vV0 C0 (by decide) kd_68 (by decide) rfl (ct_X10_runs l G 21 (⟨by decide, by decide⟩) _) mi_X10_runs wm_X10_248 ⟨Nat.le_of_ble_eq_true rfl, Nat.le_of_ble_eq_true rfl⟩ ⟨rfl, rfl⟩ (As := [.int (vr_I 21)]) rfl (st := []) rfl (Nat.le_of_ble_eq_true rfl) dX10_restRests_3 (fun r1 => ?_)
  refine jr_aload_n C0 0 dX10_restRests_6 rfl rfl ?_
  refine jr_iload_n C0 1 dX10_restRests_7 rfl rfl ?_
  refine jr_vI C0 (by decide) kd_68 (by decide) rfl (ct_X10_plainRests l G a0 h_a0 _) mi_X10_plainRests wm_X10_266 ⟨Nat.le_of_ble_eq_true rfl, Nat.le_of_ble_eq_true rfl⟩ ⟨rfl, rfl⟩ (As := [.int (vr_I a0)]) rfl (st := []) rfl (Nat.le_of_ble_eq_true rfl) dX10_restRests_8 (fun r2 hr2 => ?_)
  refine jr_ineg C0 dX10_restRests_11 ?_
  refine jr_gd (fun g3 => ?_)
  exact jr_iret C0 g3 dX10_restRests_12
theorem dX10_restsActs_0 : decode cX10_restsActs 0 = .ok (.aload_n 0, 1) := by decide +kernel
theorem dX10_restsActs_1 : decode cX10_restsActs 1 = .ok (.getfield 254, 3) := by decide +kernel
theorem dX10_restsActs_4 : decode cX10_restsActs 4 = .ok (.bipush 6, 2) := by decide +kernel
theorem dX10_restsActs_6 : decode cX10_restsActs 6 = .ok (.if_icmp .ne 20, 3) := by decide +kernel
theorem dX10_restsActs_9 : decode cX10_restsActs 9 = .ok (.aload_n 0, 1) := by decide +kernel
theorem dX10_restsActs_10 : decode cX10_restsActs 10 = .ok (.bipush 61, 2) := by decide +kernel
theorem dX10_restsActs_12 : decode cX10_restsActs 12 = .ok (.invokevirtual 248, 3) := by decide +kernel
theorem dX10_restsActs_15 : decode cX10_restsActs 15 = .ok (.aload_n 0, 1) := by decide +kernel
theorem dX10_restsActs_16 : decode cX10_restsActs 16 = .ok (.iload_n 1, 1) := by decide +kernel
theorem dX10_restsActs_17 : decode cX10_restsActs 17 = .ok (.invokevirtual 269, 3) := by decide +kernel
theorem dX10_restsActs_20 : decode cX10_restsActs 20 = .ok (.aload_n 0, 1) := by decide +kernel
theorem dX10_restsActs_21 : decode cX10_restsActs 21 = .ok (.getfield 263, 3) := by decide +kernel
theorem dX10_restsActs_24 : decode cX10_restsActs 24 = .ok (.iadd, 1) := by decide +kernel
theorem dX10_restsActs_25 : decode cX10_restsActs 25 = .ok (.ireturn, 1) := by decide +kernel
theorem dX10_restsActs_26 : decode cX10_restsActs 26 = .ok (.aload_n 0, 1) := by decide +kernel
theorem dX10_restsActs_27 : decode cX10_restsActs 27 = .ok (.getfield 254, 3) := by decide +kernel
theorem dX10_restsActs_30 : decode cX10_restsActs 30 = .ok (.iconst 2, 1) := by decide +kernel
theorem dX10_restsActs_31 : decode cX10_restsActs 31 = .ok (.invokestatic 272, 3) := by decide +kernel
theorem dX10_restsActs_34 : decode cX10_restsActs 34 = .ok (.ifCond .eq 11, 3) := by decide +kernel
theorem dX10_restsActs_37 : decode cX10_restsActs 37 = .ok (.aload_n 0, 1) := by decide +kernel
theorem dX10_restsActs_38 : decode cX10_restsActs 38 = .ok (.iload_n 1, 1) := by decide +kernel
theorem dX10_restsActs_39 : decode cX10_restsActs 39 = .ok (.invokevirtual 269, 3) := by decide +kernel
theorem dX10_restsActs_42 : decode cX10_restsActs 42 = .ok (.goto 8, 3) := by decide +kernel
theorem dX10_restsActs_45 : decode cX10_restsActs 45 = .ok (.aload_n 0, 1) := by decide +kernel
theorem dX10_restsActs_46 : decode cX10_restsActs 46 = .ok (.iload_n 1, 1) := by decide +kernel
theorem dX10_restsActs_47 : decode cX10_restsActs 47 = .ok (.invokevirtual 266, 3) := by decide +kernel
theorem dX10_restsActs_50 : decode cX10_restsActs 50 = .ok (.ireturn, 1) := by decide +kernel
def fX10_restsActs_B50 (y0 : Int) (μ : vr_M) : Option (Int × vr_M) :=
  some (y0, μ)
def fX10_restsActs (a0 : Int) (μ : vr_M) : Option (Int × vr_M) :=
  vr_gd (vr_R (μ 68 23)) (if ¬ (μ 68 23) = 6 then (fX10_isUnder (μ 68 23) 2 μ).bind (fun r2 => if r2.1 = 0 then (fX10_plainRests a0 r2.2).bind (fun r3 => fX10_restsActs_B50 r3.1 r3.2) else (fX10_restRests a0 r2.2).bind (fun r4 => fX10_restsActs_B50 r4.1 r4.2)) else (fX10_runs 61 μ).bind (fun r5 => (fX10_restRests a0 r5.2).bind (fun r6 => vr_gd (vr_R (r6.1 + (r6.2 68 25))) (some (r6.1 + (r6.2 68 25), r6.2)))))
set_option maxRecDepth 100000 in
set_option maxHeartbeats 4000000 in
theorem ct_X10_restsActs (l : Launch) (G : vr_G) (a0 : Int) (h_a0 : vr_R a0) (μ : vr_M) : vr_CI l yX10_restsActs cX10_restsActs 2 (some .int) ({ frames := 5, cells := 0, slots := 0, locals := 105 } : Room) G [.ref (vr_ad G 68), .int (vr_I a0)] μ (fX10_restsActs a0 μ) := by
  refine vr_start (own := RX10) (by decide) rfl (Nat.le_of_ble_eq_true rfl) (fun p e s m args below meth c C0 => ?_)
  show vr_J p l e _ s m args below meth c 2 0 0 G (vr_Z (vr_QI G) G args s below) 0 [(0, .ref (vr_ad G 68)), (1, .int (vr_I a0))] [] μ _
  have B50 : ∀ (y0 : Int) (h_y0 : vr_R y0) (μ : vr_M), vr_J p l e ({ frames := 5, cells := 0, slots := 0, locals := 105 } : Room) s m args below meth c 2 0 0 G (vr_Z (vr_QI G) G args s below) 50 [] [.int (vr_I y0)] μ (fX10_restsActs_B50 y0 μ) := by
    intro y0 h_y0 μ
    unfold fX10_restsActs_B50
    exact jr_iret C0 h_y0 dX10_restsActs_50
  unfold fX10_restsActs
  refine jr_aload_n C0 0 dX10_restsActs_0 rfl rfl ?_
  refine jr_geti C0 (by decide) kd_68 (by decide) rfl wx_X10 (i := 23) (by decide) wf_X10_254 rfl dX10_restsActs_1 ?_
  refine jr_bipush C0 dX10_restsActs_4 rfl ?_
  refine jr_gd (fun g1 => ?_)
  refine jr_icmp_ne C0 g1 (⟨by decide, by decide⟩) dX10_restsActs_6 (tgt := 26) (by decide) ?_ ?_
  · refine jr_aload_n C0 0 dX10_restsActs_26 rfl rfl ?_
    refine jr_geti C0 (by decide) kd_68 (by decide) rfl wx_X10 (i := 23) (by decide) wf_X10_254 rfl dX10_restsActs_27 ?_
    refine jr_iconst C0 dX10_restsActs_30 ?_
    refine jr_sI C0 (ct_X10_isUnder l G (μ 68 23) g1 2 (⟨by decide, by decide⟩) _) mi_X10_isUnder wm_X10_272 ⟨Nat.le_of_ble_eq_true rfl, Nat.le_of_ble_eq_true rfl⟩ ⟨rfl, rfl⟩ (As := [.int (vr_I (μ 68 23)), .int (vr_I 2)]) rfl (st := []) rfl (Nat.le_of_ble_eq_true rfl) dX10_restsActs_31 (fun r2 hr2 => ?_)
    refine jr_if_eq C0 hr2 dX10_restsActs_34 (tgt := 45) (by decide) ?_ ?_
    · refine jr_aload_n C0 0 dX10_restsActs_45 rfl rfl ?_
      refine jr_iload_n C0 1 dX10_restsActs_46 rfl rfl ?_
      refine jr_vI C0 (by decide) kd_68 (by decide) rfl (ct_X10_plainRests l G a0 h_a0 _) mi_X10_plainRests wm_X10_266 ⟨Nat.le_of_ble_eq_true rfl, Nat.le_of_ble_eq_true rfl⟩ ⟨rfl, rfl⟩ (As := [.int (vr_I a0)]) rfl (st := []) rfl (Nat.le_of_ble_eq_true rfl) dX10_restsActs_47 (fun r3 hr3 => ?_)
      refine jr_sub [] rfl ?_
      exact B50 r3.1 hr3 _
    refine jr_aload_n C0 0 dX10_restsActs_37 rfl rfl ?_
    refine jr_iload_n C0 1 dX10_restsActs_38 rfl rfl ?_
    refine jr_vI C0 (by decide) kd_68 (by decide) rfl (ct_X10_restRests l G a0 h_a0 _) mi_X10_restRests wm_X10_269 ⟨Nat.le_of_ble_eq_true rfl, Nat.le_of_ble_eq_true rfl⟩ ⟨rfl, rfl⟩ (As := [.int (vr_I a0)]) rfl (st := []) rfl (Nat.le_of_ble_eq_true rfl) dX10_restsActs_39 (fun r4 hr4 => ?_)
    refine jr_goto C0 dX10_restsActs_42 (tgt := 50) (by decide) ?_
    refine jr_sub [] rfl ?_
    exact B50 r4.1 hr4 _
  refine jr_aload_n C0 0 dX10_restsActs_9 rfl rfl ?_
  refine jr_bipush C0 dX10_restsActs_10 rfl ?_
  refine jr_vV0 C0 (by decide) kd_68 (by decide) rfl (ct_X10_runs l G 61 (⟨by decide, by decide⟩) _) mi_X10_runs wm_X10_248 ⟨Nat.le_of_ble_eq_true rfl, Nat.le_of_ble_eq_true rfl⟩ ⟨rfl, rfl⟩ (As := [.int (vr_I 61)]) rfl (st := []) rfl (Nat.le_of_ble_eq_true rfl) dX10_restsActs_12 (fun r5 => ?_)
  refine jr_aload_n C0 0 dX10_restsActs_15 rfl rfl ?_
  refine jr_iload_n C0 1 dX10_restsActs_16 rfl rfl ?_
  refine jr_vI C0 (by decide) kd_68 (by decide) rfl (ct_X10_restRests l G a0 h_a0 _) mi_X10_restRests wm_X10_269 ⟨Nat.le_of_ble_eq_true rfl, Nat.le_of_ble_eq_true rfl⟩ ⟨rfl, rfl⟩ (As := [.int (vr_I a0)]) rfl (st := []) rfl (Nat.le_of_ble_eq_true rfl) dX10_restsActs_17 (fun r6 hr6 => ?_)
  refine jr_aload_n C0 0 dX10_restsActs_20 rfl rfl ?_
  refine jr_geti C0 (by decide) kd_68 (by decide) rfl wx_X10 (i := 25) (by decide) wf_X10_263 rfl dX10_restsActs_21 ?_
  refine jr_iadd C0 dX10_restsActs_24 ?_
  refine jr_gd (fun g7 => ?_)
  exact jr_iret C0 g7 dX10_restsActs_25
theorem dX10_plainTells_0 : decode cX10_plainTells 0 = .ok (.aload_n 0, 1) := by decide +kernel
theorem dX10_plainTells_1 : decode cX10_plainTells 1 = .ok (.iconst 3, 1) := by decide +kernel
theorem dX10_plainTells_2 : decode cX10_plainTells 2 = .ok (.invokevirtual 248, 3) := by decide +kernel
theorem dX10_plainTells_5 : decode cX10_plainTells 5 = .ok (.aload_n 0, 1) := by decide +kernel
theorem dX10_plainTells_6 : decode cX10_plainTells 6 = .ok (.iload_n 1, 1) := by decide +kernel
theorem dX10_plainTells_7 : decode cX10_plainTells 7 = .ok (.invokevirtual 276, 3) := by decide +kernel
theorem dX10_plainTells_10 : decode cX10_plainTells 10 = .ok (.iconst 2, 1) := by decide +kernel
theorem dX10_plainTells_11 : decode cX10_plainTells 11 = .ok (.imul, 1) := by decide +kernel
theorem dX10_plainTells_12 : decode cX10_plainTells 12 = .ok (.ireturn, 1) := by decide +kernel
def fX10_plainTells (a0 : Int) (μ : vr_M) : Option (Int × vr_M) :=
  (fX10_runs 3 μ).bind (fun r1 => (fX10_restsActs a0 r1.2).bind (fun r2 => vr_gd (vr_R (r2.1 * 2)) (some (r2.1 * 2, r2.2))))
set_option maxRecDepth 100000 in
set_option maxHeartbeats 4000000 in
theorem ct_X10_plainTells (l : Launch) (G : vr_G) (a0 : Int) (h_a0 : vr_R a0) (μ : vr_M) : vr_CI l yX10_plainTells cX10_plainTells 2 (some .int) ({ frames := 6, cells := 0, slots := 0, locals := 126 } : Room) G [.ref (vr_ad G 68), .int (vr_I a0)] μ (fX10_plainTells a0 μ) := by
  refine vr_start (own := RX10) (by decide) rfl (Nat.le_of_ble_eq_true rfl) (fun p e s m args below meth c C0 => ?_)
  show vr_J p l e _ s m args below meth c 2 0 0 G (vr_Z (vr_QI G) G args s below) 0 [(0, .ref (vr_ad G 68)), (1, .int (vr_I a0))] [] μ _
  unfold fX10_plainTells
  refine jr_aload_n C0 0 dX10_plainTells_0 rfl rfl ?_
  refine jr_iconst C0 dX10_plainTells_1 ?_
  refine jr_vV0 C0 (by decide) kd_68 (by decide) rfl (ct_X10_runs l G 3 (⟨by decide, by decide⟩) _) mi_X10_runs wm_X10_248 ⟨Nat.le_of_ble_eq_true rfl, Nat.le_of_ble_eq_true rfl⟩ ⟨rfl, rfl⟩ (As := [.int (vr_I 3)]) rfl (st := []) rfl (Nat.le_of_ble_eq_true rfl) dX10_plainTells_2 (fun r1 => ?_)
  refine jr_aload_n C0 0 dX10_plainTells_5 rfl rfl ?_
  refine jr_iload_n C0 1 dX10_plainTells_6 rfl rfl ?_
  refine jr_vI C0 (by decide) kd_68 (by decide) rfl (ct_X10_restsActs l G a0 h_a0 _) mi_X10_restsActs wm_X10_276 ⟨Nat.le_of_ble_eq_true rfl, Nat.le_of_ble_eq_true rfl⟩ ⟨rfl, rfl⟩ (As := [.int (vr_I a0)]) rfl (st := []) rfl (Nat.le_of_ble_eq_true rfl) dX10_plainTells_7 (fun r2 hr2 => ?_)
  refine jr_iconst C0 dX10_plainTells_10 ?_
  refine jr_imul C0 dX10_plainTells_11 ?_
  refine jr_gd (fun g3 => ?_)
  exact jr_iret C0 g3 dX10_plainTells_12
theorem dX10_nearTells_0 : decode cX10_nearTells 0 = .ok (.aload_n 0, 1) := by decide +kernel
theorem dX10_nearTells_1 : decode cX10_nearTells 1 = .ok (.bipush 31, 2) := by decide +kernel
theorem dX10_nearTells_3 : decode cX10_nearTells 3 = .ok (.invokevirtual 248, 3) := by decide +kernel
theorem dX10_nearTells_6 : decode cX10_nearTells 6 = .ok (.aload_n 0, 1) := by decide +kernel
theorem dX10_nearTells_7 : decode cX10_nearTells 7 = .ok (.iload_n 1, 1) := by decide +kernel
theorem dX10_nearTells_8 : decode cX10_nearTells 8 = .ok (.invokevirtual 279, 3) := by decide +kernel
theorem dX10_nearTells_11 : decode cX10_nearTells 11 = .ok (.bipush 7, 2) := by decide +kernel
theorem dX10_nearTells_13 : decode cX10_nearTells 13 = .ok (.ixor, 1) := by decide +kernel
theorem dX10_nearTells_14 : decode cX10_nearTells 14 = .ok (.ireturn, 1) := by decide +kernel
def fX10_nearTells (a0 : Int) (μ : vr_M) : Option (Int × vr_M) :=
  (fX10_runs 31 μ).bind (fun r1 => (fX10_plainTells a0 r1.2).bind (fun r2 => some (vr_xor r2.1 7, r2.2)))
set_option maxRecDepth 100000 in
set_option maxHeartbeats 4000000 in
theorem ct_X10_nearTells (l : Launch) (G : vr_G) (a0 : Int) (h_a0 : vr_R a0) (μ : vr_M) : vr_CI l yX10_nearTells cX10_nearTells 2 (some .int) ({ frames := 7, cells := 0, slots := 0, locals := 147 } : Room) G [.ref (vr_ad G 68), .int (vr_I a0)] μ (fX10_nearTells a0 μ) := by
  refine vr_start (own := RX10) (by decide) rfl (Nat.le_of_ble_eq_true rfl) (fun p e s m args below meth c C0 => ?_)
  show vr_J p l e _ s m args below meth c 2 0 0 G (vr_Z (vr_QI G) G args s below) 0 [(0, .ref (vr_ad G 68)), (1, .int (vr_I a0))] [] μ _
  unfold fX10_nearTells
  refine jr_aload_n C0 0 dX10_nearTells_0 rfl rfl ?_
  refine jr_bipush C0 dX10_nearTells_1 rfl ?_
  refine jr_vV0 C0 (by decide) kd_68 (by decide) rfl (ct_X10_runs l G 31 (⟨by decide, by decide⟩) _) mi_X10_runs wm_X10_248 ⟨Nat.le_of_ble_eq_true rfl, Nat.le_of_ble_eq_true rfl⟩ ⟨rfl, rfl⟩ (As := [.int (vr_I 31)]) rfl (st := []) rfl (Nat.le_of_ble_eq_true rfl) dX10_nearTells_3 (fun r1 => ?_)
  refine jr_aload_n C0 0 dX10_nearTells_6 rfl rfl ?_
  refine jr_iload_n C0 1 dX10_nearTells_7 rfl rfl ?_
  refine jr_vI C0 (by decide) kd_68 (by decide) rfl (ct_X10_plainTells l G a0 h_a0 _) mi_X10_plainTells wm_X10_279 ⟨Nat.le_of_ble_eq_true rfl, Nat.le_of_ble_eq_true rfl⟩ ⟨rfl, rfl⟩ (As := [.int (vr_I a0)]) rfl (st := []) rfl (Nat.le_of_ble_eq_true rfl) dX10_nearTells_8 (fun r2 hr2 => ?_)
  refine jr_bipush C0 dX10_nearTells_11 rfl ?_
  refine jr_ixor C0 dX10_nearTells_13 ?_
  exact jr_iret C0 (vr_RT _) dX10_nearTells_14
theorem dX10_tellsActs_0 : decode cX10_tellsActs 0 = .ok (.aload_n 0, 1) := by decide +kernel
theorem dX10_tellsActs_1 : decode cX10_tellsActs 1 = .ok (.getfield 254, 3) := by decide +kernel
theorem dX10_tellsActs_4 : decode cX10_tellsActs 4 = .ok (.iconst 4, 1) := by decide +kernel
theorem dX10_tellsActs_5 : decode cX10_tellsActs 5 = .ok (.if_icmp .ne 25, 3) := by decide +kernel
theorem dX10_tellsActs_8 : decode cX10_tellsActs 8 = .ok (.aload_n 0, 1) := by decide +kernel
theorem dX10_tellsActs_9 : decode cX10_tellsActs 9 = .ok (.bipush 41, 2) := by decide +kernel
theorem dX10_tellsActs_11 : decode cX10_tellsActs 11 = .ok (.invokevirtual 248, 3) := by decide +kernel
theorem dX10_tellsActs_14 : decode cX10_tellsActs 14 = .ok (.aload_n 0, 1) := by decide +kernel
theorem dX10_tellsActs_15 : decode cX10_tellsActs 15 = .ok (.iload_n 1, 1) := by decide +kernel
theorem dX10_tellsActs_16 : decode cX10_tellsActs 16 = .ok (.iconst 1, 1) := by decide +kernel
theorem dX10_tellsActs_17 : decode cX10_tellsActs 17 = .ok (.isub, 1) := by decide +kernel
theorem dX10_tellsActs_18 : decode cX10_tellsActs 18 = .ok (.invokevirtual 282, 3) := by decide +kernel
theorem dX10_tellsActs_21 : decode cX10_tellsActs 21 = .ok (.istore_n 2, 1) := by decide +kernel
theorem dX10_tellsActs_22 : decode cX10_tellsActs 22 = .ok (.iload_n 2, 1) := by decide +kernel
theorem dX10_tellsActs_23 : decode cX10_tellsActs 23 = .ok (.aload_n 0, 1) := by decide +kernel
theorem dX10_tellsActs_24 : decode cX10_tellsActs 24 = .ok (.iconst 2, 1) := by decide +kernel
theorem dX10_tellsActs_25 : decode cX10_tellsActs 25 = .ok (.invokevirtual 260, 3) := by decide +kernel
theorem dX10_tellsActs_28 : decode cX10_tellsActs 28 = .ok (.iadd, 1) := by decide +kernel
theorem dX10_tellsActs_29 : decode cX10_tellsActs 29 = .ok (.ireturn, 1) := by decide +kernel
theorem dX10_tellsActs_30 : decode cX10_tellsActs 30 = .ok (.aload_n 0, 1) := by decide +kernel
theorem dX10_tellsActs_31 : decode cX10_tellsActs 31 = .ok (.getfield 254, 3) := by decide +kernel
theorem dX10_tellsActs_34 : decode cX10_tellsActs 34 = .ok (.iconst 3, 1) := by decide +kernel
theorem dX10_tellsActs_35 : decode cX10_tellsActs 35 = .ok (.if_icmp .ne 11, 3) := by decide +kernel
theorem dX10_tellsActs_38 : decode cX10_tellsActs 38 = .ok (.aload_n 0, 1) := by decide +kernel
theorem dX10_tellsActs_39 : decode cX10_tellsActs 39 = .ok (.iload_n 1, 1) := by decide +kernel
theorem dX10_tellsActs_40 : decode cX10_tellsActs 40 = .ok (.invokevirtual 282, 3) := by decide +kernel
theorem dX10_tellsActs_43 : decode cX10_tellsActs 43 = .ok (.goto 8, 3) := by decide +kernel
theorem dX10_tellsActs_46 : decode cX10_tellsActs 46 = .ok (.aload_n 0, 1) := by decide +kernel
theorem dX10_tellsActs_47 : decode cX10_tellsActs 47 = .ok (.iload_n 1, 1) := by decide +kernel
theorem dX10_tellsActs_48 : decode cX10_tellsActs 48 = .ok (.invokevirtual 279, 3) := by decide +kernel
theorem dX10_tellsActs_51 : decode cX10_tellsActs 51 = .ok (.ireturn, 1) := by decide +kernel
def fX10_tellsActs_B51 (y0 : Int) (μ : vr_M) : Option (Int × vr_M) :=
  some (y0, μ)
def fX10_tellsActs (a0 : Int) (μ : vr_M) : Option (Int × vr_M) :=
  vr_gd (vr_R (μ 68 23)) (if ¬ (μ 68 23) = 4 then if ¬ (μ 68 23) = 3 then (fX10_plainTells a0 μ).bind (fun r2 => fX10_tellsActs_B51 r2.1 r2.2) else (fX10_nearTells a0 μ).bind (fun r3 => fX10_tellsActs_B51 r3.1 r3.2) else (fX10_runs 41 μ).bind (fun r4 => vr_gd (vr_R (a0 - 1)) ((fX10_nearTells (a0 - 1) r4.2).bind (fun r6 => (fX10_burnsActs 2 r6.2).bind (fun r7 => vr_gd (vr_R (r6.1 + r7.1)) (some (r6.1 + r7.1, r7.2)))))))
set_option maxRecDepth 100000 in
set_option maxHeartbeats 4000000 in
theorem ct_X10_tellsActs (l : Launch) (G : vr_G) (a0 : Int) (h_a0 : vr_R a0) (μ : vr_M) : vr_CI l yX10_tellsActs cX10_tellsActs 3 (some .int) ({ frames := 8, cells := 0, slots := 0, locals := 168 } : Room) G [.ref (vr_ad G 68), .int (vr_I a0)] μ (fX10_tellsActs a0 μ) := by
  refine vr_start (own := RX10) (by decide) rfl (Nat.le_of_ble_eq_true rfl) (fun p e s m args below meth c C0 => ?_)
  show vr_J p l e _ s m args below meth c 3 0 0 G (vr_Z (vr_QI G) G args s below) 0 [(0, .ref (vr_ad G 68)), (1, .int (vr_I a0))] [] μ _
  have B51 : ∀ (y0 : Int) (h_y0 : vr_R y0) (μ : vr_M), vr_J p l e ({ frames := 8, cells := 0, slots := 0, locals := 168 } : Room) s m args below meth c 3 0 0 G (vr_Z (vr_QI G) G args s below) 51 [] [.int (vr_I y0)] μ (fX10_tellsActs_B51 y0 μ) := by
    intro y0 h_y0 μ
    unfold fX10_tellsActs_B51
    exact jr_iret C0 h_y0 dX10_tellsActs_51
  unfold fX10_tellsActs
  refine jr_aload_n C0 0 dX10_tellsActs_0 rfl rfl ?_
  refine jr_geti C0 (by decide) kd_68 (by decide) rfl wx_X10 (i := 23) (by decide) wf_X10_254 rfl dX10_tellsActs_1 ?_
  refine jr_iconst C0 dX10_tellsActs_4 ?_
  refine jr_gd (fun g1 => ?_)
  refine jr_icmp_ne C0 g1 (⟨by decide, by decide⟩) dX10_tellsActs_5 (tgt := 30) (by decide) ?_ ?_
  · refine jr_aload_n C0 0 dX10_tellsActs_30 rfl rfl ?_
    refine jr_geti C0 (by decide) kd_68 (by decide) rfl wx_X10 (i := 23) (by decide) wf_X10_254 rfl dX10_tellsActs_31 ?_
    refine jr_iconst C0 dX10_tellsActs_34 ?_
    refine jr_icmp_ne C0 g1 (⟨by decide, by decide⟩) dX10_tellsActs_35 (tgt := 46) (by decide) ?_ ?_
    · refine jr_aload_n C0 0 dX10_tellsActs_46 rfl rfl ?_
      refine jr_iload_n C0 1 dX10_tellsActs_47 rfl rfl ?_
      refine jr_vI C0 (by decide) kd_68 (by decide) rfl (ct_X10_plainTells l G a0 h_a0 _) mi_X10_plainTells wm_X10_279 ⟨Nat.le_of_ble_eq_true rfl, Nat.le_of_ble_eq_true rfl⟩ ⟨rfl, rfl⟩ (As := [.int (vr_I a0)]) rfl (st := []) rfl (Nat.le_of_ble_eq_true rfl) dX10_tellsActs_48 (fun r2 hr2 => ?_)
      refine jr_sub [] rfl ?_
      exact B51 r2.1 hr2 _
    refine jr_aload_n C0 0 dX10_tellsActs_38 rfl rfl ?_
    refine jr_iload_n C0 1 dX10_tellsActs_39 rfl rfl ?_
    refine jr_vI C0 (by decide) kd_68 (by decide) rfl (ct_X10_nearTells l G a0 h_a0 _) mi_X10_nearTells wm_X10_282 ⟨Nat.le_of_ble_eq_true rfl, Nat.le_of_ble_eq_true rfl⟩ ⟨rfl, rfl⟩ (As := [.int (vr_I a0)]) rfl (st := []) rfl (Nat.le_of_ble_eq_true rfl) dX10_tellsActs_40 (fun r3 hr3 => ?_)
    refine jr_goto C0 dX10_tellsActs_43 (tgt := 51) (by decide) ?_
    refine jr_sub [] rfl ?_
    exact B51 r3.1 hr3 _
  refine jr_aload_n C0 0 dX10_tellsActs_8 rfl rfl ?_
  refine jr_bipush C0 dX10_tellsActs_9 rfl ?_
  refine jr_vV0 C0 (by decide) kd_68 (by decide) rfl (ct_X10_runs l G 41 (⟨by decide, by decide⟩) _) mi_X10_runs wm_X10_248 ⟨Nat.le_of_ble_eq_true rfl, Nat.le_of_ble_eq_true rfl⟩ ⟨rfl, rfl⟩ (As := [.int (vr_I 41)]) rfl (st := []) rfl (Nat.le_of_ble_eq_true rfl) dX10_tellsActs_11 (fun r4 => ?_)
  refine jr_aload_n C0 0 dX10_tellsActs_14 rfl rfl ?_
  refine jr_iload_n C0 1 dX10_tellsActs_15 rfl rfl ?_
  refine jr_iconst C0 dX10_tellsActs_16 ?_
  refine jr_isub C0 dX10_tellsActs_17 ?_
  refine jr_gd (fun g5 => ?_)
  refine jr_vI C0 (by decide) kd_68 (by decide) rfl (ct_X10_nearTells l G (a0 - 1) g5 _) mi_X10_nearTells wm_X10_282 ⟨Nat.le_of_ble_eq_true rfl, Nat.le_of_ble_eq_true rfl⟩ ⟨rfl, rfl⟩ (As := [.int (vr_I (a0 - 1))]) rfl (st := []) rfl (Nat.le_of_ble_eq_true rfl) dX10_tellsActs_18 (fun r6 hr6 => ?_)
  refine jr_istore_n C0 dX10_tellsActs_21 rfl (by decide) (lv' := [(2, .int (vr_I r6.1)), (0, .ref (vr_ad G 68)), (1, .int (vr_I a0))]) rfl ?_
  refine jr_iload_n C0 0 dX10_tellsActs_22 rfl rfl ?_
  refine jr_aload_n C0 1 dX10_tellsActs_23 rfl rfl ?_
  refine jr_iconst C0 dX10_tellsActs_24 ?_
  refine jr_vI C0 (by decide) kd_68 (by decide) rfl (ct_X10_burnsActs l G 2 (⟨by decide, by decide⟩) _) mi_X10_burnsActs wm_X10_260 ⟨Nat.le_of_ble_eq_true rfl, Nat.le_of_ble_eq_true rfl⟩ ⟨rfl, rfl⟩ (As := [.int (vr_I 2)]) rfl (st := [.int (vr_I r6.1)]) rfl (Nat.le_of_ble_eq_true rfl) dX10_tellsActs_25 (fun r7 hr7 => ?_)
  refine jr_iadd C0 dX10_tellsActs_28 ?_
  refine jr_gd (fun g8 => ?_)
  exact jr_iret C0 g8 dX10_tellsActs_29
theorem dX10_act_0 : decode cX10_act 0 = .ok (.aload_n 0, 1) := by decide +kernel
theorem dX10_act_1 : decode cX10_act 1 = .ok (.iconst 0, 1) := by decide +kernel
theorem dX10_act_2 : decode cX10_act 2 = .ok (.putfield 245, 3) := by decide +kernel
theorem dX10_act_5 : decode cX10_act 5 = .ok (.aload_n 0, 1) := by decide +kernel
theorem dX10_act_6 : decode cX10_act 6 = .ok (.iload_n 1, 1) := by decide +kernel
theorem dX10_act_7 : decode cX10_act 7 = .ok (.invokevirtual 190, 3) := by decide +kernel
theorem dX10_act_10 : decode cX10_act 10 = .ok (.ifCond .eq 12, 3) := by decide +kernel
theorem dX10_act_13 : decode cX10_act 13 = .ok (.iload_n 2, 1) := by decide +kernel
theorem dX10_act_14 : decode cX10_act 14 = .ok (.iconst 0, 1) := by decide +kernel
theorem dX10_act_15 : decode cX10_act 15 = .ok (.iconst 2, 1) := by decide +kernel
theorem dX10_act_16 : decode cX10_act 16 = .ok (.invokestatic 44, 3) := by decide +kernel
theorem dX10_act_19 : decode cX10_act 19 = .ok (.ifCond .ne 5, 3) := by decide +kernel
theorem dX10_act_22 : decode cX10_act 22 = .ok (.iconst 0, 1) := by decide +kernel
theorem dX10_act_23 : decode cX10_act 23 = .ok (.ireturn, 1) := by decide +kernel
theorem dX10_act_24 : decode cX10_act 24 = .ok (.aload_n 0, 1) := by decide +kernel
theorem dX10_act_25 : decode cX10_act 25 = .ok (.aload_n 0, 1) := by decide +kernel
theorem dX10_act_26 : decode cX10_act 26 = .ok (.getfield 9, 3) := by decide +kernel
theorem dX10_act_29 : decode cX10_act 29 = .ok (.sipush 170, 3) := by decide +kernel
theorem dX10_act_32 : decode cX10_act 32 = .ok (.iload_n 1, 1) := by decide +kernel
theorem dX10_act_33 : decode cX10_act 33 = .ok (.iadd, 1) := by decide +kernel
theorem dX10_act_34 : decode cX10_act 34 = .ok (.iaload, 1) := by decide +kernel
theorem dX10_act_35 : decode cX10_act 35 = .ok (.putfield 254, 3) := by decide +kernel
theorem dX10_act_38 : decode cX10_act 38 = .ok (.aload_n 0, 1) := by decide +kernel
theorem dX10_act_39 : decode cX10_act 39 = .ok (.iload_n 1, 1) := by decide +kernel
theorem dX10_act_40 : decode cX10_act 40 = .ok (.putfield 251, 3) := by decide +kernel
theorem dX10_act_43 : decode cX10_act 43 = .ok (.aload_n 0, 1) := by decide +kernel
theorem dX10_act_44 : decode cX10_act 44 = .ok (.aload_n 0, 1) := by decide +kernel
theorem dX10_act_45 : decode cX10_act 45 = .ok (.getfield 9, 3) := by decide +kernel
theorem dX10_act_48 : decode cX10_act 48 = .ok (.sipush 178, 3) := by decide +kernel
theorem dX10_act_51 : decode cX10_act 51 = .ok (.iload_n 1, 1) := by decide +kernel
theorem dX10_act_52 : decode cX10_act 52 = .ok (.iadd, 1) := by decide +kernel
theorem dX10_act_53 : decode cX10_act 53 = .ok (.iaload, 1) := by decide +kernel
theorem dX10_act_54 : decode cX10_act 54 = .ok (.putfield 263, 3) := by decide +kernel
theorem dX10_act_57 : decode cX10_act 57 = .ok (.iload_n 2, 1) := by decide +kernel
theorem dX10_act_58 : decode cX10_act 58 = .ok (.ifCond .ne 11, 3) := by decide +kernel
theorem dX10_act_61 : decode cX10_act 61 = .ok (.aload_n 0, 1) := by decide +kernel
theorem dX10_act_62 : decode cX10_act 62 = .ok (.iload_n 3, 1) := by decide +kernel
theorem dX10_act_63 : decode cX10_act 63 = .ok (.invokevirtual 260, 3) := by decide +kernel
theorem dX10_act_66 : decode cX10_act 66 = .ok (.goto 21, 3) := by decide +kernel
theorem dX10_act_69 : decode cX10_act 69 = .ok (.iload_n 2, 1) := by decide +kernel
theorem dX10_act_70 : decode cX10_act 70 = .ok (.iconst 1, 1) := by decide +kernel
theorem dX10_act_71 : decode cX10_act 71 = .ok (.if_icmp .ne 11, 3) := by decide +kernel
theorem dX10_act_74 : decode cX10_act 74 = .ok (.aload_n 0, 1) := by decide +kernel
theorem dX10_act_75 : decode cX10_act 75 = .ok (.iload_n 3, 1) := by decide +kernel
theorem dX10_act_76 : decode cX10_act 76 = .ok (.invokevirtual 276, 3) := by decide +kernel
theorem dX10_act_79 : decode cX10_act 79 = .ok (.goto 8, 3) := by decide +kernel
theorem dX10_act_82 : decode cX10_act 82 = .ok (.aload_n 0, 1) := by decide +kernel
theorem dX10_act_83 : decode cX10_act 83 = .ok (.iload_n 3, 1) := by decide +kernel
theorem dX10_act_84 : decode cX10_act 84 = .ok (.invokevirtual 285, 3) := by decide +kernel
theorem dX10_act_87 : decode cX10_act 87 = .ok (.ireturn, 1) := by decide +kernel
def fX10_act_B22 (μ : vr_M) : Option (Int × vr_M) :=
  some (0, μ)
def fX10_act_B87 (y0 : Int) (μ : vr_M) : Option (Int × vr_M) :=
  some (y0, μ)
def fX10_act (a0 : Int) (a1 : Int) (a2 : Int) (μ : vr_M) : Option (Int × vr_M) :=
  (fX10_isRule a0 (vr_u μ 68 22 0)).bind (fun r1 => if r1.1 = 0 then fX10_act_B22 r1.2 else (fX10_in a1 0 2 r1.2).bind (fun r2 => if ¬ r2.1 = 0 then vr_gd (0 ≤ (170 + a0) ∧ (170 + a0) < 933) (vr_gd (0 ≤ (178 + a0) ∧ (178 + a0) < 933) (vr_let (vr_u (vr_u r2.2 68 23 (r2.2 69 (170 + a0).toNat)) 68 24 a0) (fun μ5 => if ¬ a1 = 0 then if ¬ a1 = 1 then (fX10_tellsActs a2 (vr_u μ5 68 25 (μ5 69 (178 + a0).toNat))).bind (fun r6 => fX10_act_B87 r6.1 r6.2) else (fX10_restsActs a2 (vr_u μ5 68 25 (μ5 69 (178 + a0).toNat))).bind (fun r7 => fX10_act_B87 r7.1 r7.2) else (fX10_burnsActs a2 (vr_u μ5 68 25 (μ5 69 (178 + a0).toNat))).bind (fun r8 => fX10_act_B87 r8.1 r8.2)))) else fX10_act_B22 r2.2))
set_option maxRecDepth 100000 in
set_option maxHeartbeats 4000000 in
theorem ct_X10_act (l : Launch) (G : vr_G) (a0 : Int) (h_a0 : vr_R a0) (a1 : Int) (h_a1 : vr_R a1) (a2 : Int) (h_a2 : vr_R a2) (μ : vr_M) : vr_CI l yX10_act cX10_act 4 (some .int) ({ frames := 9, cells := 0, slots := 0, locals := 190 } : Room) G [.ref (vr_ad G 68), .int (vr_I a0), .int (vr_I a1), .int (vr_I a2)] μ (fX10_act a0 a1 a2 μ) := by
  refine vr_start (own := RX10) (by decide) rfl (Nat.le_of_ble_eq_true rfl) (fun p e s m args below meth c C0 => ?_)
  show vr_J p l e _ s m args below meth c 4 0 0 G (vr_Z (vr_QI G) G args s below) 0 [(0, .ref (vr_ad G 68)), (1, .int (vr_I a0)), (2, .int (vr_I a1)), (3, .int (vr_I a2))] [] μ _
  have B22 : ∀ (μ : vr_M), vr_J p l e ({ frames := 9, cells := 0, slots := 0, locals := 190 } : Room) s m args below meth c 4 0 0 G (vr_Z (vr_QI G) G args s below) 22 [] [] μ (fX10_act_B22 μ) := by
    intro μ
    unfold fX10_act_B22
    refine jr_iconst C0 dX10_act_22 ?_
    exact jr_iret C0 (⟨by decide, by decide⟩) dX10_act_23
  have B87 : ∀ (y0 : Int) (h_y0 : vr_R y0) (μ : vr_M), vr_J p l e ({ frames := 9, cells := 0, slots := 0, locals := 190 } : Room) s m args below meth c 4 0 0 G (vr_Z (vr_QI G) G args s below) 87 [] [.int (vr_I y0)] μ (fX10_act_B87 y0 μ) := by
    intro y0 h_y0 μ
    unfold fX10_act_B87
    exact jr_iret C0 h_y0 dX10_act_87
  unfold fX10_act
  refine jr_aload_n C0 0 dX10_act_0 rfl rfl ?_
  refine jr_iconst C0 dX10_act_1 ?_
  refine jr_puti C0 (by decide) kd_68 (by decide) rfl wx_X10 (i := 22) (by decide) wf_X10_245 rfl tyX10_ok nmX10 rfl rfl rfl dX10_act_2 ?_
  refine jr_aload_n C0 0 dX10_act_5 rfl rfl ?_
  refine jr_iload_n C0 1 dX10_act_6 rfl rfl ?_
  refine jr_vI C0 (by decide) kd_68 (by decide) rfl (ct_X10_isRule l G a0 h_a0 _) mi_X10_isRule wm_X10_190 ⟨Nat.le_of_ble_eq_true rfl, Nat.le_of_ble_eq_true rfl⟩ ⟨rfl, rfl⟩ (As := [.int (vr_I a0)]) rfl (st := []) rfl (Nat.le_of_ble_eq_true rfl) dX10_act_7 (fun r1 hr1 => ?_)
  refine jr_if_eq C0 hr1 dX10_act_10 (tgt := 22) (by decide) ?_ ?_
  · refine jr_sub [] rfl ?_
    exact B22 _
  refine jr_iload_n C0 2 dX10_act_13 rfl rfl ?_
  refine jr_iconst C0 dX10_act_14 ?_
  refine jr_iconst C0 dX10_act_15 ?_
  refine jr_sI C0 (ct_X10_in l G a1 h_a1 0 (⟨by decide, by decide⟩) 2 (⟨by decide, by decide⟩) _) mi_X10_in wm_X10_44 ⟨Nat.le_of_ble_eq_true rfl, Nat.le_of_ble_eq_true rfl⟩ ⟨rfl, rfl⟩ (As := [.int (vr_I a1), .int (vr_I 0), .int (vr_I 2)]) rfl (st := []) rfl (Nat.le_of_ble_eq_true rfl) dX10_act_16 (fun r2 hr2 => ?_)
  refine jr_if_ne C0 hr2 dX10_act_19 (tgt := 24) (by decide) ?_ ?_
  · refine jr_aload_n C0 0 dX10_act_24 rfl rfl ?_
    refine jr_aload_n C0 0 dX10_act_25 rfl rfl ?_
    refine jr_getr C0 (by decide) kd_68 (by decide) rfl wx_X10 (i := 1) (by decide) wf_X10_9 (j := 69) rfl dX10_act_26 ?_
    refine jr_sipush C0 dX10_act_29 rfl ?_
    refine jr_iload_n C0 1 dX10_act_32 rfl rfl ?_
    refine jr_iadd C0 dX10_act_33 ?_
    refine jr_gd (fun g3 => ?_)
    refine jr_iald C0 (by decide) kd_69 kl_69 g3 (j := (170 + a0).toNat) rfl dX10_act_34 ?_
    refine jr_puti C0 (by decide) kd_68 (by decide) rfl wx_X10 (i := 23) (by decide) wf_X10_254 rfl tyX10_ok nmX10 rfl rfl rfl dX10_act_35 ?_
    refine jr_aload_n C0 0 dX10_act_38 rfl rfl ?_
    refine jr_iload_n C0 1 dX10_act_39 rfl rfl ?_
    refine jr_puti C0 (by decide) kd_68 (by decide) rfl wx_X10 (i := 24) (by decide) wf_X10_251 rfl tyX10_ok nmX10 rfl rfl rfl dX10_act_40 ?_
    refine jr_aload_n C0 0 dX10_act_43 rfl rfl ?_
    refine jr_aload_n C0 0 dX10_act_44 rfl rfl ?_
    refine jr_getr C0 (by decide) kd_68 (by decide) rfl wx_X10 (i := 1) (by decide) wf_X10_9 (j := 69) rfl dX10_act_45 ?_
    refine jr_sipush C0 dX10_act_48 rfl ?_
    refine jr_iload_n C0 1 dX10_act_51 rfl rfl ?_
    refine jr_iadd C0 dX10_act_52 ?_
    refine jr_gd (fun g4 => ?_)
    refine jr_let (fun μ5 => ?_)
    refine jr_iald C0 (by decide) kd_69 kl_69 g4 (j := (178 + a0).toNat) rfl dX10_act_53 ?_
    refine jr_puti C0 (by decide) kd_68 (by decide) rfl wx_X10 (i := 25) (by decide) wf_X10_263 rfl tyX10_ok nmX10 rfl rfl rfl dX10_act_54 ?_
    refine jr_iload_n C0 2 dX10_act_57 rfl rfl ?_
    refine jr_if_ne C0 h_a1 dX10_act_58 (tgt := 69) (by decide) ?_ ?_
    · refine jr_iload_n C0 2 dX10_act_69 rfl rfl ?_
      refine jr_iconst C0 dX10_act_70 ?_
      refine jr_icmp_ne C0 h_a1 (⟨by decide, by decide⟩) dX10_act_71 (tgt := 82) (by decide) ?_ ?_
      · refine jr_aload_n C0 0 dX10_act_82 rfl rfl ?_
        refine jr_iload_n C0 3 dX10_act_83 rfl rfl ?_
        refine jr_vI C0 (by decide) kd_68 (by decide) rfl (ct_X10_tellsActs l G a2 h_a2 _) mi_X10_tellsActs wm_X10_285 ⟨Nat.le_of_ble_eq_true rfl, Nat.le_of_ble_eq_true rfl⟩ ⟨rfl, rfl⟩ (As := [.int (vr_I a2)]) rfl (st := []) rfl (Nat.le_of_ble_eq_true rfl) dX10_act_84 (fun r6 hr6 => ?_)
        refine jr_sub [] rfl ?_
        exact B87 r6.1 hr6 _
      refine jr_aload_n C0 0 dX10_act_74 rfl rfl ?_
      refine jr_iload_n C0 3 dX10_act_75 rfl rfl ?_
      refine jr_vI C0 (by decide) kd_68 (by decide) rfl (ct_X10_restsActs l G a2 h_a2 _) mi_X10_restsActs wm_X10_276 ⟨Nat.le_of_ble_eq_true rfl, Nat.le_of_ble_eq_true rfl⟩ ⟨rfl, rfl⟩ (As := [.int (vr_I a2)]) rfl (st := []) rfl (Nat.le_of_ble_eq_true rfl) dX10_act_76 (fun r7 hr7 => ?_)
      refine jr_goto C0 dX10_act_79 (tgt := 87) (by decide) ?_
      refine jr_sub [] rfl ?_
      exact B87 r7.1 hr7 _
    refine jr_aload_n C0 0 dX10_act_61 rfl rfl ?_
    refine jr_iload_n C0 3 dX10_act_62 rfl rfl ?_
    refine jr_vI C0 (by decide) kd_68 (by decide) rfl (ct_X10_burnsActs l G a2 h_a2 _) mi_X10_burnsActs wm_X10_260 ⟨Nat.le_of_ble_eq_true rfl, Nat.le_of_ble_eq_true rfl⟩ ⟨rfl, rfl⟩ (As := [.int (vr_I a2)]) rfl (st := []) rfl (Nat.le_of_ble_eq_true rfl) dX10_act_63 (fun r8 hr8 => ?_)
    refine jr_goto C0 dX10_act_66 (tgt := 87) (by decide) ?_
    refine jr_sub [] rfl ?_
    exact B87 r8.1 hr8 _
  refine jr_sub [] rfl ?_
  exact B22 _
theorem dX10_trace_0 : decode cX10_trace 0 = .ok (.iload_n 1, 1) := by decide +kernel
theorem dX10_trace_1 : decode cX10_trace 1 = .ok (.iconst 0, 1) := by decide +kernel
theorem dX10_trace_2 : decode cX10_trace 2 = .ok (.aload_n 0, 1) := by decide +kernel
theorem dX10_trace_3 : decode cX10_trace 3 = .ok (.getfield 245, 3) := by decide +kernel
theorem dX10_trace_6 : decode cX10_trace 6 = .ok (.bipush 20, 2) := by decide +kernel
theorem dX10_trace_8 : decode cX10_trace 8 = .ok (.if_icmp .ge 10, 3) := by decide +kernel
theorem dX10_trace_11 : decode cX10_trace 11 = .ok (.aload_n 0, 1) := by decide +kernel
theorem dX10_trace_12 : decode cX10_trace 12 = .ok (.getfield 245, 3) := by decide +kernel
theorem dX10_trace_15 : decode cX10_trace 15 = .ok (.goto 5, 3) := by decide +kernel
theorem dX10_trace_18 : decode cX10_trace 18 = .ok (.bipush 20, 2) := by decide +kernel
theorem dX10_trace_20 : decode cX10_trace 20 = .ok (.iconst 1, 1) := by decide +kernel
theorem dX10_trace_21 : decode cX10_trace 21 = .ok (.isub, 1) := by decide +kernel
theorem dX10_trace_22 : decode cX10_trace 22 = .ok (.invokestatic 44, 3) := by decide +kernel
theorem dX10_trace_25 : decode cX10_trace 25 = .ok (.ifCond .eq 12, 3) := by decide +kernel
theorem dX10_trace_28 : decode cX10_trace 28 = .ok (.aload_n 0, 1) := by decide +kernel
theorem dX10_trace_29 : decode cX10_trace 29 = .ok (.getfield 37, 3) := by decide +kernel
theorem dX10_trace_32 : decode cX10_trace 32 = .ok (.iload_n 1, 1) := by decide +kernel
theorem dX10_trace_33 : decode cX10_trace 33 = .ok (.iaload, 1) := by decide +kernel
theorem dX10_trace_34 : decode cX10_trace 34 = .ok (.goto 4, 3) := by decide +kernel
theorem dX10_trace_37 : decode cX10_trace 37 = .ok (.iconst (-1), 1) := by decide +kernel
theorem dX10_trace_38 : decode cX10_trace 38 = .ok (.ireturn, 1) := by decide +kernel
def fX10_trace_B38 (y0 : Int) (μ : vr_M) : Option (Int × vr_M) :=
  some (y0, μ)
def fX10_trace_B20 (x1 : Int) (y0 : Int) (y1 : Int) (y2 : Int) (μ : vr_M) : Option (Int × vr_M) :=
  vr_gd (vr_R (y2 - 1)) ((fX10_in y0 y1 (y2 - 1) μ).bind (fun r2 => if r2.1 = 0 then fX10_trace_B38 (-1) r2.2 else vr_gd (0 ≤ x1 ∧ x1 < 20) (vr_gd (vr_R (r2.2 77 x1.toNat)) (fX10_trace_B38 (r2.2 77 x1.toNat) r2.2))))
def fX10_trace (a0 : Int) (μ : vr_M) : Option (Int × vr_M) :=
  vr_gd (vr_R (μ 68 22)) (if 20 ≤ (μ 68 22) then fX10_trace_B20 a0 a0 0 20 μ else fX10_trace_B20 a0 a0 0 (μ 68 22) μ)
set_option maxRecDepth 100000 in
set_option maxHeartbeats 4000000 in
theorem ct_X10_trace (l : Launch) (G : vr_G) (a0 : Int) (h_a0 : vr_R a0) (μ : vr_M) : vr_CI l yX10_trace cX10_trace 2 (some .int) ({ frames := 1, cells := 0, slots := 0, locals := 22 } : Room) G [.ref (vr_ad G 68), .int (vr_I a0)] μ (fX10_trace a0 μ) := by
  refine vr_start (own := RX10) (by decide) rfl (Nat.le_of_ble_eq_true rfl) (fun p e s m args below meth c C0 => ?_)
  show vr_J p l e _ s m args below meth c 2 0 0 G (vr_Z (vr_QI G) G args s below) 0 [(0, .ref (vr_ad G 68)), (1, .int (vr_I a0))] [] μ _
  have B38 : ∀ (y0 : Int) (h_y0 : vr_R y0) (μ : vr_M), vr_J p l e ({ frames := 1, cells := 0, slots := 0, locals := 22 } : Room) s m args below meth c 2 0 0 G (vr_Z (vr_QI G) G args s below) 38 [] [.int (vr_I y0)] μ (fX10_trace_B38 y0 μ) := by
    intro y0 h_y0 μ
    unfold fX10_trace_B38
    exact jr_iret C0 h_y0 dX10_trace_38
  have B20 : ∀ (x1 : Int) (h_x1 : vr_R x1) (y0 : Int) (h_y0 : vr_R y0) (y1 : Int) (h_y1 : vr_R y1) (y2 : Int) (h_y2 : vr_R y2) (μ : vr_M), vr_J p l e ({ frames := 1, cells := 0, slots := 0, locals := 22 } : Room) s m args below meth c 2 0 0 G (vr_Z (vr_QI G) G args s below) 20 [(0, .ref (vr_ad G 68)), (1, .int (vr_I x1))] [.int (vr_I y2), .int (vr_I y1), .int (vr_I y0)] μ (fX10_trace_B20 x1 y0 y1 y2 μ) := by
    intro x1 h_x1 y0 h_y0 y1 h_y1 y2 h_y2 μ
    unfold fX10_trace_B20
    refine jr_iconst C0 dX10_trace_20 ?_
    refine jr_isub C0 dX10_trace_21 ?_
    refine jr_gd (fun g1 => ?_)
    refine jr_sI C0 (ct_X10_in l G y0 h_y0 y1 h_y1 (y2 - 1) g1 _) mi_X10_in wm_X10_44 ⟨Nat.le_of_ble_eq_true rfl, Nat.le_of_ble_eq_true rfl⟩ ⟨rfl, rfl⟩ (As := [.int (vr_I y0), .int (vr_I y1), .int (vr_I (y2 - 1))]) rfl (st := []) rfl (Nat.le_of_ble_eq_true rfl) dX10_trace_22 (fun r2 hr2 => ?_)
    refine jr_if_eq C0 hr2 dX10_trace_25 (tgt := 37) (by decide) ?_ ?_
    · refine jr_iconst C0 dX10_trace_37 ?_
      refine jr_sub [] rfl ?_
      exact B38 (-1) (⟨by decide, by decide⟩) _
    refine jr_aload_n C0 0 dX10_trace_28 rfl rfl ?_
    refine jr_getr C0 (by decide) kd_68 (by decide) rfl wx_X10 (i := 21) (by decide) wf_X10_37 (j := 77) rfl dX10_trace_29 ?_
    refine jr_iload_n C0 1 dX10_trace_32 rfl rfl ?_
    refine jr_gd (fun g3 => ?_)
    refine jr_iald C0 (by decide) kd_77 kl_77 g3 (j := x1.toNat) rfl dX10_trace_33 ?_
    refine jr_goto C0 dX10_trace_34 (tgt := 38) (by decide) ?_
    refine jr_gd (fun g4 => ?_)
    refine jr_sub [] rfl ?_
    exact B38 (r2.2 77 x1.toNat) g4 _
  unfold fX10_trace
  refine jr_iload_n C0 1 dX10_trace_0 rfl rfl ?_
  refine jr_iconst C0 dX10_trace_1 ?_
  refine jr_aload_n C0 0 dX10_trace_2 rfl rfl ?_
  refine jr_geti C0 (by decide) kd_68 (by decide) rfl wx_X10 (i := 22) (by decide) wf_X10_245 rfl dX10_trace_3 ?_
  refine jr_bipush C0 dX10_trace_6 rfl ?_
  refine jr_gd (fun g5 => ?_)
  refine jr_icmp_ge C0 g5 (⟨by decide, by decide⟩) dX10_trace_8 (tgt := 18) (by decide) ?_ ?_
  · refine jr_bipush C0 dX10_trace_18 rfl ?_
    exact B20 a0 h_a0 a0 h_a0 0 (⟨by decide, by decide⟩) 20 (⟨by decide, by decide⟩) _
  refine jr_aload_n C0 0 dX10_trace_11 rfl rfl ?_
  refine jr_geti C0 (by decide) kd_68 (by decide) rfl wx_X10 (i := 22) (by decide) wf_X10_245 rfl dX10_trace_12 ?_
  refine jr_goto C0 dX10_trace_15 (tgt := 20) (by decide) ?_
  exact B20 a0 h_a0 a0 h_a0 0 (⟨by decide, by decide⟩) (μ 68 22) g5 _
theorem dX10_as_0 : decode cX10_as 0 = .ok (.aload_n 0, 1) := by decide +kernel
theorem dX10_as_1 : decode cX10_as 1 = .ok (.iload_n 1, 1) := by decide +kernel
theorem dX10_as_2 : decode cX10_as 2 = .ok (.invokevirtual 190, 3) := by decide +kernel
theorem dX10_as_5 : decode cX10_as 5 = .ok (.ifCond .eq 13, 3) := by decide +kernel
theorem dX10_as_8 : decode cX10_as 8 = .ok (.iload_n 2, 1) := by decide +kernel
theorem dX10_as_9 : decode cX10_as 9 = .ok (.iconst 0, 1) := by decide +kernel
theorem dX10_as_10 : decode cX10_as 10 = .ok (.bipush 6, 2) := by decide +kernel
theorem dX10_as_12 : decode cX10_as 12 = .ok (.invokestatic 44, 3) := by decide +kernel
theorem dX10_as_15 : decode cX10_as 15 = .ok (.ifCond .ne 5, 3) := by decide +kernel
theorem dX10_as_18 : decode cX10_as 18 = .ok (.iconst (-1), 1) := by decide +kernel
theorem dX10_as_19 : decode cX10_as 19 = .ok (.ireturn, 1) := by decide +kernel
theorem dX10_as_20 : decode cX10_as 20 = .ok (.aload_n 0, 1) := by decide +kernel
theorem dX10_as_21 : decode cX10_as 21 = .ok (.getfield 9, 3) := by decide +kernel
theorem dX10_as_24 : decode cX10_as 24 = .ok (.sipush 170, 3) := by decide +kernel
theorem dX10_as_27 : decode cX10_as 27 = .ok (.iload_n 1, 1) := by decide +kernel
theorem dX10_as_28 : decode cX10_as 28 = .ok (.iadd, 1) := by decide +kernel
theorem dX10_as_29 : decode cX10_as 29 = .ok (.iaload, 1) := by decide +kernel
theorem dX10_as_30 : decode cX10_as 30 = .ok (.iload_n 2, 1) := by decide +kernel
theorem dX10_as_31 : decode cX10_as 31 = .ok (.invokestatic 272, 3) := by decide +kernel
theorem dX10_as_34 : decode cX10_as 34 = .ok (.ifCond .eq 16, 3) := by decide +kernel
theorem dX10_as_37 : decode cX10_as 37 = .ok (.aload_n 0, 1) := by decide +kernel
theorem dX10_as_38 : decode cX10_as 38 = .ok (.getfield 9, 3) := by decide +kernel
theorem dX10_as_41 : decode cX10_as 41 = .ok (.sipush 178, 3) := by decide +kernel
theorem dX10_as_44 : decode cX10_as 44 = .ok (.iload_n 1, 1) := by decide +kernel
theorem dX10_as_45 : decode cX10_as 45 = .ok (.iadd, 1) := by decide +kernel
theorem dX10_as_46 : decode cX10_as 46 = .ok (.iaload, 1) := by decide +kernel
theorem dX10_as_47 : decode cX10_as 47 = .ok (.goto 5, 3) := by decide +kernel
theorem dX10_as_50 : decode cX10_as 50 = .ok (.bipush (-6), 2) := by decide +kernel
theorem dX10_as_52 : decode cX10_as 52 = .ok (.ireturn, 1) := by decide +kernel
def fX10_as_B18 (μ : vr_M) : Option (Int × vr_M) :=
  some ((-1), μ)
def fX10_as_B52 (y0 : Int) (μ : vr_M) : Option (Int × vr_M) :=
  some (y0, μ)
def fX10_as (a0 : Int) (a1 : Int) (μ : vr_M) : Option (Int × vr_M) :=
  (fX10_isRule a0 μ).bind (fun r1 => if r1.1 = 0 then fX10_as_B18 r1.2 else (fX10_in a1 0 6 r1.2).bind (fun r2 => if ¬ r2.1 = 0 then vr_gd (0 ≤ (170 + a0) ∧ (170 + a0) < 933) (vr_gd (vr_R (r2.2 69 (170 + a0).toNat)) ((fX10_isUnder (r2.2 69 (170 + a0).toNat) a1 r2.2).bind (fun r5 => if r5.1 = 0 then fX10_as_B52 (-6) r5.2 else vr_gd (0 ≤ (178 + a0) ∧ (178 + a0) < 933) (vr_gd (vr_R (r5.2 69 (178 + a0).toNat)) (fX10_as_B52 (r5.2 69 (178 + a0).toNat) r5.2))))) else fX10_as_B18 r2.2))
set_option maxRecDepth 100000 in
set_option maxHeartbeats 4000000 in
theorem ct_X10_as (l : Launch) (G : vr_G) (a0 : Int) (h_a0 : vr_R a0) (a1 : Int) (h_a1 : vr_R a1) (μ : vr_M) : vr_CI l yX10_as cX10_as 3 (some .int) ({ frames := 2, cells := 0, slots := 0, locals := 43 } : Room) G [.ref (vr_ad G 68), .int (vr_I a0), .int (vr_I a1)] μ (fX10_as a0 a1 μ) := by
  refine vr_start (own := RX10) (by decide) rfl (Nat.le_of_ble_eq_true rfl) (fun p e s m args below meth c C0 => ?_)
  show vr_J p l e _ s m args below meth c 3 0 0 G (vr_Z (vr_QI G) G args s below) 0 [(0, .ref (vr_ad G 68)), (1, .int (vr_I a0)), (2, .int (vr_I a1))] [] μ _
  have B18 : ∀ (μ : vr_M), vr_J p l e ({ frames := 2, cells := 0, slots := 0, locals := 43 } : Room) s m args below meth c 3 0 0 G (vr_Z (vr_QI G) G args s below) 18 [] [] μ (fX10_as_B18 μ) := by
    intro μ
    unfold fX10_as_B18
    refine jr_iconst C0 dX10_as_18 ?_
    exact jr_iret C0 (⟨by decide, by decide⟩) dX10_as_19
  have B52 : ∀ (y0 : Int) (h_y0 : vr_R y0) (μ : vr_M), vr_J p l e ({ frames := 2, cells := 0, slots := 0, locals := 43 } : Room) s m args below meth c 3 0 0 G (vr_Z (vr_QI G) G args s below) 52 [] [.int (vr_I y0)] μ (fX10_as_B52 y0 μ) := by
    intro y0 h_y0 μ
    unfold fX10_as_B52
    exact jr_iret C0 h_y0 dX10_as_52
  unfold fX10_as
  refine jr_aload_n C0 0 dX10_as_0 rfl rfl ?_
  refine jr_iload_n C0 1 dX10_as_1 rfl rfl ?_
  refine jr_vI C0 (by decide) kd_68 (by decide) rfl (ct_X10_isRule l G a0 h_a0 _) mi_X10_isRule wm_X10_190 ⟨Nat.le_of_ble_eq_true rfl, Nat.le_of_ble_eq_true rfl⟩ ⟨rfl, rfl⟩ (As := [.int (vr_I a0)]) rfl (st := []) rfl (Nat.le_of_ble_eq_true rfl) dX10_as_2 (fun r1 hr1 => ?_)
  refine jr_if_eq C0 hr1 dX10_as_5 (tgt := 18) (by decide) ?_ ?_
  · refine jr_sub [] rfl ?_
    exact B18 _
  refine jr_iload_n C0 2 dX10_as_8 rfl rfl ?_
  refine jr_iconst C0 dX10_as_9 ?_
  refine jr_bipush C0 dX10_as_10 rfl ?_
  refine jr_sI C0 (ct_X10_in l G a1 h_a1 0 (⟨by decide, by decide⟩) 6 (⟨by decide, by decide⟩) _) mi_X10_in wm_X10_44 ⟨Nat.le_of_ble_eq_true rfl, Nat.le_of_ble_eq_true rfl⟩ ⟨rfl, rfl⟩ (As := [.int (vr_I a1), .int (vr_I 0), .int (vr_I 6)]) rfl (st := []) rfl (Nat.le_of_ble_eq_true rfl) dX10_as_12 (fun r2 hr2 => ?_)
  refine jr_if_ne C0 hr2 dX10_as_15 (tgt := 20) (by decide) ?_ ?_
  · refine jr_aload_n C0 0 dX10_as_20 rfl rfl ?_
    refine jr_getr C0 (by decide) kd_68 (by decide) rfl wx_X10 (i := 1) (by decide) wf_X10_9 (j := 69) rfl dX10_as_21 ?_
    refine jr_sipush C0 dX10_as_24 rfl ?_
    refine jr_iload_n C0 1 dX10_as_27 rfl rfl ?_
    refine jr_iadd C0 dX10_as_28 ?_
    refine jr_gd (fun g3 => ?_)
    refine jr_iald C0 (by decide) kd_69 kl_69 g3 (j := (170 + a0).toNat) rfl dX10_as_29 ?_
    refine jr_iload_n C0 2 dX10_as_30 rfl rfl ?_
    refine jr_gd (fun g4 => ?_)
    refine jr_sI C0 (ct_X10_isUnder l G (r2.2 69 (170 + a0).toNat) g4 a1 h_a1 _) mi_X10_isUnder wm_X10_272 ⟨Nat.le_of_ble_eq_true rfl, Nat.le_of_ble_eq_true rfl⟩ ⟨rfl, rfl⟩ (As := [.int (vr_I (r2.2 69 (170 + a0).toNat)), .int (vr_I a1)]) rfl (st := []) rfl (Nat.le_of_ble_eq_true rfl) dX10_as_31 (fun r5 hr5 => ?_)
    refine jr_if_eq C0 hr5 dX10_as_34 (tgt := 50) (by decide) ?_ ?_
    · refine jr_bipush C0 dX10_as_50 rfl ?_
      refine jr_sub [] rfl ?_
      exact B52 (-6) (⟨by decide, by decide⟩) _
    refine jr_aload_n C0 0 dX10_as_37 rfl rfl ?_
    refine jr_getr C0 (by decide) kd_68 (by decide) rfl wx_X10 (i := 1) (by decide) wf_X10_9 (j := 69) rfl dX10_as_38 ?_
    refine jr_sipush C0 dX10_as_41 rfl ?_
    refine jr_iload_n C0 1 dX10_as_44 rfl rfl ?_
    refine jr_iadd C0 dX10_as_45 ?_
    refine jr_gd (fun g6 => ?_)
    refine jr_iald C0 (by decide) kd_69 kl_69 g6 (j := (178 + a0).toNat) rfl dX10_as_46 ?_
    refine jr_goto C0 dX10_as_47 (tgt := 52) (by decide) ?_
    refine jr_gd (fun g7 => ?_)
    refine jr_sub [] rfl ?_
    exact B52 (r5.2 69 (178 + a0).toNat) g7 _
  refine jr_sub [] rfl ?_
  exact B18 _
theorem dX10_image_0 : decode cX10_image 0 = .ok (.iconst 0, 1) := by decide +kernel
theorem dX10_image_1 : decode cX10_image 1 = .ok (.istore_n 1, 1) := by decide +kernel
theorem dX10_image_2 : decode cX10_image 2 = .ok (.iload_n 1, 1) := by decide +kernel
theorem dX10_image_3 : decode cX10_image 3 = .ok (.sipush 933, 3) := by decide +kernel
theorem dX10_image_6 : decode cX10_image 6 = .ok (.if_icmp .ge 21, 3) := by decide +kernel
theorem dX10_image_9 : decode cX10_image 9 = .ok (.aload_n 0, 1) := by decide +kernel
theorem dX10_image_10 : decode cX10_image 10 = .ok (.getfield 15, 3) := by decide +kernel
theorem dX10_image_13 : decode cX10_image 13 = .ok (.iload_n 1, 1) := by decide +kernel
theorem dX10_image_14 : decode cX10_image 14 = .ok (.aload_n 0, 1) := by decide +kernel
theorem dX10_image_15 : decode cX10_image 15 = .ok (.getfield 9, 3) := by decide +kernel
theorem dX10_image_18 : decode cX10_image 18 = .ok (.iload_n 1, 1) := by decide +kernel
theorem dX10_image_19 : decode cX10_image 19 = .ok (.iaload, 1) := by decide +kernel
theorem dX10_image_20 : decode cX10_image 20 = .ok (.iastore, 1) := by decide +kernel
theorem dX10_image_21 : decode cX10_image 21 = .ok (.iinc 1 1, 3) := by decide +kernel
theorem dX10_image_24 : decode cX10_image 24 = .ok (.goto (-22), 3) := by decide +kernel
theorem dX10_image_27 : decode cX10_image 27 = .ok (.aload_n 0, 1) := by decide +kernel
theorem dX10_image_28 : decode cX10_image 28 = .ok (.iconst 1, 1) := by decide +kernel
theorem dX10_image_29 : decode cX10_image 29 = .ok (.putfield 288, 3) := by decide +kernel
theorem dX10_image_32 : decode cX10_image 32 = .ok (.aload_n 0, 1) := by decide +kernel
theorem dX10_image_33 : decode cX10_image 33 = .ok (.getfield 9, 3) := by decide +kernel
theorem dX10_image_36 : decode cX10_image 36 = .ok (.iconst 0, 1) := by decide +kernel
theorem dX10_image_37 : decode cX10_image 37 = .ok (.iaload, 1) := by decide +kernel
theorem dX10_image_38 : decode cX10_image 38 = .ok (.ireturn, 1) := by decide +kernel
def fX10_image_L2 : Nat → Int → vr_M → Option (Int × vr_M)
  | 0, _, _ => none
  | n + 1, x1, μ => if 933 ≤ x1 then vr_let (vr_u μ 68 4 1) (fun μ1 => vr_gd (vr_R (μ1 69 0)) (some (μ1 69 0, μ1))) else vr_gd (0 ≤ x1 ∧ x1 < 933) (vr_gd (vr_R (x1 + 1)) ((fX10_image_L2 n) (x1 + 1) (vr_u μ 70 x1.toNat (μ 69 x1.toNat))))
def fX10_image (μ : vr_M) : Option (Int × vr_M) :=
  fX10_image_L2 9000 0 μ
set_option maxRecDepth 100000 in
set_option maxHeartbeats 4000000 in
theorem ct_X10_image (l : Launch) (G : vr_G) (μ : vr_M) : vr_CI l yX10_image cX10_image 2 (some .int) ({ frames := 0, cells := 0, slots := 0, locals := 0 } : Room) G [.ref (vr_ad G 68)] μ (fX10_image μ) := by
  refine vr_start (own := RX10) (by decide) rfl (Nat.le_of_ble_eq_true rfl) (fun p e s m args below meth c C0 => ?_)
  show vr_J p l e _ s m args below meth c 2 0 0 G (vr_Z (vr_QI G) G args s below) 0 [(0, .ref (vr_ad G 68))] [] μ _
  have L2 : ∀ (n : Nat) (x1 : Int) (h_x1 : vr_R x1) (μ : vr_M), vr_J p l e ({ frames := 0, cells := 0, slots := 0, locals := 0 } : Room) s m args below meth c 2 0 0 G (vr_Z (vr_QI G) G args s below) 2 [(0, .ref (vr_ad G 68)), (1, .int (vr_I x1))] [] μ (fX10_image_L2 n x1 μ) := by
    intro n2
    induction n2 with
    | zero => intros; exact jr_none
    | succ n2 ih2 =>
      intro x1 h_x1 μ
      rw [fX10_image_L2.eq_2]
      refine jr_iload_n C0 1 dX10_image_2 rfl rfl ?_
      refine jr_sipush C0 dX10_image_3 rfl ?_
      refine jr_icmp_ge C0 h_x1 (⟨by decide, by decide⟩) dX10_image_6 (tgt := 27) (by decide) ?_ ?_
      · refine jr_aload_n C0 0 dX10_image_27 rfl rfl ?_
        refine jr_iconst C0 dX10_image_28 ?_
        refine jr_puti C0 (by decide) kd_68 (by decide) rfl wx_X10 (i := 4) (by decide) wf_X10_288 rfl tyX10_ok nmX10 rfl (vr_nz (Or.inr rfl)) ((vr_fz .boolean (Or.inr rfl) (fun _ => (Or.inr rfl))).2) dX10_image_29 ?_
        refine jr_aload_n C0 0 dX10_image_32 rfl rfl ?_
        refine jr_getr C0 (by decide) kd_68 (by decide) rfl wx_X10 (i := 1) (by decide) wf_X10_9 (j := 69) rfl dX10_image_33 ?_
        refine jr_iconst C0 dX10_image_36 ?_
        refine jr_let (fun μ1 => ?_)
        refine jr_iald C0 (by decide) kd_69 kl_69 (by decide) (j := 0) rfl dX10_image_37 ?_
        refine jr_gd (fun g2 => ?_)
        exact jr_iret C0 g2 dX10_image_38
      refine jr_aload_n C0 0 dX10_image_9 rfl rfl ?_
      refine jr_getr C0 (by decide) kd_68 (by decide) rfl wx_X10 (i := 2) (by decide) wf_X10_15 (j := 70) rfl dX10_image_10 ?_
      refine jr_iload_n C0 1 dX10_image_13 rfl rfl ?_
      refine jr_aload_n C0 0 dX10_image_14 rfl rfl ?_
      refine jr_getr C0 (by decide) kd_68 (by decide) rfl wx_X10 (i := 1) (by decide) wf_X10_9 (j := 69) rfl dX10_image_15 ?_
      refine jr_iload_n C0 1 dX10_image_18 rfl rfl ?_
      refine jr_gd (fun g3 => ?_)
      refine jr_iald C0 (by decide) kd_69 kl_69 g3 (j := x1.toNat) rfl dX10_image_19 ?_
      refine jr_iast C0 (by decide) kd_70 kl_70 g3 (j := x1.toNat) rfl dX10_image_20 ?_
      refine jr_iinc C0 (q := 1) dX10_image_21 rfl (by decide) (lv' := [(1, .int (vr_I (x1 + 1))), (0, .ref (vr_ad G 68))]) rfl ?_
      refine jr_goto C0 dX10_image_24 (tgt := 2) (by decide) ?_
      refine jr_gd (fun g4 => ?_)
      refine jr_sub [1, 0] rfl ?_
      exact ih2 (x1 + 1) g4 _
  unfold fX10_image
  refine jr_iconst C0 dX10_image_0 ?_
  refine jr_istore_n C0 dX10_image_1 rfl (by decide) (lv' := [(1, .int (vr_I 0)), (0, .ref (vr_ad G 68))]) rfl ?_
  refine jr_sub [1, 0] rfl ?_
  exact L2 9000 0 (⟨by decide, by decide⟩) _
theorem dX10_undo_0 : decode cX10_undo 0 = .ok (.aload_n 0, 1) := by decide +kernel
theorem dX10_undo_1 : decode cX10_undo 1 = .ok (.getfield 288, 3) := by decide +kernel
theorem dX10_undo_4 : decode cX10_undo 4 = .ok (.ifCond .ne 6, 3) := by decide +kernel
theorem dX10_undo_7 : decode cX10_undo 7 = .ok (.bipush (-3), 2) := by decide +kernel
theorem dX10_undo_9 : decode cX10_undo 9 = .ok (.ireturn, 1) := by decide +kernel
theorem dX10_undo_10 : decode cX10_undo 10 = .ok (.iconst 0, 1) := by decide +kernel
theorem dX10_undo_11 : decode cX10_undo 11 = .ok (.istore_n 1, 1) := by decide +kernel
theorem dX10_undo_12 : decode cX10_undo 12 = .ok (.iload_n 1, 1) := by decide +kernel
theorem dX10_undo_13 : decode cX10_undo 13 = .ok (.sipush 933, 3) := by decide +kernel
theorem dX10_undo_16 : decode cX10_undo 16 = .ok (.if_icmp .ge 21, 3) := by decide +kernel
theorem dX10_undo_19 : decode cX10_undo 19 = .ok (.aload_n 0, 1) := by decide +kernel
theorem dX10_undo_20 : decode cX10_undo 20 = .ok (.getfield 9, 3) := by decide +kernel
theorem dX10_undo_23 : decode cX10_undo 23 = .ok (.iload_n 1, 1) := by decide +kernel
theorem dX10_undo_24 : decode cX10_undo 24 = .ok (.aload_n 0, 1) := by decide +kernel
theorem dX10_undo_25 : decode cX10_undo 25 = .ok (.getfield 15, 3) := by decide +kernel
theorem dX10_undo_28 : decode cX10_undo 28 = .ok (.iload_n 1, 1) := by decide +kernel
theorem dX10_undo_29 : decode cX10_undo 29 = .ok (.iaload, 1) := by decide +kernel
theorem dX10_undo_30 : decode cX10_undo 30 = .ok (.iastore, 1) := by decide +kernel
theorem dX10_undo_31 : decode cX10_undo 31 = .ok (.iinc 1 1, 3) := by decide +kernel
theorem dX10_undo_34 : decode cX10_undo 34 = .ok (.goto (-22), 3) := by decide +kernel
theorem dX10_undo_37 : decode cX10_undo 37 = .ok (.aload_n 0, 1) := by decide +kernel
theorem dX10_undo_38 : decode cX10_undo 38 = .ok (.getfield 9, 3) := by decide +kernel
theorem dX10_undo_41 : decode cX10_undo 41 = .ok (.iconst 0, 1) := by decide +kernel
theorem dX10_undo_42 : decode cX10_undo 42 = .ok (.iaload, 1) := by decide +kernel
theorem dX10_undo_43 : decode cX10_undo 43 = .ok (.ireturn, 1) := by decide +kernel
def fX10_undo_L12 : Nat → Int → vr_M → Option (Int × vr_M)
  | 0, _, _ => none
  | n + 1, x1, μ => if 933 ≤ x1 then vr_gd (vr_R (μ 69 0)) (some (μ 69 0, μ)) else vr_gd (0 ≤ x1 ∧ x1 < 933) (vr_gd (vr_R (x1 + 1)) ((fX10_undo_L12 n) (x1 + 1) (vr_u μ 69 x1.toNat (μ 70 x1.toNat))))
def fX10_undo (μ : vr_M) : Option (Int × vr_M) :=
  vr_gd (vr_R (μ 68 4)) (if ¬ (μ 68 4) = 0 then fX10_undo_L12 9000 0 μ else some ((-3), μ))
set_option maxRecDepth 100000 in
set_option maxHeartbeats 4000000 in
theorem ct_X10_undo (l : Launch) (G : vr_G) (μ : vr_M) : vr_CI l yX10_undo cX10_undo 2 (some .int) ({ frames := 0, cells := 0, slots := 0, locals := 0 } : Room) G [.ref (vr_ad G 68)] μ (fX10_undo μ) := by
  refine vr_start (own := RX10) (by decide) rfl (Nat.le_of_ble_eq_true rfl) (fun p e s m args below meth c C0 => ?_)
  show vr_J p l e _ s m args below meth c 2 0 0 G (vr_Z (vr_QI G) G args s below) 0 [(0, .ref (vr_ad G 68))] [] μ _
  have L12 : ∀ (n : Nat) (x1 : Int) (h_x1 : vr_R x1) (μ : vr_M), vr_J p l e ({ frames := 0, cells := 0, slots := 0, locals := 0 } : Room) s m args below meth c 2 0 0 G (vr_Z (vr_QI G) G args s below) 12 [(0, .ref (vr_ad G 68)), (1, .int (vr_I x1))] [] μ (fX10_undo_L12 n x1 μ) := by
    intro n12
    induction n12 with
    | zero => intros; exact jr_none
    | succ n12 ih12 =>
      intro x1 h_x1 μ
      rw [fX10_undo_L12.eq_2]
      refine jr_iload_n C0 1 dX10_undo_12 rfl rfl ?_
      refine jr_sipush C0 dX10_undo_13 rfl ?_
      refine jr_icmp_ge C0 h_x1 (⟨by decide, by decide⟩) dX10_undo_16 (tgt := 37) (by decide) ?_ ?_
      · refine jr_aload_n C0 0 dX10_undo_37 rfl rfl ?_
        refine jr_getr C0 (by decide) kd_68 (by decide) rfl wx_X10 (i := 1) (by decide) wf_X10_9 (j := 69) rfl dX10_undo_38 ?_
        refine jr_iconst C0 dX10_undo_41 ?_
        refine jr_iald C0 (by decide) kd_69 kl_69 (by decide) (j := 0) rfl dX10_undo_42 ?_
        refine jr_gd (fun g1 => ?_)
        exact jr_iret C0 g1 dX10_undo_43
      refine jr_aload_n C0 0 dX10_undo_19 rfl rfl ?_
      refine jr_getr C0 (by decide) kd_68 (by decide) rfl wx_X10 (i := 1) (by decide) wf_X10_9 (j := 69) rfl dX10_undo_20 ?_
      refine jr_iload_n C0 1 dX10_undo_23 rfl rfl ?_
      refine jr_aload_n C0 0 dX10_undo_24 rfl rfl ?_
      refine jr_getr C0 (by decide) kd_68 (by decide) rfl wx_X10 (i := 2) (by decide) wf_X10_15 (j := 70) rfl dX10_undo_25 ?_
      refine jr_iload_n C0 1 dX10_undo_28 rfl rfl ?_
      refine jr_gd (fun g2 => ?_)
      refine jr_iald C0 (by decide) kd_70 kl_70 g2 (j := x1.toNat) rfl dX10_undo_29 ?_
      refine jr_iast C0 (by decide) kd_69 kl_69 g2 (j := x1.toNat) rfl dX10_undo_30 ?_
      refine jr_iinc C0 (q := 1) dX10_undo_31 rfl (by decide) (lv' := [(1, .int (vr_I (x1 + 1))), (0, .ref (vr_ad G 68))]) rfl ?_
      refine jr_goto C0 dX10_undo_34 (tgt := 12) (by decide) ?_
      refine jr_gd (fun g3 => ?_)
      refine jr_sub [1, 0] rfl ?_
      exact ih12 (x1 + 1) g3 _
  unfold fX10_undo
  refine jr_aload_n C0 0 dX10_undo_0 rfl rfl ?_
  refine jr_geti C0 (by decide) kd_68 (by decide) rfl wx_X10 (i := 4) (by decide) wf_X10_288 rfl dX10_undo_1 ?_
  refine jr_gd (fun g4 => ?_)
  refine jr_if_ne C0 g4 dX10_undo_4 (tgt := 10) (by decide) ?_ ?_
  · refine jr_iconst C0 dX10_undo_10 ?_
    refine jr_istore_n C0 dX10_undo_11 rfl (by decide) (lv' := [(1, .int (vr_I 0)), (0, .ref (vr_ad G 68))]) rfl ?_
    refine jr_sub [1, 0] rfl ?_
    exact L12 9000 0 (⟨by decide, by decide⟩) _
  refine jr_bipush C0 dX10_undo_7 rfl ?_
  exact jr_iret C0 (⟨by decide, by decide⟩) dX10_undo_9
theorem dX10_count_0 : decode cX10_count 0 = .ok (.iload_n 1, 1) := by decide +kernel
theorem dX10_count_1 : decode cX10_count 1 = .ok (.tableswitch 102 0 7 #[47, 54, 61, 68, 75, 82, 89, 97], 47) := by decide +kernel
theorem dX10_count_48 : decode cX10_count 48 = .ok (.aload_n 0, 1) := by decide +kernel
theorem dX10_count_49 : decode cX10_count 49 = .ok (.getfield 9, 3) := by decide +kernel
theorem dX10_count_52 : decode cX10_count 52 = .ok (.iconst 0, 1) := by decide +kernel
theorem dX10_count_53 : decode cX10_count 53 = .ok (.iaload, 1) := by decide +kernel
theorem dX10_count_54 : decode cX10_count 54 = .ok (.ireturn, 1) := by decide +kernel
theorem dX10_count_55 : decode cX10_count 55 = .ok (.aload_n 0, 1) := by decide +kernel
theorem dX10_count_56 : decode cX10_count 56 = .ok (.getfield 9, 3) := by decide +kernel
theorem dX10_count_59 : decode cX10_count 59 = .ok (.iconst 1, 1) := by decide +kernel
theorem dX10_count_60 : decode cX10_count 60 = .ok (.iaload, 1) := by decide +kernel
theorem dX10_count_61 : decode cX10_count 61 = .ok (.ireturn, 1) := by decide +kernel
theorem dX10_count_62 : decode cX10_count 62 = .ok (.aload_n 0, 1) := by decide +kernel
theorem dX10_count_63 : decode cX10_count 63 = .ok (.getfield 9, 3) := by decide +kernel
theorem dX10_count_66 : decode cX10_count 66 = .ok (.iconst 2, 1) := by decide +kernel
theorem dX10_count_67 : decode cX10_count 67 = .ok (.iaload, 1) := by decide +kernel
theorem dX10_count_68 : decode cX10_count 68 = .ok (.ireturn, 1) := by decide +kernel
theorem dX10_count_69 : decode cX10_count 69 = .ok (.aload_n 0, 1) := by decide +kernel
theorem dX10_count_70 : decode cX10_count 70 = .ok (.getfield 9, 3) := by decide +kernel
theorem dX10_count_73 : decode cX10_count 73 = .ok (.iconst 3, 1) := by decide +kernel
theorem dX10_count_74 : decode cX10_count 74 = .ok (.iaload, 1) := by decide +kernel
theorem dX10_count_75 : decode cX10_count 75 = .ok (.ireturn, 1) := by decide +kernel
theorem dX10_count_76 : decode cX10_count 76 = .ok (.aload_n 0, 1) := by decide +kernel
theorem dX10_count_77 : decode cX10_count 77 = .ok (.getfield 9, 3) := by decide +kernel
theorem dX10_count_80 : decode cX10_count 80 = .ok (.iconst 4, 1) := by decide +kernel
theorem dX10_count_81 : decode cX10_count 81 = .ok (.iaload, 1) := by decide +kernel
theorem dX10_count_82 : decode cX10_count 82 = .ok (.ireturn, 1) := by decide +kernel
theorem dX10_count_83 : decode cX10_count 83 = .ok (.aload_n 0, 1) := by decide +kernel
theorem dX10_count_84 : decode cX10_count 84 = .ok (.getfield 9, 3) := by decide +kernel
theorem dX10_count_87 : decode cX10_count 87 = .ok (.iconst 5, 1) := by decide +kernel
theorem dX10_count_88 : decode cX10_count 88 = .ok (.iaload, 1) := by decide +kernel
theorem dX10_count_89 : decode cX10_count 89 = .ok (.ireturn, 1) := by decide +kernel
theorem dX10_count_90 : decode cX10_count 90 = .ok (.aload_n 0, 1) := by decide +kernel
theorem dX10_count_91 : decode cX10_count 91 = .ok (.getfield 9, 3) := by decide +kernel
theorem dX10_count_94 : decode cX10_count 94 = .ok (.bipush 6, 2) := by decide +kernel
theorem dX10_count_96 : decode cX10_count 96 = .ok (.iaload, 1) := by decide +kernel
theorem dX10_count_97 : decode cX10_count 97 = .ok (.ireturn, 1) := by decide +kernel
theorem dX10_count_98 : decode cX10_count 98 = .ok (.aload_n 0, 1) := by decide +kernel
theorem dX10_count_99 : decode cX10_count 99 = .ok (.getfield 245, 3) := by decide +kernel
theorem dX10_count_102 : decode cX10_count 102 = .ok (.ireturn, 1) := by decide +kernel
theorem dX10_count_103 : decode cX10_count 103 = .ok (.iconst (-1), 1) := by decide +kernel
theorem dX10_count_104 : decode cX10_count 104 = .ok (.ireturn, 1) := by decide +kernel
def fX10_count (a0 : Int) (μ : vr_M) : Option (Int × vr_M) :=
  vr_sw a0 0 [vr_gd (vr_R (μ 69 0)) (some (μ 69 0, μ)), vr_gd (vr_R (μ 69 1)) (some (μ 69 1, μ)), vr_gd (vr_R (μ 69 2)) (some (μ 69 2, μ)), vr_gd (vr_R (μ 69 3)) (some (μ 69 3, μ)), vr_gd (vr_R (μ 69 4)) (some (μ 69 4, μ)), vr_gd (vr_R (μ 69 5)) (some (μ 69 5, μ)), vr_gd (vr_R (μ 69 6)) (some (μ 69 6, μ)), vr_gd (vr_R (μ 68 22)) (some (μ 68 22, μ))] (some ((-1), μ))
set_option maxRecDepth 100000 in
set_option maxHeartbeats 4000000 in
theorem ct_X10_count (l : Launch) (G : vr_G) (a0 : Int) (h_a0 : vr_R a0) (μ : vr_M) : vr_CI l yX10_count cX10_count 2 (some .int) ({ frames := 0, cells := 0, slots := 0, locals := 0 } : Room) G [.ref (vr_ad G 68), .int (vr_I a0)] μ (fX10_count a0 μ) := by
  refine vr_start (own := RX10) (by decide) rfl (Nat.le_of_ble_eq_true rfl) (fun p e s m args below meth c C0 => ?_)
  show vr_J p l e _ s m args below meth c 2 0 0 G (vr_Z (vr_QI G) G args s below) 0 [(0, .ref (vr_ad G 68)), (1, .int (vr_I a0))] [] μ _
  unfold fX10_count
  refine jr_iload_n C0 1 dX10_count_0 rfl rfl ?_
  refine jr_tsw C0 h_a0 dX10_count_1 (by decide) (td := 103) (by decide) (vr_TS_cons (tgt := 48) (by decide) ?_ (vr_TS_cons (tgt := 55) (by decide) ?_ (vr_TS_cons (tgt := 62) (by decide) ?_ (vr_TS_cons (tgt := 69) (by decide) ?_ (vr_TS_cons (tgt := 76) (by decide) ?_ (vr_TS_cons (tgt := 83) (by decide) ?_ (vr_TS_cons (tgt := 90) (by decide) ?_ (vr_TS_cons (tgt := 98) (by decide) ?_ vr_TS_nil)))))))) ?_
  · show vr_J p l e _ s m args below meth c _ _ _ G _ 48 _ _ _ _
    refine jr_aload_n C0 0 dX10_count_48 rfl rfl ?_
    refine jr_getr C0 (by decide) kd_68 (by decide) rfl wx_X10 (i := 1) (by decide) wf_X10_9 (j := 69) rfl dX10_count_49 ?_
    refine jr_iconst C0 dX10_count_52 ?_
    refine jr_iald C0 (by decide) kd_69 kl_69 (by decide) (j := 0) rfl dX10_count_53 ?_
    refine jr_gd (fun g1 => ?_)
    exact jr_iret C0 g1 dX10_count_54
  · show vr_J p l e _ s m args below meth c _ _ _ G _ 55 _ _ _ _
    refine jr_aload_n C0 0 dX10_count_55 rfl rfl ?_
    refine jr_getr C0 (by decide) kd_68 (by decide) rfl wx_X10 (i := 1) (by decide) wf_X10_9 (j := 69) rfl dX10_count_56 ?_
    refine jr_iconst C0 dX10_count_59 ?_
    refine jr_iald C0 (by decide) kd_69 kl_69 (by decide) (j := 1) rfl dX10_count_60 ?_
    refine jr_gd (fun g2 => ?_)
    exact jr_iret C0 g2 dX10_count_61
  · show vr_J p l e _ s m args below meth c _ _ _ G _ 62 _ _ _ _
    refine jr_aload_n C0 0 dX10_count_62 rfl rfl ?_
    refine jr_getr C0 (by decide) kd_68 (by decide) rfl wx_X10 (i := 1) (by decide) wf_X10_9 (j := 69) rfl dX10_count_63 ?_
    refine jr_iconst C0 dX10_count_66 ?_
    refine jr_iald C0 (by decide) kd_69 kl_69 (by decide) (j := 2) rfl dX10_count_67 ?_
    refine jr_gd (fun g3 => ?_)
    exact jr_iret C0 g3 dX10_count_68
  · show vr_J p l e _ s m args below meth c _ _ _ G _ 69 _ _ _ _
    refine jr_aload_n C0 0 dX10_count_69 rfl rfl ?_
    refine jr_getr C0 (by decide) kd_68 (by decide) rfl wx_X10 (i := 1) (by decide) wf_X10_9 (j := 69) rfl dX10_count_70 ?_
    refine jr_iconst C0 dX10_count_73 ?_
    refine jr_iald C0 (by decide) kd_69 kl_69 (by decide) (j := 3) rfl dX10_count_74 ?_
    refine jr_gd (fun g4 => ?_)
    exact jr_iret C0 g4 dX10_count_75
  · show vr_J p l e _ s m args below meth c _ _ _ G _ 76 _ _ _ _
    refine jr_aload_n C0 0 dX10_count_76 rfl rfl ?_
    refine jr_getr C0 (by decide) kd_68 (by decide) rfl wx_X10 (i := 1) (by decide) wf_X10_9 (j := 69) rfl dX10_count_77 ?_
    refine jr_iconst C0 dX10_count_80 ?_
    refine jr_iald C0 (by decide) kd_69 kl_69 (by decide) (j := 4) rfl dX10_count_81 ?_
    refine jr_gd (fun g5 => ?_)
    exact jr_iret C0 g5 dX10_count_82
  · show vr_J p l e _ s m args below meth c _ _ _ G _ 83 _ _ _ _
    refine jr_aload_n C0 0 dX10_count_83 rfl rfl ?_
    refine jr_getr C0 (by decide) kd_68 (by decide) rfl wx_X10 (i := 1) (by decide) wf_X10_9 (j := 69) rfl dX10_count_84 ?_
    refine jr_iconst C0 dX10_count_87 ?_
    refine jr_iald C0 (by decide) kd_69 kl_69 (by decide) (j := 5) rfl dX10_count_88 ?_
    refine jr_gd (fun g6 => ?_)
    exact jr_iret C0 g6 dX10_count_89
  · show vr_J p l e _ s m args below meth c _ _ _ G _ 90 _ _ _ _
    refine jr_aload_n C0 0 dX10_count_90 rfl rfl ?_
    refine jr_getr C0 (by decide) kd_68 (by decide) rfl wx_X10 (i := 1) (by decide) wf_X10_9 (j := 69) rfl dX10_count_91 ?_
    refine jr_bipush C0 dX10_count_94 rfl ?_
    refine jr_iald C0 (by decide) kd_69 kl_69 (by decide) (j := 6) rfl dX10_count_96 ?_
    refine jr_gd (fun g7 => ?_)
    exact jr_iret C0 g7 dX10_count_97
  · show vr_J p l e _ s m args below meth c _ _ _ G _ 98 _ _ _ _
    refine jr_aload_n C0 0 dX10_count_98 rfl rfl ?_
    refine jr_geti C0 (by decide) kd_68 (by decide) rfl wx_X10 (i := 22) (by decide) wf_X10_245 rfl dX10_count_99 ?_
    refine jr_gd (fun g8 => ?_)
    exact jr_iret C0 g8 dX10_count_102
  refine jr_iconst C0 dX10_count_103 ?_
  exact jr_iret C0 (⟨by decide, by decide⟩) dX10_count_104
