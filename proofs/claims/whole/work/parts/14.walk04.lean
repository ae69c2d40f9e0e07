theorem dX9_lies_0 : decode cX9_lies 0 = .ok (.aload_n 0, 1) := by decide +kernel
theorem dX9_lies_1 : decode cX9_lies 1 = .ok (.getfield 12, 3) := by decide +kernel
theorem dX9_lies_4 : decode cX9_lies 4 = .ok (.getfield 70, 3) := by decide +kernel
theorem dX9_lies_7 : decode cX9_lies 7 = .ok (.iload_n 1, 1) := by decide +kernel
theorem dX9_lies_8 : decode cX9_lies 8 = .ok (.invokevirtual 84, 3) := by decide +kernel
theorem dX9_lies_11 : decode cX9_lies 11 = .ok (.ifCond .ne 5, 3) := by decide +kernel
theorem dX9_lies_14 : decode cX9_lies 14 = .ok (.iconst (-1), 1) := by decide +kernel
theorem dX9_lies_15 : decode cX9_lies 15 = .ok (.ireturn, 1) := by decide +kernel
theorem dX9_lies_16 : decode cX9_lies 16 = .ok (.iload_n 2, 1) := by decide +kernel
theorem dX9_lies_17 : decode cX9_lies 17 = .ok (.iconst 0, 1) := by decide +kernel
theorem dX9_lies_18 : decode cX9_lies 18 = .ok (.bipush 30, 2) := by decide +kernel
theorem dX9_lies_20 : decode cX9_lies 20 = .ok (.invokestatic 66, 3) := by decide +kernel
theorem dX9_lies_23 : decode cX9_lies 23 = .ok (.ifCond .ne 6, 3) := by decide +kernel
theorem dX9_lies_26 : decode cX9_lies 26 = .ok (.bipush (-2), 2) := by decide +kernel
theorem dX9_lies_28 : decode cX9_lies 28 = .ok (.ireturn, 1) := by decide +kernel
theorem dX9_lies_29 : decode cX9_lies 29 = .ok (.aload_n 0, 1) := by decide +kernel
theorem dX9_lies_30 : decode cX9_lies 30 = .ok (.getfield 12, 3) := by decide +kernel
theorem dX9_lies_33 : decode cX9_lies 33 = .ok (.getfield 70, 3) := by decide +kernel
theorem dX9_lies_36 : decode cX9_lies 36 = .ok (.getfield 98, 3) := by decide +kernel
theorem dX9_lies_39 : decode cX9_lies 39 = .ok (.iload_n 1, 1) := by decide +kernel
theorem dX9_lies_40 : decode cX9_lies 40 = .ok (.iaload, 1) := by decide +kernel
theorem dX9_lies_41 : decode cX9_lies 41 = .ok (.istore_n 3, 1) := by decide +kernel
theorem dX9_lies_42 : decode cX9_lies 42 = .ok (.aload_n 0, 1) := by decide +kernel
theorem dX9_lies_43 : decode cX9_lies 43 = .ok (.getfield 12, 3) := by decide +kernel
theorem dX9_lies_46 : decode cX9_lies 46 = .ok (.getfield 70, 3) := by decide +kernel
theorem dX9_lies_49 : decode cX9_lies 49 = .ok (.getfield 98, 3) := by decide +kernel
theorem dX9_lies_52 : decode cX9_lies 52 = .ok (.iload_n 1, 1) := by decide +kernel
theorem dX9_lies_53 : decode cX9_lies 53 = .ok (.iload_n 2, 1) := by decide +kernel
theorem dX9_lies_54 : decode cX9_lies 54 = .ok (.iastore, 1) := by decide +kernel
theorem dX9_lies_55 : decode cX9_lies 55 = .ok (.aload_n 0, 1) := by decide +kernel
theorem dX9_lies_56 : decode cX9_lies 56 = .ok (.getfield 12, 3) := by decide +kernel
theorem dX9_lies_59 : decode cX9_lies 59 = .ok (.getfield 70, 3) := by decide +kernel
theorem dX9_lies_62 : decode cX9_lies 62 = .ok (.getfield 95, 3) := by decide +kernel
theorem dX9_lies_65 : decode cX9_lies 65 = .ok (.iload_n 1, 1) := by decide +kernel
theorem dX9_lies_66 : decode cX9_lies 66 = .ok (.iconst 0, 1) := by decide +kernel
theorem dX9_lies_67 : decode cX9_lies 67 = .ok (.iastore, 1) := by decide +kernel
theorem dX9_lies_68 : decode cX9_lies 68 = .ok (.iload_n 3, 1) := by decide +kernel
theorem dX9_lies_69 : decode cX9_lies 69 = .ok (.ireturn, 1) := by decide +kernel
def fX9_lies (a0 : Int) (a1 : Int) (μ : vr_M) : Option (Int × vr_M) :=
  (fX2_has 2 a0 μ).bind (fun r1 => if ¬ r1.1 = 0 then (fX9_within a1 0 30 r1.2).bind (fun r2 => if ¬ r2.1 = 0 then vr_gd (0 ≤ a0 ∧ a0 < 8) (vr_gd (vr_R (r2.2 6 a0.toNat)) (some (r2.2 6 a0.toNat, vr_u (vr_u r2.2 6 a0.toNat a1) 5 a0.toNat 0))) else some ((-2), r2.2)) else some ((-1), r1.2))
set_option maxRecDepth 100000 in
set_option maxHeartbeats 4000000 in
theorem ct_X9_lies (l : Launch) (G : vr_G) (a0 : Int) (h_a0 : vr_R a0) (a1 : Int) (h_a1 : vr_R a1) (μ : vr_M) : vr_CI l yX9_lies cX9_lies 4 (some .int) ({ frames := 1, cells := 0, slots := 0, locals := 22 } : Room) G [.ref (vr_ad G 0), .int (vr_I a0), .int (vr_I a1)] μ (fX9_lies a0 a1 μ) := by
  refine vr_start (own := RX9) (by decide) rfl (Nat.le_of_ble_eq_true rfl) (fun p e s m args below meth c C0 => ?_)
  show vr_J p l e _ s m args below meth c 4 0 0 G (vr_Z (vr_QI G) G args s below) 0 [(0, .ref (vr_ad G 0)), (1, .int (vr_I a0)), (2, .int (vr_I a1))] [] μ _
  unfold fX9_lies
  refine jr_aload_n C0 0 dX9_lies_0 rfl rfl ?_
  refine jr_getr C0 (by decide) kd_0 (by decide) rfl wx_X9 (i := 0) (by decide) wf_X9_12 (j := 1) rfl dX9_lies_1 ?_
  refine jr_getr C0 (by decide) kd_1 (by decide) rfl wx_X8 (i := 0) (by decide) wf_X9_70 (j := 2) rfl dX9_lies_4 ?_
  refine jr_iload_n C0 1 dX9_lies_7 rfl rfl ?_
  refine jr_vI C0 (by decide) kd_2 (by decide) rfl (ct_X2_has l G (by decide) kd_2 a0 h_a0 _) mi_X2_has wm_X9_84 ⟨Nat.le_of_ble_eq_true rfl, Nat.le_of_ble_eq_true rfl⟩ ⟨rfl, rfl⟩ (As := [.int (vr_I a0)]) rfl (st := []) rfl (Nat.le_of_ble_eq_true rfl) dX9_lies_8 (fun r1 hr1 => ?_)
  refine jr_if_ne C0 hr1 dX9_lies_11 (tgt := 16) (by decide) ?_ ?_
  · refine jr_iload_n C0 2 dX9_lies_16 rfl rfl ?_
    refine jr_iconst C0 dX9_lies_17 ?_
    refine jr_bipush C0 dX9_lies_18 rfl ?_
    refine jr_sI C0 (ct_X9_within l G a1 h_a1 0 (⟨by decide, by decide⟩) 30 (⟨by decide, by decide⟩) _) mi_X9_within wm_X9_66 ⟨Nat.le_of_ble_eq_true rfl, Nat.le_of_ble_eq_true rfl⟩ ⟨rfl, rfl⟩ (As := [.int (vr_I a1), .int (vr_I 0), .int (vr_I 30)]) rfl (st := []) rfl (Nat.le_of_ble_eq_true rfl) dX9_lies_20 (fun r2 hr2 => ?_)
    refine jr_if_ne C0 hr2 dX9_lies_23 (tgt := 29) (by decide) ?_ ?_
    · refine jr_aload_n C0 0 dX9_lies_29 rfl rfl ?_
      refine jr_getr C0 (by decide) kd_0 (by decide) rfl wx_X9 (i := 0) (by decide) wf_X9_12 (j := 1) rfl dX9_lies_30 ?_
      refine jr_getr C0 (by decide) kd_1 (by decide) rfl wx_X8 (i := 0) (by decide) wf_X9_70 (j := 2) rfl dX9_lies_33 ?_
      refine jr_getr C0 (by decide) kd_2 (by decide) rfl wx_X2 (i := 3) (by decide) wf_X9_98 (j := 6) rfl dX9_lies_36 ?_
      refine jr_iload_n C0 1 dX9_lies_39 rfl rfl ?_
      refine jr_gd (fun g3 => ?_)
      refine jr_iald C0 (by decide) kd_6 kl_6 g3 (j := a0.toNat) rfl dX9_lies_40 ?_
      refine jr_istore_n C0 dX9_lies_41 rfl (by decide) (lv' := [(3, .int (vr_I (r2.2 6 a0.toNat))), (0, .ref (vr_ad G 0)), (1, .int (vr_I a0)), (2, .int (vr_I a1))]) rfl ?_
      refine jr_aload_n C0 1 dX9_lies_42 rfl rfl ?_
      refine jr_getr C0 (by decide) kd_0 (by decide) rfl wx_X9 (i := 0) (by decide) wf_X9_12 (j := 1) rfl dX9_lies_43 ?_
      refine jr_getr C0 (by decide) kd_1 (by decide) rfl wx_X8 (i := 0) (by decide) wf_X9_70 (j := 2) rfl dX9_lies_46 ?_
      refine jr_getr C0 (by decide) kd_2 (by decide) rfl wx_X2 (i := 3) (by decide) wf_X9_98 (j := 6) rfl dX9_lies_49 ?_
      refine jr_iload_n C0 2 dX9_lies_52 rfl rfl ?_
      refine jr_iload_n C0 3 dX9_lies_53 rfl rfl ?_
      refine jr_iast C0 (by decide) kd_6 kl_6 g3 (j := a0.toNat) rfl dX9_lies_54 ?_
      refine jr_aload_n C0 1 dX9_lies_55 rfl rfl ?_
      refine jr_getr C0 (by decide) kd_0 (by decide) rfl wx_X9 (i := 0) (by decide) wf_X9_12 (j := 1) rfl dX9_lies_56 ?_
      refine jr_getr C0 (by decide) kd_1 (by decide) rfl wx_X8 (i := 0) (by decide) wf_X9_70 (j := 2) rfl dX9_lies_59 ?_
      refine jr_getr C0 (by decide) kd_2 (by decide) rfl wx_X2 (i := 2) (by decide) wf_X9_95 (j := 5) rfl dX9_lies_62 ?_
      refine jr_iload_n C0 2 dX9_lies_65 rfl rfl ?_
      refine jr_iconst C0 dX9_lies_66 ?_
      refine jr_iast C0 (by decide) kd_5 kl_5 g3 (j := a0.toNat) rfl dX9_lies_67 ?_
      refine jr_iload_n C0 0 dX9_lies_68 rfl rfl ?_
      refine jr_gd (fun g4 => ?_)
      exact jr_iret C0 g4 dX9_lies_69
    refine jr_bipush C0 dX9_lies_26 rfl ?_
    exact jr_iret C0 (⟨by decide, by decide⟩) dX9_lies_28
  refine jr_iconst C0 dX9_lies_14 ?_
  exact jr_iret C0 (⟨by decide, by decide⟩) dX9_lies_15
theorem dX9_feed_0 : decode cX9_feed 0 = .ok (.iload_n 3, 1) := by decide +kernel
theorem dX9_feed_1 : decode cX9_feed 1 = .ok (.iconst 1, 1) := by decide +kernel
theorem dX9_feed_2 : decode cX9_feed 2 = .ok (.bipush 8, 2) := by decide +kernel
theorem dX9_feed_4 : decode cX9_feed 4 = .ok (.invokestatic 66, 3) := by decide +kernel
theorem dX9_feed_7 : decode cX9_feed 7 = .ok (.ifCond .ne 6, 3) := by decide +kernel
theorem dX9_feed_10 : decode cX9_feed 10 = .ok (.bipush (-2), 2) := by decide +kernel
theorem dX9_feed_12 : decode cX9_feed 12 = .ok (.ireturn, 1) := by decide +kernel
theorem dX9_feed_13 : decode cX9_feed 13 = .ok (.aload_n 0, 1) := by decide +kernel
theorem dX9_feed_14 : decode cX9_feed 14 = .ok (.getfield 12, 3) := by decide +kernel
theorem dX9_feed_17 : decode cX9_feed 17 = .ok (.getfield 30, 3) := by decide +kernel
theorem dX9_feed_20 : decode cX9_feed 20 = .ok (.getfield 104, 3) := by decide +kernel
theorem dX9_feed_23 : decode cX9_feed 23 = .ok (.iload_n 3, 1) := by decide +kernel
theorem dX9_feed_24 : decode cX9_feed 24 = .ok (.iadd, 1) := by decide +kernel
theorem dX9_feed_25 : decode cX9_feed 25 = .ok (.bipush 120, 2) := by decide +kernel
theorem dX9_feed_27 : decode cX9_feed 27 = .ok (.if_icmp .le 6, 3) := by decide +kernel
theorem dX9_feed_30 : decode cX9_feed 30 = .ok (.bipush (-4), 2) := by decide +kernel
theorem dX9_feed_32 : decode cX9_feed 32 = .ok (.ireturn, 1) := by decide +kernel
theorem dX9_feed_33 : decode cX9_feed 33 = .ok (.iload_n 3, 1) := by decide +kernel
theorem dX9_feed_34 : decode cX9_feed 34 = .ok (.iconst 1, 1) := by decide +kernel
theorem dX9_feed_35 : decode cX9_feed 35 = .ok (.isub, 1) := by decide +kernel
theorem dX9_feed_36 : decode cX9_feed 36 = .ok (.istore 4, 2) := by decide +kernel
theorem dX9_feed_38 : decode cX9_feed 38 = .ok (.iload 4, 2) := by decide +kernel
theorem dX9_feed_40 : decode cX9_feed 40 = .ok (.ifCond .lt 32, 3) := by decide +kernel
theorem dX9_feed_43 : decode cX9_feed 43 = .ok (.aload_n 0, 1) := by decide +kernel
theorem dX9_feed_44 : decode cX9_feed 44 = .ok (.getfield 12, 3) := by decide +kernel
theorem dX9_feed_47 : decode cX9_feed 47 = .ok (.getfield 30, 3) := by decide +kernel
theorem dX9_feed_50 : decode cX9_feed 50 = .ok (.lload_n 1, 1) := by decide +kernel
theorem dX9_feed_51 : decode cX9_feed 51 = .ok (.bipush 8, 2) := by decide +kernel
theorem dX9_feed_53 : decode cX9_feed 53 = .ok (.iload 4, 2) := by decide +kernel
theorem dX9_feed_55 : decode cX9_feed 55 = .ok (.imul, 1) := by decide +kernel
theorem dX9_feed_56 : decode cX9_feed 56 = .ok (.lushr, 1) := by decide +kernel
theorem dX9_feed_57 : decode cX9_feed 57 = .ok (.l2i, 1) := by decide +kernel
theorem dX9_feed_58 : decode cX9_feed 58 = .ok (.sipush 255, 3) := by decide +kernel
theorem dX9_feed_61 : decode cX9_feed 61 = .ok (.iand, 1) := by decide +kernel
theorem dX9_feed_62 : decode cX9_feed 62 = .ok (.invokevirtual 109, 3) := by decide +kernel
theorem dX9_feed_65 : decode cX9_feed 65 = .ok (.pop, 1) := by decide +kernel
theorem dX9_feed_66 : decode cX9_feed 66 = .ok (.iinc 4 (-1), 3) := by decide +kernel
theorem dX9_feed_69 : decode cX9_feed 69 = .ok (.goto (-31), 3) := by decide +kernel
theorem dX9_feed_72 : decode cX9_feed 72 = .ok (.aload_n 0, 1) := by decide +kernel
theorem dX9_feed_73 : decode cX9_feed 73 = .ok (.getfield 12, 3) := by decide +kernel
theorem dX9_feed_76 : decode cX9_feed 76 = .ok (.getfield 30, 3) := by decide +kernel
theorem dX9_feed_79 : decode cX9_feed 79 = .ok (.getfield 104, 3) := by decide +kernel
theorem dX9_feed_82 : decode cX9_feed 82 = .ok (.ireturn, 1) := by decide +kernel
def fX9_feed_L38 : Nat → Int64 → Int → vr_M → Option (Int × vr_M)
  | 0, _, _, _ => none
  | n + 1, x1, x4, μ => if x4 < 0 then vr_gd (vr_R (μ 13 1)) (some (μ 13 1, μ)) else (fX4_put 13 (vr_and (vr_l2i (vr_lushr x1 (8 * x4))) 255) μ).bind (fun r2 => vr_gd (vr_R (x4 + (-1))) ((fX9_feed_L38 n) x1 (x4 + (-1)) r2.2))
def fX9_feed (a0 : Int64) (a1 : Int) (μ : vr_M) : Option (Int × vr_M) :=
  (fX9_within a1 1 8 μ).bind (fun r4 => if ¬ r4.1 = 0 then vr_gd (vr_R ((r4.2 13 1) + a1)) (if ((r4.2 13 1) + a1) ≤ 120 then vr_gd (vr_R (a1 - 1)) (fX9_feed_L38 9000 a0 (a1 - 1) r4.2) else some ((-4), r4.2)) else some ((-2), r4.2))
set_option maxRecDepth 100000 in
set_option maxHeartbeats 4000000 in
theorem ct_X9_feed (l : Launch) (G : vr_G) (a0 : Int64) (a1 : Int) (h_a1 : vr_R a1) (μ : vr_M) : vr_CI l yX9_feed cX9_feed 5 (some .int) ({ frames := 1, cells := 0, slots := 0, locals := 22 } : Room) G [.ref (vr_ad G 0), .long a0, .int (vr_I a1)] μ (fX9_feed a0 a1 μ) := by
  refine vr_start (own := RX9) (by decide) rfl (Nat.le_of_ble_eq_true rfl) (fun p e s m args below meth c C0 => ?_)
  show vr_J p l e _ s m args below meth c 5 0 0 G (vr_Z (vr_QI G) G args s below) 0 [(0, .ref (vr_ad G 0)), (1, .long a0), (3, .int (vr_I a1))] [] μ _
  have L38 : ∀ (n : Nat) (x1 : Int64) (x4 : Int) (h_x4 : vr_R x4) (μ : vr_M), vr_J p l e ({ frames := 1, cells := 0, slots := 0, locals := 22 } : Room) s m args below meth c 5 0 0 G (vr_Z (vr_QI G) G args s below) 38 [(0, .ref (vr_ad G 0)), (1, .long x1), (4, .int (vr_I x4))] [] μ (fX9_feed_L38 n x1 x4 μ) := by
    intro n38
    induction n38 with
    | zero => intros; exact jr_none
    | succ n38 ih38 =>
      intro x1 x4 h_x4 μ
      rw [fX9_feed_L38.eq_2]
      refine jr_iload C0 2 dX9_feed_38 rfl ?_
      refine jr_if_lt C0 h_x4 dX9_feed_40 (tgt := 72) (by decide) ?_ ?_
      · refine jr_aload_n C0 0 dX9_feed_72 rfl rfl ?_
        refine jr_getr C0 (by decide) kd_0 (by decide) rfl wx_X9 (i := 0) (by decide) wf_X9_12 (j := 1) rfl dX9_feed_73 ?_
        refine jr_getr C0 (by decide) kd_1 (by decide) rfl wx_X8 (i := 2) (by decide) wf_X9_30 (j := 13) rfl dX9_feed_76 ?_
        refine jr_geti C0 (by decide) kd_13 (by decide) rfl wx_X4 (i := 1) (by decide) wf_X9_104 rfl dX9_feed_79 ?_
        refine jr_gd (fun g1 => ?_)
        exact jr_iret C0 g1 dX9_feed_82
      refine jr_aload_n C0 0 dX9_feed_43 rfl rfl ?_
      refine jr_getr C0 (by decide) kd_0 (by decide) rfl wx_X9 (i := 0) (by decide) wf_X9_12 (j := 1) rfl dX9_feed_44 ?_
      refine jr_getr C0 (by decide) kd_1 (by decide) rfl wx_X8 (i := 2) (by decide) wf_X9_30 (j := 13) rfl dX9_feed_47 ?_
      refine jr_lload_n C0 1 dX9_feed_50 rfl rfl ?_
      refine jr_bipush C0 dX9_feed_51 rfl ?_
      refine jr_iload C0 2 dX9_feed_53 rfl ?_
      refine jr_imul C0 dX9_feed_55 ?_
      refine jr_lushr C0 dX9_feed_56 ?_
      refine jr_l2i C0 dX9_feed_57 ?_
      refine jr_sipush C0 dX9_feed_58 rfl ?_
      refine jr_iand C0 dX9_feed_61 ?_
      refine jr_vI C0 (by decide) kd_13 (by decide) rfl (ct_X4_put l G (by decide) kd_13 (vr_and (vr_l2i (vr_lushr x1 (8 * x4))) 255) (vr_RT _) _) mi_X4_put wm_X9_109 ⟨Nat.le_of_ble_eq_true rfl, Nat.le_of_ble_eq_true rfl⟩ ⟨rfl, rfl⟩ (As := [.int (vr_I (vr_and (vr_l2i (vr_lushr x1 (8 * x4))) 255))]) rfl (st := []) rfl (Nat.le_of_ble_eq_true rfl) dX9_feed_62 (fun r2 hr2 => ?_)
      refine jr_pop C0 rfl dX9_feed_65 ?_
      refine jr_iinc C0 (q := 2) dX9_feed_66 rfl (by decide) (lv' := [(4, .int (vr_I (x4 + (-1)))), (0, .ref (vr_ad G 0)), (1, .long x1)]) rfl ?_
      refine jr_goto C0 dX9_feed_69 (tgt := 38) (by decide) ?_
      refine jr_gd (fun g3 => ?_)
      refine jr_sub [1, 2, 0] rfl ?_
      exact ih38 x1 (x4 + (-1)) g3 _
  unfold fX9_feed
  refine jr_iload_n C0 2 dX9_feed_0 rfl rfl ?_
  refine jr_iconst C0 dX9_feed_1 ?_
  refine jr_bipush C0 dX9_feed_2 rfl ?_
  refine jr_sI C0 (ct_X9_within l G a1 h_a1 1 (⟨by decide, by decide⟩) 8 (⟨by decide, by decide⟩) _) mi_X9_within wm_X9_66 ⟨Nat.le_of_ble_eq_true rfl, Nat.le_of_ble_eq_true rfl⟩ ⟨rfl, rfl⟩ (As := [.int (vr_I a1), .int (vr_I 1), .int (vr_I 8)]) rfl (st := []) rfl (Nat.le_of_ble_eq_true rfl) dX9_feed_4 (fun r4 hr4 => ?_)
  refine jr_if_ne C0 hr4 dX9_feed_7 (tgt := 13) (by decide) ?_ ?_
  · refine jr_aload_n C0 0 dX9_feed_13 rfl rfl ?_
    refine jr_getr C0 (by decide) kd_0 (by decide) rfl wx_X9 (i := 0) (by decide) wf_X9_12 (j := 1) rfl dX9_feed_14 ?_
    refine jr_getr C0 (by decide) kd_1 (by decide) rfl wx_X8 (i := 2) (by decide) wf_X9_30 (j := 13) rfl dX9_feed_17 ?_
    refine jr_geti C0 (by decide) kd_13 (by decide) rfl wx_X4 (i := 1) (by decide) wf_X9_104 rfl dX9_feed_20 ?_
    refine jr_iload_n C0 2 dX9_feed_23 rfl rfl ?_
    refine jr_iadd C0 dX9_feed_24 ?_
    refine jr_bipush C0 dX9_feed_25 rfl ?_
    refine jr_gd (fun g5 => ?_)
    refine jr_icmp_le C0 g5 (⟨by decide, by decide⟩) dX9_feed_27 (tgt := 33) (by decide) ?_ ?_
    · refine jr_iload_n C0 2 dX9_feed_33 rfl rfl ?_
      refine jr_iconst C0 dX9_feed_34 ?_
      refine jr_isub C0 dX9_feed_35 ?_
      refine jr_istore C0 dX9_feed_36 (by decide) (lv' := [(4, .int (vr_I (a1 - 1))), (0, .ref (vr_ad G 0)), (1, .long a0), (3, .int (vr_I a1))]) rfl ?_
      refine jr_gd (fun g6 => ?_)
      refine jr_sub [1, 2, 0] rfl ?_
      exact L38 9000 a0 (a1 - 1) g6 _
    refine jr_bipush C0 dX9_feed_30 rfl ?_
    exact jr_iret C0 (⟨by decide, by decide⟩) dX9_feed_32
  refine jr_bipush C0 dX9_feed_10 rfl ?_
  exact jr_iret C0 (⟨by decide, by decide⟩) dX9_feed_12
theorem dX9_land_0 : decode cX9_land 0 = .ok (.aload_n 0, 1) := by decide +kernel
theorem dX9_land_1 : decode cX9_land 1 = .ok (.getfield 12, 3) := by decide +kernel
theorem dX9_land_4 : decode cX9_land 4 = .ok (.getfield 113, 3) := by decide +kernel
theorem dX9_land_7 : decode cX9_land 7 = .ok (.iconst 5, 1) := by decide +kernel
theorem dX9_land_8 : decode cX9_land 8 = .ok (.if_icmp .lt 6, 3) := by decide +kernel
theorem dX9_land_11 : decode cX9_land 11 = .ok (.bipush (-4), 2) := by decide +kernel
theorem dX9_land_13 : decode cX9_land 13 = .ok (.ireturn, 1) := by decide +kernel
theorem dX9_land_14 : decode cX9_land 14 = .ok (.aload_n 0, 1) := by decide +kernel
theorem dX9_land_15 : decode cX9_land 15 = .ok (.getfield 37, 3) := by decide +kernel
theorem dX9_land_18 : decode cX9_land 18 = .ok (.invokevirtual 116, 3) := by decide +kernel
theorem dX9_land_21 : decode cX9_land 21 = .ok (.istore_n 1, 1) := by decide +kernel
theorem dX9_land_22 : decode cX9_land 22 = .ok (.aload_n 0, 1) := by decide +kernel
theorem dX9_land_23 : decode cX9_land 23 = .ok (.getfield 12, 3) := by decide +kernel
theorem dX9_land_26 : decode cX9_land 26 = .ok (.getfield 30, 3) := by decide +kernel
theorem dX9_land_29 : decode cX9_land 29 = .ok (.iconst 0, 1) := by decide +kernel
theorem dX9_land_30 : decode cX9_land 30 = .ok (.putfield 104, 3) := by decide +kernel
theorem dX9_land_33 : decode cX9_land 33 = .ok (.iload_n 1, 1) := by decide +kernel
theorem dX9_land_34 : decode cX9_land 34 = .ok (.ifCond .lt 8, 3) := by decide +kernel
theorem dX9_land_37 : decode cX9_land 37 = .ok (.bipush (-10), 2) := by decide +kernel
theorem dX9_land_39 : decode cX9_land 39 = .ok (.iload_n 1, 1) := by decide +kernel
theorem dX9_land_40 : decode cX9_land 40 = .ok (.isub, 1) := by decide +kernel
theorem dX9_land_41 : decode cX9_land 41 = .ok (.ireturn, 1) := by decide +kernel
theorem dX9_land_42 : decode cX9_land 42 = .ok (.aload_n 0, 1) := by decide +kernel
theorem dX9_land_43 : decode cX9_land 43 = .ok (.getfield 12, 3) := by decide +kernel
theorem dX9_land_46 : decode cX9_land 46 = .ok (.getfield 120, 3) := by decide +kernel
theorem dX9_land_49 : decode cX9_land 49 = .ok (.aload_n 0, 1) := by decide +kernel
theorem dX9_land_50 : decode cX9_land 50 = .ok (.getfield 24, 3) := by decide +kernel
theorem dX9_land_53 : decode cX9_land 53 = .ok (.invokevirtual 123, 3) := by decide +kernel
theorem dX9_land_56 : decode cX9_land 56 = .ok (.aload_n 0, 1) := by decide +kernel
theorem dX9_land_57 : decode cX9_land 57 = .ok (.getfield 12, 3) := by decide +kernel
theorem dX9_land_60 : decode cX9_land 60 = .ok (.dup, 1) := by decide +kernel
theorem dX9_land_61 : decode cX9_land 61 = .ok (.getfield 113, 3) := by decide +kernel
theorem dX9_land_64 : decode cX9_land 64 = .ok (.iconst 1, 1) := by decide +kernel
theorem dX9_land_65 : decode cX9_land 65 = .ok (.iadd, 1) := by decide +kernel
theorem dX9_land_66 : decode cX9_land 66 = .ok (.putfield 113, 3) := by decide +kernel
theorem dX9_land_69 : decode cX9_land 69 = .ok (.aload_n 0, 1) := by decide +kernel
theorem dX9_land_70 : decode cX9_land 70 = .ok (.getfield 12, 3) := by decide +kernel
theorem dX9_land_73 : decode cX9_land 73 = .ok (.getfield 113, 3) := by decide +kernel
theorem dX9_land_76 : decode cX9_land 76 = .ok (.iconst 1, 1) := by decide +kernel
theorem dX9_land_77 : decode cX9_land 77 = .ok (.isub, 1) := by decide +kernel
theorem dX9_land_78 : decode cX9_land 78 = .ok (.ireturn, 1) := by decide +kernel
def fX9_land (μ : vr_M) : Option (Int × vr_M) :=
  vr_gd (vr_R (μ 1 7)) (if (μ 1 7) < 5 then (fX6_fault  μ).bind (fun r2 => if r2.1 < 0 then (fX3_become 8 45 (vr_u r2.2 13 1 0)).bind (fun r3 => vr_let (vr_u r3.2 1 7 ((r3.2 1 7) + 1)) (fun μ4 => vr_gd (vr_R ((μ4 1 7) - 1)) (some ((μ4 1 7) - 1, μ4)))) else vr_gd (vr_R ((-10) - r2.1)) (some ((-10) - r2.1, vr_u r2.2 13 1 0))) else some ((-4), μ))
set_option maxRecDepth 100000 in
set_option maxHeartbeats 4000000 in
theorem ct_X9_land (l : Launch) (G : vr_G) (μ : vr_M) : vr_CI l yX9_land cX9_land 2 (some .int) ({ frames := 33, cells := 0, slots := 0, locals := 1029 } : Room) G [.ref (vr_ad G 0)] μ (fX9_land μ) := by
  refine vr_start (own := RX9) (by decide) rfl (Nat.le_of_ble_eq_true rfl) (fun p e s m args below meth c C0 => ?_)
  show vr_J p l e _ s m args below meth c 2 0 0 G (vr_Z (vr_QI G) G args s below) 0 [(0, .ref (vr_ad G 0))] [] μ _
  unfold fX9_land
  refine jr_aload_n C0 0 dX9_land_0 rfl rfl ?_
  refine jr_getr C0 (by decide) kd_0 (by decide) rfl wx_X9 (i := 0) (by decide) wf_X9_12 (j := 1) rfl dX9_land_1 ?_
  refine jr_geti C0 (by decide) kd_1 (by decide) rfl wx_X8 (i := 7) (by decide) wf_X9_113 rfl dX9_land_4 ?_
  refine jr_iconst C0 dX9_land_7 ?_
  refine jr_gd (fun g1 => ?_)
  refine jr_icmp_lt C0 g1 (⟨by decide, by decide⟩) dX9_land_8 (tgt := 14) (by decide) ?_ ?_
  · refine jr_aload_n C0 0 dX9_land_14 rfl rfl ?_
    refine jr_getr C0 (by decide) kd_0 (by decide) rfl wx_X9 (i := 4) (by decide) wf_X9_37 (j := 50) rfl dX9_land_15 ?_
    refine jr_vI C0 (by decide) kd_50 (by decide) rfl (ct_X6_fault l G  _) mi_X6_fault wm_X9_116 ⟨Nat.le_of_ble_eq_true rfl, Nat.le_of_ble_eq_true rfl⟩ ⟨rfl, rfl⟩ (As := []) rfl (st := []) rfl (Nat.le_of_ble_eq_true rfl) dX9_land_18 (fun r2 hr2 => ?_)
    refine jr_istore_n C0 dX9_land_21 rfl (by decide) (lv' := [(1, .int (vr_I r2.1)), (0, .ref (vr_ad G 0))]) rfl ?_
    refine jr_aload_n C0 1 dX9_land_22 rfl rfl ?_
    refine jr_getr C0 (by decide) kd_0 (by decide) rfl wx_X9 (i := 0) (by decide) wf_X9_12 (j := 1) rfl dX9_land_23 ?_
    refine jr_getr C0 (by decide) kd_1 (by decide) rfl wx_X8 (i := 2) (by decide) wf_X9_30 (j := 13) rfl dX9_land_26 ?_
    refine jr_iconst C0 dX9_land_29 ?_
    refine jr_puti C0 (by decide) kd_13 (by decide) rfl wx_X4 (i := 1) (by decide) wf_X9_104 rfl tyX4_ok nmX4 rfl rfl rfl dX9_land_30 ?_
    refine jr_iload_n C0 0 dX9_land_33 rfl rfl ?_
    refine jr_if_lt C0 hr2 dX9_land_34 (tgt := 42) (by decide) ?_ ?_
    · refine jr_aload_n C0 1 dX9_land_42 rfl rfl ?_
      refine jr_getr C0 (by decide) kd_0 (by decide) rfl wx_X9 (i := 0) (by decide) wf_X9_12 (j := 1) rfl dX9_land_43 ?_
      refine jr_getr C0 (by decide) kd_1 (by decide) rfl wx_X8 (i := 1) (by decide) wf_X9_120 (j := 8) rfl dX9_land_46 ?_
      refine jr_aload_n C0 1 dX9_land_49 rfl rfl ?_
      refine jr_getr C0 (by decide) kd_0 (by decide) rfl wx_X9 (i := 3) (by decide) wf_X9_24 (j := 45) rfl dX9_land_50 ?_
      refine jr_vV0 C0 (by decide) kd_8 (by decide) rfl (ct_X3_become l G (by decide) kd_8 (by decide) kd_45 _) mi_X3_become wm_X9_123 ⟨Nat.le_of_ble_eq_true rfl, Nat.le_of_ble_eq_true rfl⟩ ⟨rfl, rfl⟩ (As := [.ref (vr_ad G 45)]) rfl (st := []) rfl (Nat.le_of_ble_eq_true rfl) dX9_land_53 (fun r3 => ?_)
      refine jr_aload_n C0 1 dX9_land_56 rfl rfl ?_
      refine jr_getr C0 (by decide) kd_0 (by decide) rfl wx_X9 (i := 0) (by decide) wf_X9_12 (j := 1) rfl dX9_land_57 ?_
      refine jr_dup C0 rfl dX9_land_60 ?_
      refine jr_geti C0 (by decide) kd_1 (by decide) rfl wx_X8 (i := 7) (by decide) wf_X9_113 rfl dX9_land_61 ?_
      refine jr_iconst C0 dX9_land_64 ?_
      refine jr_iadd C0 dX9_land_65 ?_
      refine jr_puti C0 (by decide) kd_1 (by decide) rfl wx_X8 (i := 7) (by decide) wf_X9_113 rfl tyX8_ok nmX8 rfl rfl rfl dX9_land_66 ?_
      refine jr_aload_n C0 1 dX9_land_69 rfl rfl ?_
      refine jr_getr C0 (by decide) kd_0 (by decide) rfl wx_X9 (i := 0) (by decide) wf_X9_12 (j := 1) rfl dX9_land_70 ?_
      refine jr_let (fun μ4 => ?_)
      refine jr_geti C0 (by decide) kd_1 (by decide) rfl wx_X8 (i := 7) (by decide) wf_X9_113 rfl dX9_land_73 ?_
      refine jr_iconst C0 dX9_land_76 ?_
      refine jr_isub C0 dX9_land_77 ?_
      refine jr_gd (fun g5 => ?_)
      exact jr_iret C0 g5 dX9_land_78
    refine jr_bipush C0 dX9_land_37 rfl ?_
    refine jr_iload_n C0 0 dX9_land_39 rfl rfl ?_
    refine jr_isub C0 dX9_land_40 ?_
    refine jr_gd (fun g6 => ?_)
    exact jr_iret C0 g6 dX9_land_41
  refine jr_bipush C0 dX9_land_11 rfl ?_
  exact jr_iret C0 (⟨by decide, by decide⟩) dX9_land_13
theorem dX9_set_0 : decode cX9_set 0 = .ok (.iload_n 1, 1) := by decide +kernel
theorem dX9_set_1 : decode cX9_set 1 = .ok (.iconst 0, 1) := by decide +kernel
theorem dX9_set_2 : decode cX9_set 2 = .ok (.iconst 1, 1) := by decide +kernel
theorem dX9_set_3 : decode cX9_set 3 = .ok (.invokestatic 66, 3) := by decide +kernel
theorem dX9_set_6 : decode cX9_set 6 = .ok (.ifCond .ne 5, 3) := by decide +kernel
theorem dX9_set_9 : decode cX9_set 9 = .ok (.iconst (-1), 1) := by decide +kernel
theorem dX9_set_10 : decode cX9_set 10 = .ok (.ireturn, 1) := by decide +kernel
theorem dX9_set_11 : decode cX9_set 11 = .ok (.iload_n 1, 1) := by decide +kernel
theorem dX9_set_12 : decode cX9_set 12 = .ok (.ifCond .ne 16, 3) := by decide +kernel
theorem dX9_set_15 : decode cX9_set 15 = .ok (.iload_n 2, 1) := by decide +kernel
theorem dX9_set_16 : decode cX9_set 16 = .ok (.iconst 0, 1) := by decide +kernel
theorem dX9_set_17 : decode cX9_set 17 = .ok (.bipush 40, 2) := by decide +kernel
theorem dX9_set_19 : decode cX9_set 19 = .ok (.invokestatic 66, 3) := by decide +kernel
theorem dX9_set_22 : decode cX9_set 22 = .ok (.ifCond .ne 19, 3) := by decide +kernel
theorem dX9_set_25 : decode cX9_set 25 = .ok (.goto 13, 3) := by decide +kernel
theorem dX9_set_28 : decode cX9_set 28 = .ok (.iload_n 2, 1) := by decide +kernel
theorem dX9_set_29 : decode cX9_set 29 = .ok (.iconst 1, 1) := by decide +kernel
theorem dX9_set_30 : decode cX9_set 30 = .ok (.bipush 99, 2) := by decide +kernel
theorem dX9_set_32 : decode cX9_set 32 = .ok (.invokestatic 66, 3) := by decide +kernel
theorem dX9_set_35 : decode cX9_set 35 = .ok (.ifCond .ne 6, 3) := by decide +kernel
theorem dX9_set_38 : decode cX9_set 38 = .ok (.bipush (-2), 2) := by decide +kernel
theorem dX9_set_40 : decode cX9_set 40 = .ok (.ireturn, 1) := by decide +kernel
theorem dX9_set_41 : decode cX9_set 41 = .ok (.iload_n 1, 1) := by decide +kernel
theorem dX9_set_42 : decode cX9_set 42 = .ok (.ifCond .ne 16, 3) := by decide +kernel
theorem dX9_set_45 : decode cX9_set 45 = .ok (.aload_n 0, 1) := by decide +kernel
theorem dX9_set_46 : decode cX9_set 46 = .ok (.getfield 12, 3) := by decide +kernel
theorem dX9_set_49 : decode cX9_set 49 = .ok (.getfield 70, 3) := by decide +kernel
theorem dX9_set_52 : decode cX9_set 52 = .ok (.getfield 127, 3) := by decide +kernel
theorem dX9_set_55 : decode cX9_set 55 = .ok (.goto 13, 3) := by decide +kernel
theorem dX9_set_58 : decode cX9_set 58 = .ok (.aload_n 0, 1) := by decide +kernel
theorem dX9_set_59 : decode cX9_set 59 = .ok (.getfield 12, 3) := by decide +kernel
theorem dX9_set_62 : decode cX9_set 62 = .ok (.getfield 70, 3) := by decide +kernel
theorem dX9_set_65 : decode cX9_set 65 = .ok (.getfield 130, 3) := by decide +kernel
theorem dX9_set_68 : decode cX9_set 68 = .ok (.istore_n 3, 1) := by decide +kernel
theorem dX9_set_69 : decode cX9_set 69 = .ok (.iload_n 1, 1) := by decide +kernel
theorem dX9_set_70 : decode cX9_set 70 = .ok (.ifCond .ne 17, 3) := by decide +kernel
theorem dX9_set_73 : decode cX9_set 73 = .ok (.aload_n 0, 1) := by decide +kernel
theorem dX9_set_74 : decode cX9_set 74 = .ok (.getfield 12, 3) := by decide +kernel
theorem dX9_set_77 : decode cX9_set 77 = .ok (.getfield 70, 3) := by decide +kernel
theorem dX9_set_80 : decode cX9_set 80 = .ok (.iload_n 2, 1) := by decide +kernel
theorem dX9_set_81 : decode cX9_set 81 = .ok (.putfield 127, 3) := by decide +kernel
theorem dX9_set_84 : decode cX9_set 84 = .ok (.goto 14, 3) := by decide +kernel
theorem dX9_set_87 : decode cX9_set 87 = .ok (.aload_n 0, 1) := by decide +kernel
theorem dX9_set_88 : decode cX9_set 88 = .ok (.getfield 12, 3) := by decide +kernel
theorem dX9_set_91 : decode cX9_set 91 = .ok (.getfield 70, 3) := by decide +kernel
theorem dX9_set_94 : decode cX9_set 94 = .ok (.iload_n 2, 1) := by decide +kernel
theorem dX9_set_95 : decode cX9_set 95 = .ok (.putfield 130, 3) := by decide +kernel
theorem dX9_set_98 : decode cX9_set 98 = .ok (.iload_n 3, 1) := by decide +kernel
theorem dX9_set_99 : decode cX9_set 99 = .ok (.ireturn, 1) := by decide +kernel
def fX9_set_B38 (μ : vr_M) : Option (Int × vr_M) :=
  some ((-2), μ)
def fX9_set_B98 (x3 : Int) (μ : vr_M) : Option (Int × vr_M) :=
  some (x3, μ)
def fX9_set_B68 (x1 : Int) (x2 : Int) (y0 : Int) (μ : vr_M) : Option (Int × vr_M) :=
  if ¬ x1 = 0 then fX9_set_B98 y0 (vr_u μ 2 7 x2) else fX9_set_B98 y0 (vr_u μ 2 6 x2)
def fX9_set_B41 (x1 : Int) (x2 : Int) (μ : vr_M) : Option (Int × vr_M) :=
  if ¬ x1 = 0 then vr_gd (vr_R (μ 2 7)) (fX9_set_B68 x1 x2 (μ 2 7) μ) else vr_gd (vr_R (μ 2 6)) (fX9_set_B68 x1 x2 (μ 2 6) μ)
def fX9_set (a0 : Int) (a1 : Int) (μ : vr_M) : Option (Int × vr_M) :=
  (fX9_within a0 0 1 μ).bind (fun r3 => if ¬ r3.1 = 0 then if ¬ a0 = 0 then (fX9_within a1 1 99 r3.2).bind (fun r4 => if ¬ r4.1 = 0 then fX9_set_B41 a0 a1 r4.2 else fX9_set_B38 r4.2) else (fX9_within a1 0 40 r3.2).bind (fun r5 => if ¬ r5.1 = 0 then fX9_set_B41 a0 a1 r5.2 else fX9_set_B38 r5.2) else some ((-1), r3.2))
set_option maxRecDepth 100000 in
set_option maxHeartbeats 4000000 in
theorem ct_X9_set (l : Launch) (G : vr_G) (a0 : Int) (h_a0 : vr_R a0) (a1 : Int) (h_a1 : vr_R a1) (μ : vr_M) : vr_CI l yX9_set cX9_set 4 (some .int) ({ frames := 1, cells := 0, slots := 0, locals := 22 } : Room) G [.ref (vr_ad G 0), .int (vr_I a0), .int (vr_I a1)] μ (fX9_set a0 a1 μ) := by
  refine vr_start (own := RX9) (by decide) rfl (Nat.le_of_ble_eq_true rfl) (fun p e s m args below meth c C0 => ?_)
  show vr_J p l e _ s m args below meth c 4 0 0 G (vr_Z (vr_QI G) G args s below) 0 [(0, .ref (vr_ad G 0)), (1, .int (vr_I a0)), (2, .int (vr_I a1))] [] μ _
  have B38 : ∀ (μ : vr_M), vr_J p l e ({ frames := 1, cells := 0, slots := 0, locals := 22 } : Room) s m args below meth c 4 0 0 G (vr_Z (vr_QI G) G args s below) 38 [] [] μ (fX9_set_B38 μ) := by
    intro μ
    unfold fX9_set_B38
    refine jr_bipush C0 dX9_set_38 rfl ?_
    exact jr_iret C0 (⟨by decide, by decide⟩) dX9_set_40
  have B98 : ∀ (x3 : Int) (h_x3 : vr_R x3) (μ : vr_M), vr_J p l e ({ frames := 1, cells := 0, slots := 0, locals := 22 } : Room) s m args below meth c 4 0 0 G (vr_Z (vr_QI G) G args s below) 98 [(3, .int (vr_I x3))] [] μ (fX9_set_B98 x3 μ) := by
    intro x3 h_x3 μ
    unfold fX9_set_B98
    refine jr_iload_n C0 0 dX9_set_98 rfl rfl ?_
    exact jr_iret C0 h_x3 dX9_set_99
  have B68 : ∀ (x1 : Int) (h_x1 : vr_R x1) (x2 : Int) (h_x2 : vr_R x2) (y0 : Int) (h_y0 : vr_R y0) (μ : vr_M), vr_J p l e ({ frames := 1, cells := 0, slots := 0, locals := 22 } : Room) s m args below meth c 4 0 0 G (vr_Z (vr_QI G) G args s below) 68 [(0, .ref (vr_ad G 0)), (1, .int (vr_I x1)), (2, .int (vr_I x2))] [.int (vr_I y0)] μ (fX9_set_B68 x1 x2 y0 μ) := by
    intro x1 h_x1 x2 h_x2 y0 h_y0 μ
    unfold fX9_set_B68
    refine jr_istore_n C0 dX9_set_68 rfl (by decide) (lv' := [(3, .int (vr_I y0)), (0, .ref (vr_ad G 0)), (1, .int (vr_I x1)), (2, .int (vr_I x2))]) rfl ?_
    refine jr_iload_n C0 2 dX9_set_69 rfl rfl ?_
    refine jr_if_ne C0 h_x1 dX9_set_70 (tgt := 87) (by decide) ?_ ?_
    · refine jr_aload_n C0 1 dX9_set_87 rfl rfl ?_
      refine jr_getr C0 (by decide) kd_0 (by decide) rfl wx_X9 (i := 0) (by decide) wf_X9_12 (j := 1) rfl dX9_set_88 ?_
      refine jr_getr C0 (by decide) kd_1 (by decide) rfl wx_X8 (i := 0) (by decide) wf_X9_70 (j := 2) rfl dX9_set_91 ?_
      refine jr_iload_n C0 3 dX9_set_94 rfl rfl ?_
      refine jr_puti C0 (by decide) kd_2 (by decide) rfl wx_X2 (i := 7) (by decide) wf_X9_130 rfl tyX2_ok nmX2 rfl rfl rfl dX9_set_95 ?_
      refine jr_sub [0] rfl ?_
      exact B98 y0 h_y0 _
    refine jr_aload_n C0 1 dX9_set_73 rfl rfl ?_
    refine jr_getr C0 (by decide) kd_0 (by decide) rfl wx_X9 (i := 0) (by decide) wf_X9_12 (j := 1) rfl dX9_set_74 ?_
    refine jr_getr C0 (by decide) kd_1 (by decide) rfl wx_X8 (i := 0) (by decide) wf_X9_70 (j := 2) rfl dX9_set_77 ?_
    refine jr_iload_n C0 3 dX9_set_80 rfl rfl ?_
    refine jr_puti C0 (by decide) kd_2 (by decide) rfl wx_X2 (i := 6) (by decide) wf_X9_127 rfl tyX2_ok nmX2 rfl rfl rfl dX9_set_81 ?_
    refine jr_goto C0 dX9_set_84 (tgt := 98) (by decide) ?_
    refine jr_sub [0] rfl ?_
    exact B98 y0 h_y0 _
  have B41 : ∀ (x1 : Int) (h_x1 : vr_R x1) (x2 : Int) (h_x2 : vr_R x2) (μ : vr_M), vr_J p l e ({ frames := 1, cells := 0, slots := 0, locals := 22 } : Room) s m args below meth c 4 0 0 G (vr_Z (vr_QI G) G args s below) 41 [(0, .ref (vr_ad G 0)), (1, .int (vr_I x1)), (2, .int (vr_I x2))] [] μ (fX9_set_B41 x1 x2 μ) := by
    intro x1 h_x1 x2 h_x2 μ
    unfold fX9_set_B41
    refine jr_iload_n C0 1 dX9_set_41 rfl rfl ?_
    refine jr_if_ne C0 h_x1 dX9_set_42 (tgt := 58) (by decide) ?_ ?_
    · refine jr_aload_n C0 0 dX9_set_58 rfl rfl ?_
      refine jr_getr C0 (by decide) kd_0 (by decide) rfl wx_X9 (i := 0) (by decide) wf_X9_12 (j := 1) rfl dX9_set_59 ?_
      refine jr_getr C0 (by decide) kd_1 (by decide) rfl wx_X8 (i := 0) (by decide) wf_X9_70 (j := 2) rfl dX9_set_62 ?_
      refine jr_geti C0 (by decide) kd_2 (by decide) rfl wx_X2 (i := 7) (by decide) wf_X9_130 rfl dX9_set_65 ?_
      refine jr_gd (fun g1 => ?_)
      exact B68 x1 h_x1 x2 h_x2 (μ 2 7) g1 _
    refine jr_aload_n C0 0 dX9_set_45 rfl rfl ?_
    refine jr_getr C0 (by decide) kd_0 (by decide) rfl wx_X9 (i := 0) (by decide) wf_X9_12 (j := 1) rfl dX9_set_46 ?_
    refine jr_getr C0 (by decide) kd_1 (by decide) rfl wx_X8 (i := 0) (by decide) wf_X9_70 (j := 2) rfl dX9_set_49 ?_
    refine jr_geti C0 (by decide) kd_2 (by decide) rfl wx_X2 (i := 6) (by decide) wf_X9_127 rfl dX9_set_52 ?_
    refine jr_goto C0 dX9_set_55 (tgt := 68) (by decide) ?_
    refine jr_gd (fun g2 => ?_)
    exact B68 x1 h_x1 x2 h_x2 (μ 2 6) g2 _
  unfold fX9_set
  refine jr_iload_n C0 1 dX9_set_0 rfl rfl ?_
  refine jr_iconst C0 dX9_set_1 ?_
  refine jr_iconst C0 dX9_set_2 ?_
  refine jr_sI C0 (ct_X9_within l G a0 h_a0 0 (⟨by decide, by decide⟩) 1 (⟨by decide, by decide⟩) _) mi_X9_within wm_X9_66 ⟨Nat.le_of_ble_eq_true rfl, Nat.le_of_ble_eq_true rfl⟩ ⟨rfl, rfl⟩ (As := [.int (vr_I a0), .int (vr_I 0), .int (vr_I 1)]) rfl (st := []) rfl (Nat.le_of_ble_eq_true rfl) dX9_set_3 (fun r3 hr3 => ?_)
  refine jr_if_ne C0 hr3 dX9_set_6 (tgt := 11) (by decide) ?_ ?_
  · refine jr_iload_n C0 1 dX9_set_11 rfl rfl ?_
    refine jr_if_ne C0 h_a0 dX9_set_12 (tgt := 28) (by decide) ?_ ?_
    · refine jr_iload_n C0 2 dX9_set_28 rfl rfl ?_
      refine jr_iconst C0 dX9_set_29 ?_
      refine jr_bipush C0 dX9_set_30 rfl ?_
      refine jr_sI C0 (ct_X9_within l G a1 h_a1 1 (⟨by decide, by decide⟩) 99 (⟨by decide, by decide⟩) _) mi_X9_within wm_X9_66 ⟨Nat.le_of_ble_eq_true rfl, Nat.le_of_ble_eq_true rfl⟩ ⟨rfl, rfl⟩ (As := [.int (vr_I a1), .int (vr_I 1), .int (vr_I 99)]) rfl (st := []) rfl (Nat.le_of_ble_eq_true rfl) dX9_set_32 (fun r4 hr4 => ?_)
      refine jr_if_ne C0 hr4 dX9_set_35 (tgt := 41) (by decide) ?_ ?_
      · exact B41 a0 h_a0 a1 h_a1 _
      refine jr_sub [] rfl ?_
      exact B38 _
    refine jr_iload_n C0 2 dX9_set_15 rfl rfl ?_
    refine jr_iconst C0 dX9_set_16 ?_
    refine jr_bipush C0 dX9_set_17 rfl ?_
    refine jr_sI C0 (ct_X9_within l G a1 h_a1 0 (⟨by decide, by decide⟩) 40 (⟨by decide, by decide⟩) _) mi_X9_within wm_X9_66 ⟨Nat.le_of_ble_eq_true rfl, Nat.le_of_ble_eq_true rfl⟩ ⟨rfl, rfl⟩ (As := [.int (vr_I a1), .int (vr_I 0), .int (vr_I 40)]) rfl (st := []) rfl (Nat.le_of_ble_eq_true rfl) dX9_set_19 (fun r5 hr5 => ?_)
    refine jr_if_ne C0 hr5 dX9_set_22 (tgt := 41) (by decide) ?_ ?_
    · exact B41 a0 h_a0 a1 h_a1 _
    refine jr_goto C0 dX9_set_25 (tgt := 38) (by decide) ?_
    refine jr_sub [] rfl ?_
    exact B38 _
  refine jr_iconst C0 dX9_set_9 ?_
  exact jr_iret C0 (⟨by decide, by decide⟩) dX9_set_10
theorem dX9_gives_0 : decode cX9_gives 0 = .ok (.aload_n 0, 1) := by decide +kernel
theorem dX9_gives_1 : decode cX9_gives 1 = .ok (.getfield 12, 3) := by decide +kernel
theorem dX9_gives_4 : decode cX9_gives 4 = .ok (.getfield 70, 3) := by decide +kernel
theorem dX9_gives_7 : decode cX9_gives 7 = .ok (.iload_n 1, 1) := by decide +kernel
theorem dX9_gives_8 : decode cX9_gives 8 = .ok (.invokevirtual 84, 3) := by decide +kernel
theorem dX9_gives_11 : decode cX9_gives 11 = .ok (.ifCond .ne 5, 3) := by decide +kernel
theorem dX9_gives_14 : decode cX9_gives 14 = .ok (.iconst (-1), 1) := by decide +kernel
theorem dX9_gives_15 : decode cX9_gives 15 = .ok (.ireturn, 1) := by decide +kernel
theorem dX9_gives_16 : decode cX9_gives 16 = .ok (.aload_n 0, 1) := by decide +kernel
theorem dX9_gives_17 : decode cX9_gives 17 = .ok (.getfield 46, 3) := by decide +kernel
theorem dX9_gives_20 : decode cX9_gives 20 = .ok (.invokevirtual 133, 3) := by decide +kernel
theorem dX9_gives_23 : decode cX9_gives 23 = .ok (.aload_n 0, 1) := by decide +kernel
theorem dX9_gives_24 : decode cX9_gives 24 = .ok (.getfield 46, 3) := by decide +kernel
theorem dX9_gives_27 : decode cX9_gives 27 = .ok (.getfield 136, 3) := by decide +kernel
theorem dX9_gives_30 : decode cX9_gives 30 = .ok (.iload_n 1, 1) := by decide +kernel
theorem dX9_gives_31 : decode cX9_gives 31 = .ok (.aload_n 0, 1) := by decide +kernel
theorem dX9_gives_32 : decode cX9_gives 32 = .ok (.getfield 12, 3) := by decide +kernel
theorem dX9_gives_35 : decode cX9_gives 35 = .ok (.getfield 70, 3) := by decide +kernel
theorem dX9_gives_38 : decode cX9_gives 38 = .ok (.getfield 127, 3) := by decide +kernel
theorem dX9_gives_41 : decode cX9_gives 41 = .ok (.aload_n 0, 1) := by decide +kernel
theorem dX9_gives_42 : decode cX9_gives 42 = .ok (.getfield 12, 3) := by decide +kernel
theorem dX9_gives_45 : decode cX9_gives 45 = .ok (.getfield 120, 3) := by decide +kernel
theorem dX9_gives_48 : decode cX9_gives 48 = .ok (.getfield 140, 3) := by decide +kernel
theorem dX9_gives_51 : decode cX9_gives 51 = .ok (.invokevirtual 143, 3) := by decide +kernel
theorem dX9_gives_54 : decode cX9_gives 54 = .ok (.ireturn, 1) := by decide +kernel
def fX9_gives (a0 : Int) (μ : vr_M) : Option (Int × vr_M) :=
  (fX2_has 2 a0 μ).bind (fun r1 => if ¬ r1.1 = 0 then (fX7_begin  r1.2).bind (fun r2 => vr_gd (vr_R (r2.2 2 6)) (vr_gd (vr_R (r2.2 8 5)) ((fX0_gift a0 (r2.2 2 6) (r2.2 8 5) r2.2).bind (fun r5 => some (r5.1, r5.2))))) else some ((-1), r1.2))
set_option maxRecDepth 100000 in
set_option maxHeartbeats 4000000 in
theorem ct_X9_gives (l : Launch) (G : vr_G) (a0 : Int) (h_a0 : vr_R a0) (μ : vr_M) : vr_CI l yX9_gives cX9_gives 2 (some .int) ({ frames := 5, cells := 0, slots := 0, locals := 115 } : Room) G [.ref (vr_ad G 0), .int (vr_I a0)] μ (fX9_gives a0 μ) := by
  refine vr_start (own := RX9) (by decide) rfl (Nat.le_of_ble_eq_true rfl) (fun p e s m args below meth c C0 => ?_)
  show vr_J p l e _ s m args below meth c 2 0 0 G (vr_Z (vr_QI G) G args s below) 0 [(0, .ref (vr_ad G 0)), (1, .int (vr_I a0))] [] μ _
  unfold fX9_gives
  refine jr_aload_n C0 0 dX9_gives_0 rfl rfl ?_
  refine jr_getr C0 (by decide) kd_0 (by decide) rfl wx_X9 (i := 0) (by decide) wf_X9_12 (j := 1) rfl dX9_gives_1 ?_
  refine jr_getr C0 (by decide) kd_1 (by decide) rfl wx_X8 (i := 0) (by decide) wf_X9_70 (j := 2) rfl dX9_gives_4 ?_
  refine jr_iload_n C0 1 dX9_gives_7 rfl rfl ?_
  refine jr_vI C0 (by decide) kd_2 (by decide) rfl (ct_X2_has l G (by decide) kd_2 a0 h_a0 _) mi_X2_has wm_X9_84 ⟨Nat.le_of_ble_eq_true rfl, Nat.le_of_ble_eq_true rfl⟩ ⟨rfl, rfl⟩ (As := [.int (vr_I a0)]) rfl (st := []) rfl (Nat.le_of_ble_eq_true rfl) dX9_gives_8 (fun r1 hr1 => ?_)
  refine jr_if_ne C0 hr1 dX9_gives_11 (tgt := 16) (by decide) ?_ ?_
  · refine jr_aload_n C0 0 dX9_gives_16 rfl rfl ?_
    refine jr_getr C0 (by decide) kd_0 (by decide) rfl wx_X9 (i := 5) (by decide) wf_X9_46 (j := 51) rfl dX9_gives_17 ?_
    refine jr_vV0 C0 (by decide) kd_51 (by decide) rfl (ct_X7_begin l G  _) mi_X7_begin wm_X9_133 ⟨Nat.le_of_ble_eq_true rfl, Nat.le_of_ble_eq_true rfl⟩ ⟨rfl, rfl⟩ (As := []) rfl (st := []) rfl (Nat.le_of_ble_eq_true rfl) dX9_gives_20 (fun r2 => ?_)
    refine jr_aload_n C0 0 dX9_gives_23 rfl rfl ?_
    refine jr_getr C0 (by decide) kd_0 (by decide) rfl wx_X9 (i := 5) (by decide) wf_X9_46 (j := 51) rfl dX9_gives_24 ?_
    refine jr_getr C0 (by decide) kd_51 (by decide) rfl wx_X7 (i := 3) (by decide) wf_X9_136 (j := 58) rfl dX9_gives_27 ?_
    refine jr_iload_n C0 1 dX9_gives_30 rfl rfl ?_
    refine jr_aload_n C0 0 dX9_gives_31 rfl rfl ?_
    refine jr_getr C0 (by decide) kd_0 (by decide) rfl wx_X9 (i := 0) (by decide) wf_X9_12 (j := 1) rfl dX9_gives_32 ?_
    refine jr_getr C0 (by decide) kd_1 (by decide) rfl wx_X8 (i := 0) (by decide) wf_X9_70 (j := 2) rfl dX9_gives_35 ?_
    refine jr_geti C0 (by decide) kd_2 (by decide) rfl wx_X2 (i := 6) (by decide) wf_X9_127 rfl dX9_gives_38 ?_
    refine jr_aload_n C0 0 dX9_gives_41 rfl rfl ?_
    refine jr_getr C0 (by decide) kd_0 (by decide) rfl wx_X9 (i := 0) (by decide) wf_X9_12 (j := 1) rfl dX9_gives_42 ?_
    refine jr_getr C0 (by decide) kd_1 (by decide) rfl wx_X8 (i := 1) (by decide) wf_X9_120 (j := 8) rfl dX9_gives_45 ?_
    refine jr_geti C0 (by decide) kd_8 (by decide) rfl wx_X3 (i := 5) (by decide) wf_X9_140 rfl dX9_gives_48 ?_
    refine jr_gd (fun g3 => ?_)
    refine jr_gd (fun g4 => ?_)
    refine jr_vI C0 (by decide) kd_58 (by decide) rfl (ct_X0_gift l G a0 h_a0 (r2.2 2 6) g3 (r2.2 8 5) g4 _) mi_X0_gift wm_X9_143 ⟨Nat.le_of_ble_eq_true rfl, Nat.le_of_ble_eq_true rfl⟩ ⟨rfl, rfl⟩ (As := [.int (vr_I a0), .int (vr_I (r2.2 2 6)), .int (vr_I (r2.2 8 5))]) rfl (st := []) rfl (Nat.le_of_ble_eq_true rfl) dX9_gives_51 (fun r5 hr5 => ?_)
    exact jr_iret C0 hr5 dX9_gives_54
  refine jr_iconst C0 dX9_gives_14 ?_
  exact jr_iret C0 (⟨by decide, by decide⟩) dX9_gives_15
theorem dX9_year_0 : decode cX9_year 0 = .ok (.iload_n 1, 1) := by decide +kernel
theorem dX9_year_1 : decode cX9_year 1 = .ok (.iconst 0, 1) := by decide +kernel
theorem dX9_year_2 : decode cX9_year 2 = .ok (.aload_n 0, 1) := by decide +kernel
theorem dX9_year_3 : decode cX9_year 3 = .ok (.getfield 12, 3) := by decide +kernel
theorem dX9_year_6 : decode cX9_year 6 = .ok (.getfield 70, 3) := by decide +kernel
theorem dX9_year_9 : decode cX9_year 9 = .ok (.invokevirtual 149, 3) := by decide +kernel
theorem dX9_year_12 : decode cX9_year 12 = .ok (.invokestatic 66, 3) := by decide +kernel
theorem dX9_year_15 : decode cX9_year 15 = .ok (.ifCond .eq 13, 3) := by decide +kernel
theorem dX9_year_18 : decode cX9_year 18 = .ok (.iload_n 2, 1) := by decide +kernel
theorem dX9_year_19 : decode cX9_year 19 = .ok (.iconst 0, 1) := by decide +kernel
theorem dX9_year_20 : decode cX9_year 20 = .ok (.bipush 40, 2) := by decide +kernel
theorem dX9_year_22 : decode cX9_year 22 = .ok (.invokestatic 66, 3) := by decide +kernel
theorem dX9_year_25 : decode cX9_year 25 = .ok (.ifCond .ne 7, 3) := by decide +kernel
theorem dX9_year_28 : decode cX9_year 28 = .ok (.sipush (-1002), 3) := by decide +kernel
theorem dX9_year_31 : decode cX9_year 31 = .ok (.ireturn, 1) := by decide +kernel
theorem dX9_year_32 : decode cX9_year 32 = .ok (.aload_n 0, 1) := by decide +kernel
theorem dX9_year_33 : decode cX9_year 33 = .ok (.getfield 46, 3) := by decide +kernel
theorem dX9_year_36 : decode cX9_year 36 = .ok (.invokevirtual 133, 3) := by decide +kernel
theorem dX9_year_39 : decode cX9_year 39 = .ok (.aload_n 0, 1) := by decide +kernel
theorem dX9_year_40 : decode cX9_year 40 = .ok (.getfield 46, 3) := by decide +kernel
theorem dX9_year_43 : decode cX9_year 43 = .ok (.iload_n 1, 1) := by decide +kernel
theorem dX9_year_44 : decode cX9_year 44 = .ok (.iload_n 2, 1) := by decide +kernel
theorem dX9_year_45 : decode cX9_year 45 = .ok (.iconst 1, 1) := by decide +kernel
theorem dX9_year_46 : decode cX9_year 46 = .ok (.invokevirtual 152, 3) := by decide +kernel
theorem dX9_year_49 : decode cX9_year 49 = .ok (.aload_n 0, 1) := by decide +kernel
theorem dX9_year_50 : decode cX9_year 50 = .ok (.getfield 12, 3) := by decide +kernel
theorem dX9_year_53 : decode cX9_year 53 = .ok (.getfield 70, 3) := by decide +kernel
theorem dX9_year_56 : decode cX9_year 56 = .ok (.aload_n 0, 1) := by decide +kernel
theorem dX9_year_57 : decode cX9_year 57 = .ok (.getfield 46, 3) := by decide +kernel
theorem dX9_year_60 : decode cX9_year 60 = .ok (.getfield 156, 3) := by decide +kernel
theorem dX9_year_63 : decode cX9_year 63 = .ok (.invokevirtual 157, 3) := by decide +kernel
theorem dX9_year_66 : decode cX9_year 66 = .ok (.aload_n 0, 1) := by decide +kernel
theorem dX9_year_67 : decode cX9_year 67 = .ok (.getfield 46, 3) := by decide +kernel
theorem dX9_year_70 : decode cX9_year 70 = .ok (.getfield 160, 3) := by decide +kernel
theorem dX9_year_73 : decode cX9_year 73 = .ok (.ireturn, 1) := by decide +kernel
def fX9_year_B28 (μ : vr_M) : Option (Int × vr_M) :=
  some ((-1002), μ)
def fX9_year (a0 : Int) (a1 : Int) (μ : vr_M) : Option (Int × vr_M) :=
  (fX2_all 2 μ).bind (fun r1 => (fX9_within a0 0 r1.1 r1.2).bind (fun r2 => if r2.1 = 0 then fX9_year_B28 r2.2 else (fX9_within a1 0 40 r2.2).bind (fun r3 => if ¬ r3.1 = 0 then (fX7_begin  r3.2).bind (fun r4 => (fX7_spend a0 a1 1 r4.2).bind (fun r5 => (fX2_become 2 52 r5.2).bind (fun r6 => vr_gd (vr_R (r6.2 51 8)) (some (r6.2 51 8, r6.2))))) else fX9_year_B28 r3.2)))
set_option maxRecDepth 100000 in
set_option maxHeartbeats 4000000 in
theorem ct_X9_year (l : Launch) (G : vr_G) (a0 : Int) (h_a0 : vr_R a0) (a1 : Int) (h_a1 : vr_R a1) (μ : vr_M) : vr_CI l yX9_year cX9_year 3 (some .int) ({ frames := 5, cells := 0, slots := 0, locals := 123 } : Room) G [.ref (vr_ad G 0), .int (vr_I a0), .int (vr_I a1)] μ (fX9_year a0 a1 μ) := by
  refine vr_start (own := RX9) (by decide) rfl (Nat.le_of_ble_eq_true rfl) (fun p e s m args below meth c C0 => ?_)
  show vr_J p l e _ s m args below meth c 3 0 0 G (vr_Z (vr_QI G) G args s below) 0 [(0, .ref (vr_ad G 0)), (1, .int (vr_I a0)), (2, .int (vr_I a1))] [] μ _
  have B28 : ∀ (μ : vr_M), vr_J p l e ({ frames := 5, cells := 0, slots := 0, locals := 123 } : Room) s m args below meth c 3 0 0 G (vr_Z (vr_QI G) G args s below) 28 [] [] μ (fX9_year_B28 μ) := by
    intro μ
    unfold fX9_year_B28
    refine jr_sipush C0 dX9_year_28 rfl ?_
    exact jr_iret C0 (⟨by decide, by decide⟩) dX9_year_31
  unfold fX9_year
  refine jr_iload_n C0 1 dX9_year_0 rfl rfl ?_
  refine jr_iconst C0 dX9_year_1 ?_
  refine jr_aload_n C0 0 dX9_year_2 rfl rfl ?_
  refine jr_getr C0 (by decide) kd_0 (by decide) rfl wx_X9 (i := 0) (by decide) wf_X9_12 (j := 1) rfl dX9_year_3 ?_
  refine jr_getr C0 (by decide) kd_1 (by decide) rfl wx_X8 (i := 0) (by decide) wf_X9_70 (j := 2) rfl dX9_year_6 ?_
  refine jr_vI C0 (by decide) kd_2 (by decide) rfl (ct_X2_all l G (by decide) kd_2 _) mi_X2_all wm_X9_149 ⟨Nat.le_of_ble_eq_true rfl, Nat.le_of_ble_eq_true rfl⟩ ⟨rfl, rfl⟩ (As := []) rfl (st := [.int (vr_I 0), .int (vr_I a0)]) rfl (Nat.le_of_ble_eq_true rfl) dX9_year_9 (fun r1 hr1 => ?_)
  refine jr_sI C0 (ct_X9_within l G a0 h_a0 0 (⟨by decide, by decide⟩) r1.1 hr1 _) mi_X9_within wm_X9_66 ⟨Nat.le_of_ble_eq_true rfl, Nat.le_of_ble_eq_true rfl⟩ ⟨rfl, rfl⟩ (As := [.int (vr_I a0), .int (vr_I 0), .int (vr_I r1.1)]) rfl (st := []) rfl (Nat.le_of_ble_eq_true rfl) dX9_year_12 (fun r2 hr2 => ?_)
  refine jr_if_eq C0 hr2 dX9_year_15 (tgt := 28) (by decide) ?_ ?_
  · refine jr_sub [] rfl ?_
    exact B28 _
  refine jr_iload_n C0 2 dX9_year_18 rfl rfl ?_
  refine jr_iconst C0 dX9_year_19 ?_
  refine jr_bipush C0 dX9_year_20 rfl ?_
  refine jr_sI C0 (ct_X9_within l G a1 h_a1 0 (⟨by decide, by decide⟩) 40 (⟨by decide, by decide⟩) _) mi_X9_within wm_X9_66 ⟨Nat.le_of_ble_eq_true rfl, Nat.le_of_ble_eq_true rfl⟩ ⟨rfl, rfl⟩ (As := [.int (vr_I a1), .int (vr_I 0), .int (vr_I 40)]) rfl (st := []) rfl (Nat.le_of_ble_eq_true rfl) dX9_year_22 (fun r3 hr3 => ?_)
  refine jr_if_ne C0 hr3 dX9_year_25 (tgt := 32) (by decide) ?_ ?_
  · refine jr_aload_n C0 0 dX9_year_32 rfl rfl ?_
    refine jr_getr C0 (by decide) kd_0 (by decide) rfl wx_X9 (i := 5) (by decide) wf_X9_46 (j := 51) rfl dX9_year_33 ?_
    refine jr_vV0 C0 (by decide) kd_51 (by decide) rfl (ct_X7_begin l G  _) mi_X7_begin wm_X9_133 ⟨Nat.le_of_ble_eq_true rfl, Nat.le_of_ble_eq_true rfl⟩ ⟨rfl, rfl⟩ (As := []) rfl (st := []) rfl (Nat.le_of_ble_eq_true rfl) dX9_year_36 (fun r4 => ?_)
    refine jr_aload_n C0 0 dX9_year_39 rfl rfl ?_
    refine jr_getr C0 (by decide) kd_0 (by decide) rfl wx_X9 (i := 5) (by decide) wf_X9_46 (j := 51) rfl dX9_year_40 ?_
    refine jr_iload_n C0 1 dX9_year_43 rfl rfl ?_
    refine jr_iload_n C0 2 dX9_year_44 rfl rfl ?_
    refine jr_iconst C0 dX9_year_45 ?_
    refine jr_vV0 C0 (by decide) kd_51 (by decide) rfl (ct_X7_spend l G a0 h_a0 a1 h_a1 1 (⟨by decide, by decide⟩) _) mi_X7_spend wm_X9_152 ⟨Nat.le_of_ble_eq_true rfl, Nat.le_of_ble_eq_true rfl⟩ ⟨rfl, rfl⟩ (As := [.int (vr_I a0), .int (vr_I a1), .int (vr_I 1)]) rfl (st := []) rfl (Nat.le_of_ble_eq_true rfl) dX9_year_46 (fun r5 => ?_)
    refine jr_aload_n C0 0 dX9_year_49 rfl rfl ?_
    refine jr_getr C0 (by decide) kd_0 (by decide) rfl wx_X9 (i := 0) (by decide) wf_X9_12 (j := 1) rfl dX9_year_50 ?_
    refine jr_getr C0 (by decide) kd_1 (by decide) rfl wx_X8 (i := 0) (by decide) wf_X9_70 (j := 2) rfl dX9_year_53 ?_
    refine jr_aload_n C0 0 dX9_year_56 rfl rfl ?_
    refine jr_getr C0 (by decide) kd_0 (by decide) rfl wx_X9 (i := 5) (by decide) wf_X9_46 (j := 51) rfl dX9_year_57 ?_
    refine jr_getr C0 (by decide) kd_51 (by decide) rfl wx_X7 (i := 2) (by decide) wf_X9_156 (j := 52) rfl dX9_year_60 ?_
    refine jr_vV0 C0 (by decide) kd_2 (by decide) rfl (ct_X2_become l G (by decide) kd_2 (by decide) kd_52 _) mi_X2_become wm_X9_157 ⟨Nat.le_of_ble_eq_true rfl, Nat.le_of_ble_eq_true rfl⟩ ⟨rfl, rfl⟩ (As := [.ref (vr_ad G 52)]) rfl (st := []) rfl (Nat.le_of_ble_eq_true rfl) dX9_year_63 (fun r6 => ?_)
    refine jr_aload_n C0 0 dX9_year_66 rfl rfl ?_
    refine jr_getr C0 (by decide) kd_0 (by decide) rfl wx_X9 (i := 5) (by decide) wf_X9_46 (j := 51) rfl dX9_year_67 ?_
    refine jr_geti C0 (by decide) kd_51 (by decide) rfl wx_X7 (i := 8) (by decide) wf_X9_160 rfl dX9_year_70 ?_
    refine jr_gd (fun g7 => ?_)
    exact jr_iret C0 g7 dX9_year_73
  refine jr_sub [] rfl ?_
  exact B28 _
theorem dX9_rule_0 : decode cX9_rule 0 = .ok (.iload_n 1, 1) := by decide +kernel
theorem dX9_rule_1 : decode cX9_rule 1 = .ok (.iconst 0, 1) := by decide +kernel
theorem dX9_rule_2 : decode cX9_rule 2 = .ok (.bipush 6, 2) := by decide +kernel
theorem dX9_rule_4 : decode cX9_rule 4 = .ok (.invokestatic 66, 3) := by decide +kernel
theorem dX9_rule_7 : decode cX9_rule 7 = .ok (.ifCond .ne 5, 3) := by decide +kernel
theorem dX9_rule_10 : decode cX9_rule 10 = .ok (.iconst (-1), 1) := by decide +kernel
theorem dX9_rule_11 : decode cX9_rule 11 = .ok (.ireturn, 1) := by decide +kernel
theorem dX9_rule_12 : decode cX9_rule 12 = .ok (.iload_n 2, 1) := by decide +kernel
theorem dX9_rule_13 : decode cX9_rule 13 = .ok (.iconst 1, 1) := by decide +kernel
theorem dX9_rule_14 : decode cX9_rule 14 = .ok (.bipush 30, 2) := by decide +kernel
theorem dX9_rule_16 : decode cX9_rule 16 = .ok (.invokestatic 66, 3) := by decide +kernel
theorem dX9_rule_19 : decode cX9_rule 19 = .ok (.ifCond .ne 6, 3) := by decide +kernel
theorem dX9_rule_22 : decode cX9_rule 22 = .ok (.bipush (-2), 2) := by decide +kernel
theorem dX9_rule_24 : decode cX9_rule 24 = .ok (.ireturn, 1) := by decide +kernel
theorem dX9_rule_25 : decode cX9_rule 25 = .ok (.aload_n 0, 1) := by decide +kernel
theorem dX9_rule_26 : decode cX9_rule 26 = .ok (.getfield 12, 3) := by decide +kernel
theorem dX9_rule_29 : decode cX9_rule 29 = .ok (.getfield 163, 3) := by decide +kernel
theorem dX9_rule_32 : decode cX9_rule 32 = .ok (.getfield 104, 3) := by decide +kernel
theorem dX9_rule_35 : decode cX9_rule 35 = .ok (.bipush 8, 2) := by decide +kernel
theorem dX9_rule_37 : decode cX9_rule 37 = .ok (.if_icmp .lt 6, 3) := by decide +kernel
theorem dX9_rule_40 : decode cX9_rule 40 = .ok (.bipush (-4), 2) := by decide +kernel
theorem dX9_rule_42 : decode cX9_rule 42 = .ok (.ireturn, 1) := by decide +kernel
theorem dX9_rule_43 : decode cX9_rule 43 = .ok (.aload_n 0, 1) := by decide +kernel
theorem dX9_rule_44 : decode cX9_rule 44 = .ok (.getfield 12, 3) := by decide +kernel
theorem dX9_rule_47 : decode cX9_rule 47 = .ok (.getfield 166, 3) := by decide +kernel
theorem dX9_rule_50 : decode cX9_rule 50 = .ok (.iload_n 2, 1) := by decide +kernel
theorem dX9_rule_51 : decode cX9_rule 51 = .ok (.invokevirtual 109, 3) := by decide +kernel
theorem dX9_rule_54 : decode cX9_rule 54 = .ok (.pop, 1) := by decide +kernel
theorem dX9_rule_55 : decode cX9_rule 55 = .ok (.aload_n 0, 1) := by decide +kernel
theorem dX9_rule_56 : decode cX9_rule 56 = .ok (.getfield 12, 3) := by decide +kernel
theorem dX9_rule_59 : decode cX9_rule 59 = .ok (.getfield 163, 3) := by decide +kernel
theorem dX9_rule_62 : decode cX9_rule 62 = .ok (.iload_n 1, 1) := by decide +kernel
theorem dX9_rule_63 : decode cX9_rule 63 = .ok (.invokevirtual 109, 3) := by decide +kernel
theorem dX9_rule_66 : decode cX9_rule 66 = .ok (.iconst 1, 1) := by decide +kernel
theorem dX9_rule_67 : decode cX9_rule 67 = .ok (.isub, 1) := by decide +kernel
theorem dX9_rule_68 : decode cX9_rule 68 = .ok (.ireturn, 1) := by decide +kernel
def fX9_rule (a0 : Int) (a1 : Int) (μ : vr_M) : Option (Int × vr_M) :=
  (fX9_within a0 0 6 μ).bind (fun r1 => if ¬ r1.1 = 0 then (fX9_within a1 1 30 r1.2).bind (fun r2 => if ¬ r2.1 = 0 then vr_gd (vr_R (r2.2 19 1)) (if (r2.2 19 1) < 8 then (fX4_put 21 a1 r2.2).bind (fun r4 => (fX4_put 19 a0 r4.2).bind (fun r5 => vr_gd (vr_R (r5.1 - 1)) (some (r5.1 - 1, r5.2)))) else some ((-4), r2.2)) else some ((-2), r2.2)) else some ((-1), r1.2))
set_option maxRecDepth 100000 in
set_option maxHeartbeats 4000000 in
theorem ct_X9_rule (l : Launch) (G : vr_G) (a0 : Int) (h_a0 : vr_R a0) (a1 : Int) (h_a1 : vr_R a1) (μ : vr_M) : vr_CI l yX9_rule cX9_rule 3 (some .int) ({ frames := 1, cells := 0, slots := 0, locals := 22 } : Room) G [.ref (vr_ad G 0), .int (vr_I a0), .int (vr_I a1)] μ (fX9_rule a0 a1 μ) := by
  refine vr_start (own := RX9) (by decide) rfl (Nat.le_of_ble_eq_true rfl) (fun p e s m args below meth c C0 => ?_)
  show vr_J p l e _ s m args below meth c 3 0 0 G (vr_Z (vr_QI G) G args s below) 0 [(0, .ref (vr_ad G 0)), (1, .int (vr_I a0)), (2, .int (vr_I a1))] [] μ _
  unfold fX9_rule
  refine jr_iload_n C0 1 dX9_rule_0 rfl rfl ?_
  refine jr_iconst C0 dX9_rule_1 ?_
  refine jr_bipush C0 dX9_rule_2 rfl ?_
  refine jr_sI C0 (ct_X9_within l G a0 h_a0 0 (⟨by decide, by decide⟩) 6 (⟨by decide, by decide⟩) _) mi_X9_within wm_X9_66 ⟨Nat.le_of_ble_eq_true rfl, Nat.le_of_ble_eq_true rfl⟩ ⟨rfl, rfl⟩ (As := [.int (vr_I a0), .int (vr_I 0), .int (vr_I 6)]) rfl (st := []) rfl (Nat.le_of_ble_eq_true rfl) dX9_rule_4 (fun r1 hr1 => ?_)
  refine jr_if_ne C0 hr1 dX9_rule_7 (tgt := 12) (by decide) ?_ ?_
  · refine jr_iload_n C0 2 dX9_rule_12 rfl rfl ?_
    refine jr_iconst C0 dX9_rule_13 ?_
    refine jr_bipush C0 dX9_rule_14 rfl ?_
    refine jr_sI C0 (ct_X9_within l G a1 h_a1 1 (⟨by decide, by decide⟩) 30 (⟨by decide, by decide⟩) _) mi_X9_within wm_X9_66 ⟨Nat.le_of_ble_eq_true rfl, Nat.le_of_ble_eq_true rfl⟩ ⟨rfl, rfl⟩ (As := [.int (vr_I a1), .int (vr_I 1), .int (vr_I 30)]) rfl (st := []) rfl (Nat.le_of_ble_eq_true rfl) dX9_rule_16 (fun r2 hr2 => ?_)
    refine jr_if_ne C0 hr2 dX9_rule_19 (tgt := 25) (by decide) ?_ ?_
    · refine jr_aload_n C0 0 dX9_rule_25 rfl rfl ?_
      refine jr_getr C0 (by decide) kd_0 (by decide) rfl wx_X9 (i := 0) (by decide) wf_X9_12 (j := 1) rfl dX9_rule_26 ?_
      refine jr_getr C0 (by decide) kd_1 (by decide) rfl wx_X8 (i := 5) (by decide) wf_X9_163 (j := 19) rfl dX9_rule_29 ?_
      refine jr_geti C0 (by decide) kd_19 (by decide) rfl wx_X4 (i := 1) (by decide) wf_X9_104 rfl dX9_rule_32 ?_
      refine jr_bipush C0 dX9_rule_35 rfl ?_
      refine jr_gd (fun g3 => ?_)
      refine jr_icmp_lt C0 g3 (⟨by decide, by decide⟩) dX9_rule_37 (tgt := 43) (by decide) ?_ ?_
      · refine jr_aload_n C0 0 dX9_rule_43 rfl rfl ?_
        refine jr_getr C0 (by decide) kd_0 (by decide) rfl wx_X9 (i := 0) (by decide) wf_X9_12 (j := 1) rfl dX9_rule_44 ?_
        refine jr_getr C0 (by decide) kd_1 (by decide) rfl wx_X8 (i := 6) (by decide) wf_X9_166 (j := 21) rfl dX9_rule_47 ?_
        refine jr_iload_n C0 2 dX9_rule_50 rfl rfl ?_
        refine jr_vI C0 (by decide) kd_21 (by decide) rfl (ct_X4_put l G (by decide) kd_21 a1 h_a1 _) mi_X4_put wm_X9_109 ⟨Nat.le_of_ble_eq_true rfl, Nat.le_of_ble_eq_true rfl⟩ ⟨rfl, rfl⟩ (As := [.int (vr_I a1)]) rfl (st := []) rfl (Nat.le_of_ble_eq_true rfl) dX9_rule_51 (fun r4 hr4 => ?_)
        refine jr_pop C0 rfl dX9_rule_54 ?_
        refine jr_aload_n C0 0 dX9_rule_55 rfl rfl ?_
        refine jr_getr C0 (by decide) kd_0 (by decide) rfl wx_X9 (i := 0) (by decide) wf_X9_12 (j := 1) rfl dX9_rule_56 ?_
        refine jr_getr C0 (by decide) kd_1 (by decide) rfl wx_X8 (i := 5) (by decide) wf_X9_163 (j := 19) rfl dX9_rule_59 ?_
        refine jr_iload_n C0 1 dX9_rule_62 rfl rfl ?_
        refine jr_vI C0 (by decide) kd_19 (by decide) rfl (ct_X4_put l G (by decide) kd_19 a0 h_a0 _) mi_X4_put wm_X9_109 ⟨Nat.le_of_ble_eq_true rfl, Nat.le_of_ble_eq_true rfl⟩ ⟨rfl, rfl⟩ (As := [.int (vr_I a0)]) rfl (st := []) rfl (Nat.le_of_ble_eq_true rfl) dX9_rule_63 (fun r5 hr5 => ?_)
        refine jr_iconst C0 dX9_rule_66 ?_
        refine jr_isub C0 dX9_rule_67 ?_
        refine jr_gd (fun g6 => ?_)
        exact jr_iret C0 g6 dX9_rule_68
      refine jr_bipush C0 dX9_rule_40 rfl ?_
      exact jr_iret C0 (⟨by decide, by decide⟩) dX9_rule_42
    refine jr_bipush C0 dX9_rule_22 rfl ?_
    exact jr_iret C0 (⟨by decide, by decide⟩) dX9_rule_24
  refine jr_iconst C0 dX9_rule_10 ?_
  exact jr_iret C0 (⟨by decide, by decide⟩) dX9_rule_11
theorem dX9_beginRule_0 : decode cX9_beginRule 0 = .ok (.aload_n 0, 1) := by decide +kernel
theorem dX9_beginRule_1 : decode cX9_beginRule 1 = .ok (.getfield 46, 3) := by decide +kernel
theorem dX9_beginRule_4 : decode cX9_beginRule 4 = .ok (.getfield 136, 3) := by decide +kernel
theorem dX9_beginRule_7 : decode cX9_beginRule 7 = .ok (.aload_n 0, 1) := by decide +kernel
theorem dX9_beginRule_8 : decode cX9_beginRule 8 = .ok (.getfield 12, 3) := by decide +kernel
theorem dX9_beginRule_11 : decode cX9_beginRule 11 = .ok (.getfield 163, 3) := by decide +kernel
theorem dX9_beginRule_14 : decode cX9_beginRule 14 = .ok (.iload_n 1, 1) := by decide +kernel
theorem dX9_beginRule_15 : decode cX9_beginRule 15 = .ok (.invokevirtual 192, 3) := by decide +kernel
theorem dX9_beginRule_18 : decode cX9_beginRule 18 = .ok (.aload_n 0, 1) := by decide +kernel
theorem dX9_beginRule_19 : decode cX9_beginRule 19 = .ok (.getfield 12, 3) := by decide +kernel
theorem dX9_beginRule_22 : decode cX9_beginRule 22 = .ok (.getfield 166, 3) := by decide +kernel
theorem dX9_beginRule_25 : decode cX9_beginRule 25 = .ok (.iload_n 1, 1) := by decide +kernel
theorem dX9_beginRule_26 : decode cX9_beginRule 26 = .ok (.invokevirtual 192, 3) := by decide +kernel
theorem dX9_beginRule_29 : decode cX9_beginRule 29 = .ok (.invokevirtual 198, 3) := by decide +kernel
theorem dX9_beginRule_32 : decode cX9_beginRule 32 = .ok (.aload_n 0, 1) := by decide +kernel
theorem dX9_beginRule_33 : decode cX9_beginRule 33 = .ok (.getfield 46, 3) := by decide +kernel
theorem dX9_beginRule_36 : decode cX9_beginRule 36 = .ok (.invokevirtual 133, 3) := by decide +kernel
theorem dX9_beginRule_39 : decode cX9_beginRule 39 = .ok (.return_, 1) := by decide +kernel
def fX9_beginRule (a0 : Int) (μ : vr_M) : Option (Int × vr_M) :=
  (fX4_at 19 a0 μ).bind (fun r1 => (fX4_at 21 a0 r1.2).bind (fun r2 => (fX0_follow r1.1 r2.1 r2.2).bind (fun r3 => (fX7_begin  r3.2).bind (fun r4 => some (0, r4.2)))))
set_option maxRecDepth 100000 in
set_option maxHeartbeats 4000000 in
theorem ct_X9_beginRule (l : Launch) (G : vr_G) (a0 : Int) (h_a0 : vr_R a0) (μ : vr_M) : vr_CV l yX9_beginRule cX9_beginRule 2 none ({ frames := 5, cells := 0, slots := 0, locals := 115 } : Room) G [.ref (vr_ad G 0), .int (vr_I a0)] μ (fX9_beginRule a0 μ) := by
  refine vr_start (own := RX9) (by decide) rfl (Nat.le_of_ble_eq_true rfl) (fun p e s m args below meth c C0 => ?_)
  show vr_J p l e _ s m args below meth c 2 0 0 G (vr_Z (vr_QV G) G args s below) 0 [(0, .ref (vr_ad G 0)), (1, .int (vr_I a0))] [] μ _
  unfold fX9_beginRule
  refine jr_aload_n C0 0 dX9_beginRule_0 rfl rfl ?_
  refine jr_getr C0 (by decide) kd_0 (by decide) rfl wx_X9 (i := 5) (by decide) wf_X9_46 (j := 51) rfl dX9_beginRule_1 ?_
  refine jr_getr C0 (by decide) kd_51 (by decide) rfl wx_X7 (i := 3) (by decide) wf_X9_136 (j := 58) rfl dX9_beginRule_4 ?_
  refine jr_aload_n C0 0 dX9_beginRule_7 rfl rfl ?_
  refine jr_getr C0 (by decide) kd_0 (by decide) rfl wx_X9 (i := 0) (by decide) wf_X9_12 (j := 1) rfl dX9_beginRule_8 ?_
  refine jr_getr C0 (by decide) kd_1 (by decide) rfl wx_X8 (i := 5) (by decide) wf_X9_163 (j := 19) rfl dX9_beginRule_11 ?_
  refine jr_iload_n C0 1 dX9_beginRule_14 rfl rfl ?_
  refine jr_vI C0 (by decide) kd_19 (by decide) rfl (ct_X4_at l G (by decide) kd_19 a0 h_a0 _) mi_X4_at wm_X9_192 ⟨Nat.le_of_ble_eq_true rfl, Nat.le_of_ble_eq_true rfl⟩ ⟨rfl, rfl⟩ (As := [.int (vr_I a0)]) rfl (st := [.ref (vr_ad G 58)]) rfl (Nat.le_of_ble_eq_true rfl) dX9_beginRule_15 (fun r1 hr1 => ?_)
  refine jr_aload_n C0 0 dX9_beginRule_18 rfl rfl ?_
  refine jr_getr C0 (by decide) kd_0 (by decide) rfl wx_X9 (i := 0) (by decide) wf_X9_12 (j := 1) rfl dX9_beginRule_19 ?_
  refine jr_getr C0 (by decide) kd_1 (by decide) rfl wx_X8 (i := 6) (by decide) wf_X9_166 (j := 21) rfl dX9_beginRule_22 ?_
  refine jr_iload_n C0 1 dX9_beginRule_25 rfl rfl ?_
  refine jr_vI C0 (by decide) kd_21 (by decide) rfl (ct_X4_at l G (by decide) kd_21 a0 h_a0 _) mi_X4_at wm_X9_192 ⟨Nat.le_of_ble_eq_true rfl, Nat.le_of_ble_eq_true rfl⟩ ⟨rfl, rfl⟩ (As := [.int (vr_I a0)]) rfl (st := [.int (vr_I r1.1), .ref (vr_ad G 58)]) rfl (Nat.le_of_ble_eq_true rfl) dX9_beginRule_26 (fun r2 hr2 => ?_)
  refine jr_vV0 C0 (by decide) kd_58 (by decide) rfl (ct_X0_follow l G r1.1 hr1 r2.1 hr2 _) mi_X0_follow wm_X9_198 ⟨Nat.le_of_ble_eq_true rfl, Nat.le_of_ble_eq_true rfl⟩ ⟨rfl, rfl⟩ (As := [.int (vr_I r1.1), .int (vr_I r2.1)]) rfl (st := []) rfl (Nat.le_of_ble_eq_true rfl) dX9_beginRule_29 (fun r3 => ?_)
  refine jr_aload_n C0 0 dX9_beginRule_32 rfl rfl ?_
  refine jr_getr C0 (by decide) kd_0 (by decide) rfl wx_X9 (i := 5) (by decide) wf_X9_46 (j := 51) rfl dX9_beginRule_33 ?_
  refine jr_vV0 C0 (by decide) kd_51 (by decide) rfl (ct_X7_begin l G  _) mi_X7_begin wm_X9_133 ⟨Nat.le_of_ble_eq_true rfl, Nat.le_of_ble_eq_true rfl⟩ ⟨rfl, rfl⟩ (As := []) rfl (st := []) rfl (Nat.le_of_ble_eq_true rfl) dX9_beginRule_36 (fun r4 => ?_)
  exact jr_vret C0 dX9_beginRule_39
theorem dX9_burns_0 : decode cX9_burns 0 = .ok (.aload_n 0, 1) := by decide +kernel
theorem dX9_burns_1 : decode cX9_burns 1 = .ok (.getfield 12, 3) := by decide +kernel
theorem dX9_burns_4 : decode cX9_burns 4 = .ok (.iload_n 1, 1) := by decide +kernel
theorem dX9_burns_5 : decode cX9_burns 5 = .ok (.invokevirtual 169, 3) := by decide +kernel
theorem dX9_burns_8 : decode cX9_burns 8 = .ok (.ifCond .ne 5, 3) := by decide +kernel
theorem dX9_burns_11 : decode cX9_burns 11 = .ok (.iconst (-1), 1) := by decide +kernel
theorem dX9_burns_12 : decode cX9_burns 12 = .ok (.ireturn, 1) := by decide +kernel
theorem dX9_burns_13 : decode cX9_burns 13 = .ok (.aload_n 0, 1) := by decide +kernel
theorem dX9_burns_14 : decode cX9_burns 14 = .ok (.iload_n 1, 1) := by decide +kernel
theorem dX9_burns_15 : decode cX9_burns 15 = .ok (.invokevirtual 172, 3) := by decide +kernel
theorem dX9_burns_18 : decode cX9_burns 18 = .ok (.aload_n 0, 1) := by decide +kernel
theorem dX9_burns_19 : decode cX9_burns 19 = .ok (.getfield 46, 3) := by decide +kernel
theorem dX9_burns_22 : decode cX9_burns 22 = .ok (.getfield 136, 3) := by decide +kernel
theorem dX9_burns_25 : decode cX9_burns 25 = .ok (.aload_n 0, 1) := by decide +kernel
theorem dX9_burns_26 : decode cX9_burns 26 = .ok (.getfield 12, 3) := by decide +kernel
theorem dX9_burns_29 : decode cX9_burns 29 = .ok (.getfield 70, 3) := by decide +kernel
theorem dX9_burns_32 : decode cX9_burns 32 = .ok (.getfield 127, 3) := by decide +kernel
theorem dX9_burns_35 : decode cX9_burns 35 = .ok (.invokevirtual 176, 3) := by decide +kernel
theorem dX9_burns_38 : decode cX9_burns 38 = .ok (.ireturn, 1) := by decide +kernel
def fX9_burns (a0 : Int) (μ : vr_M) : Option (Int × vr_M) :=
  (fX8_hasRule 1 a0 μ).bind (fun r1 => if ¬ r1.1 = 0 then (fX9_beginRule a0 r1.2).bind (fun r2 => vr_gd (vr_R (r2.2 2 6)) ((fX0_picks (r2.2 2 6) r2.2).bind (fun r4 => some (r4.1, r4.2)))) else some ((-1), r1.2))
set_option maxRecDepth 100000 in
set_option maxHeartbeats 4000000 in
theorem ct_X9_burns (l : Launch) (G : vr_G) (a0 : Int) (h_a0 : vr_R a0) (μ : vr_M) : vr_CI l yX9_burns cX9_burns 2 (some .int) ({ frames := 6, cells := 0, slots := 0, locals := 136 } : Room) G [.ref (vr_ad G 0), .int (vr_I a0)] μ (fX9_burns a0 μ) := by
  refine vr_start (own := RX9) (by decide) rfl (Nat.le_of_ble_eq_true rfl) (fun p e s m args below meth c C0 => ?_)
  show vr_J p l e _ s m args below meth c 2 0 0 G (vr_Z (vr_QI G) G args s below) 0 [(0, .ref (vr_ad G 0)), (1, .int (vr_I a0))] [] μ _
  unfold fX9_burns
  refine jr_aload_n C0 0 dX9_burns_0 rfl rfl ?_
  refine jr_getr C0 (by decide) kd_0 (by decide) rfl wx_X9 (i := 0) (by decide) wf_X9_12 (j := 1) rfl dX9_burns_1 ?_
  refine jr_iload_n C0 1 dX9_burns_4 rfl rfl ?_
  refine jr_vI C0 (by decide) kd_1 (by decide) rfl (ct_X8_hasRule l G (by decide) kd_1 a0 h_a0 _) mi_X8_hasRule wm_X9_169 ⟨Nat.le_of_ble_eq_true rfl, Nat.le_of_ble_eq_true rfl⟩ ⟨rfl, rfl⟩ (As := [.int (vr_I a0)]) rfl (st := []) rfl (Nat.le_of_ble_eq_true rfl) dX9_burns_5 (fun r1 hr1 => ?_)
  refine jr_if_ne C0 hr1 dX9_burns_8 (tgt := 13) (by decide) ?_ ?_
  · refine jr_aload_n C0 0 dX9_burns_13 rfl rfl ?_
    refine jr_iload_n C0 1 dX9_burns_14 rfl rfl ?_
    refine jr_vV0 C0 (by decide) kd_0 (by decide) rfl (ct_X9_beginRule l G a0 h_a0 _) mi_X9_beginRule wm_X9_172 ⟨Nat.le_of_ble_eq_true rfl, Nat.le_of_ble_eq_true rfl⟩ ⟨rfl, rfl⟩ (As := [.int (vr_I a0)]) rfl (st := []) rfl (Nat.le_of_ble_eq_true rfl) dX9_burns_15 (fun r2 => ?_)
    refine jr_aload_n C0 0 dX9_burns_18 rfl rfl ?_
    refine jr_getr C0 (by decide) kd_0 (by decide) rfl wx_X9 (i := 5) (by decide) wf_X9_46 (j := 51) rfl dX9_burns_19 ?_
    refine jr_getr C0 (by decide) kd_51 (by decide) rfl wx_X7 (i := 3) (by decide) wf_X9_136 (j := 58) rfl dX9_burns_22 ?_
    refine jr_aload_n C0 0 dX9_burns_25 rfl rfl ?_
    refine jr_getr C0 (by decide) kd_0 (by decide) rfl wx_X9 (i := 0) (by decide) wf_X9_12 (j := 1) rfl dX9_burns_26 ?_
    refine jr_getr C0 (by decide) kd_1 (by decide) rfl wx_X8 (i := 0) (by decide) wf_X9_70 (j := 2) rfl dX9_burns_29 ?_
    refine jr_geti C0 (by decide) kd_2 (by decide) rfl wx_X2 (i := 6) (by decide) wf_X9_127 rfl dX9_burns_32 ?_
    refine jr_gd (fun g3 => ?_)
    refine jr_vI C0 (by decide) kd_58 (by decide) rfl (ct_X0_picks l G (r2.2 2 6) g3 _) mi_X0_picks wm_X9_176 ⟨Nat.le_of_ble_eq_true rfl, Nat.le_of_ble_eq_true rfl⟩ ⟨rfl, rfl⟩ (As := [.int (vr_I (r2.2 2 6))]) rfl (st := []) rfl (Nat.le_of_ble_eq_true rfl) dX9_burns_35 (fun r4 hr4 => ?_)
    exact jr_iret C0 hr4 dX9_burns_38
  refine jr_iconst C0 dX9_burns_11 ?_
  exact jr_iret C0 (⟨by decide, by decide⟩) dX9_burns_12
theorem dX9_moves_0 : decode cX9_moves 0 = .ok (.aload_n 0, 1) := by decide +kernel
theorem dX9_moves_1 : decode cX9_moves 1 = .ok (.getfield 12, 3) := by decide +kernel
theorem dX9_moves_4 : decode cX9_moves 4 = .ok (.iload_n 1, 1) := by decide +kernel
theorem dX9_moves_5 : decode cX9_moves 5 = .ok (.invokevirtual 169, 3) := by decide +kernel
theorem dX9_moves_8 : decode cX9_moves 8 = .ok (.ifCond .ne 5, 3) := by decide +kernel
theorem dX9_moves_11 : decode cX9_moves 11 = .ok (.iconst (-1), 1) := by decide +kernel
theorem dX9_moves_12 : decode cX9_moves 12 = .ok (.ireturn, 1) := by decide +kernel
theorem dX9_moves_13 : decode cX9_moves 13 = .ok (.aload_n 0, 1) := by decide +kernel
theorem dX9_moves_14 : decode cX9_moves 14 = .ok (.iload_n 1, 1) := by decide +kernel
theorem dX9_moves_15 : decode cX9_moves 15 = .ok (.invokevirtual 172, 3) := by decide +kernel
theorem dX9_moves_18 : decode cX9_moves 18 = .ok (.aload_n 0, 1) := by decide +kernel
theorem dX9_moves_19 : decode cX9_moves 19 = .ok (.getfield 46, 3) := by decide +kernel
theorem dX9_moves_22 : decode cX9_moves 22 = .ok (.getfield 136, 3) := by decide +kernel
theorem dX9_moves_25 : decode cX9_moves 25 = .ok (.invokevirtual 179, 3) := by decide +kernel
theorem dX9_moves_28 : decode cX9_moves 28 = .ok (.ireturn, 1) := by decide +kernel
def fX9_moves (a0 : Int) (μ : vr_M) : Option (Int × vr_M) :=
  (fX8_hasRule 1 a0 μ).bind (fun r1 => if ¬ r1.1 = 0 then (fX9_beginRule a0 r1.2).bind (fun r2 => (fX0_goal  r2.2).bind (fun r3 => some (r3.1, r3.2))) else some ((-1), r1.2))
set_option maxRecDepth 100000 in
set_option maxHeartbeats 4000000 in
theorem ct_X9_moves (l : Launch) (G : vr_G) (a0 : Int) (h_a0 : vr_R a0) (μ : vr_M) : vr_CI l yX9_moves cX9_moves 2 (some .int) ({ frames := 6, cells := 0, slots := 0, locals := 136 } : Room) G [.ref (vr_ad G 0), .int (vr_I a0)] μ (fX9_moves a0 μ) := by
  refine vr_start (own := RX9) (by decide) rfl (Nat.le_of_ble_eq_true rfl) (fun p e s m args below meth c C0 => ?_)
  show vr_J p l e _ s m args below meth c 2 0 0 G (vr_Z (vr_QI G) G args s below) 0 [(0, .ref (vr_ad G 0)), (1, .int (vr_I a0))] [] μ _
  unfold fX9_moves
  refine jr_aload_n C0 0 dX9_moves_0 rfl rfl ?_
  refine jr_getr C0 (by decide) kd_0 (by decide) rfl wx_X9 (i := 0) (by decide) wf_X9_12 (j := 1) rfl dX9_moves_1 ?_
  refine jr_iload_n C0 1 dX9_moves_4 rfl rfl ?_
  refine jr_vI C0 (by decide) kd_1 (by decide) rfl (ct_X8_hasRule l G (by decide) kd_1 a0 h_a0 _) mi_X8_hasRule wm_X9_169 ⟨Nat.le_of_ble_eq_true rfl, Nat.le_of_ble_eq_true rfl⟩ ⟨rfl, rfl⟩ (As := [.int (vr_I a0)]) rfl (st := []) rfl (Nat.le_of_ble_eq_true rfl) dX9_moves_5 (fun r1 hr1 => ?_)
  refine jr_if_ne C0 hr1 dX9_moves_8 (tgt := 13) (by decide) ?_ ?_
  · refine jr_aload_n C0 0 dX9_moves_13 rfl rfl ?_
    refine jr_iload_n C0 1 dX9_moves_14 rfl rfl ?_
    refine jr_vV0 C0 (by decide) kd_0 (by decide) rfl (ct_X9_beginRule l G a0 h_a0 _) mi_X9_beginRule wm_X9_172 ⟨Nat.le_of_ble_eq_true rfl, Nat.le_of_ble_eq_true rfl⟩ ⟨rfl, rfl⟩ (As := [.int (vr_I a0)]) rfl (st := []) rfl (Nat.le_of_ble_eq_true rfl) dX9_moves_15 (fun r2 => ?_)
    refine jr_aload_n C0 0 dX9_moves_18 rfl rfl ?_
    refine jr_getr C0 (by decide) kd_0 (by decide) rfl wx_X9 (i := 5) (by decide) wf_X9_46 (j := 51) rfl dX9_moves_19 ?_
    refine jr_getr C0 (by decide) kd_51 (by decide) rfl wx_X7 (i := 3) (by decide) wf_X9_136 (j := 58) rfl dX9_moves_22 ?_
    refine jr_vI C0 (by decide) kd_58 (by decide) rfl (ct_X0_goal l G  _) mi_X0_goal wm_X9_179 ⟨Nat.le_of_ble_eq_true rfl, Nat.le_of_ble_eq_true rfl⟩ ⟨rfl, rfl⟩ (As := []) rfl (st := []) rfl (Nat.le_of_ble_eq_true rfl) dX9_moves_25 (fun r3 hr3 => ?_)
    exact jr_iret C0 hr3 dX9_moves_28
  refine jr_iconst C0 dX9_moves_11 ?_
  exact jr_iret C0 (⟨by decide, by decide⟩) dX9_moves_12
theorem dX9_go_0 : decode cX9_go 0 = .ok (.aload_n 0, 1) := by decide +kernel
theorem dX9_go_1 : decode cX9_go 1 = .ok (.getfield 12, 3) := by decide +kernel
theorem dX9_go_4 : decode cX9_go 4 = .ok (.iload_n 1, 1) := by decide +kernel
theorem dX9_go_5 : decode cX9_go 5 = .ok (.invokevirtual 169, 3) := by decide +kernel
theorem dX9_go_8 : decode cX9_go 8 = .ok (.ifCond .ne 5, 3) := by decide +kernel
theorem dX9_go_11 : decode cX9_go 11 = .ok (.iconst (-1), 1) := by decide +kernel
theorem dX9_go_12 : decode cX9_go 12 = .ok (.ireturn, 1) := by decide +kernel
theorem dX9_go_13 : decode cX9_go 13 = .ok (.iload_n 2, 1) := by decide +kernel
theorem dX9_go_14 : decode cX9_go 14 = .ok (.iconst 1, 1) := by decide +kernel
theorem dX9_go_15 : decode cX9_go 15 = .ok (.bipush 30, 2) := by decide +kernel
theorem dX9_go_17 : decode cX9_go 17 = .ok (.invokestatic 66, 3) := by decide +kernel
theorem dX9_go_20 : decode cX9_go 20 = .ok (.ifCond .ne 6, 3) := by decide +kernel
theorem dX9_go_23 : decode cX9_go 23 = .ok (.bipush (-2), 2) := by decide +kernel
theorem dX9_go_25 : decode cX9_go 25 = .ok (.ireturn, 1) := by decide +kernel
theorem dX9_go_26 : decode cX9_go 26 = .ok (.aload_n 0, 1) := by decide +kernel
theorem dX9_go_27 : decode cX9_go 27 = .ok (.iload_n 1, 1) := by decide +kernel
theorem dX9_go_28 : decode cX9_go 28 = .ok (.invokevirtual 172, 3) := by decide +kernel
theorem dX9_go_31 : decode cX9_go 31 = .ok (.aload_n 0, 1) := by decide +kernel
theorem dX9_go_32 : decode cX9_go 32 = .ok (.getfield 46, 3) := by decide +kernel
theorem dX9_go_35 : decode cX9_go 35 = .ok (.iload_n 2, 1) := by decide +kernel
theorem dX9_go_36 : decode cX9_go 36 = .ok (.iconst 1, 1) := by decide +kernel
theorem dX9_go_37 : decode cX9_go 37 = .ok (.invokevirtual 182, 3) := by decide +kernel
theorem dX9_go_40 : decode cX9_go 40 = .ok (.aload_n 0, 1) := by decide +kernel
theorem dX9_go_41 : decode cX9_go 41 = .ok (.getfield 12, 3) := by decide +kernel
theorem dX9_go_44 : decode cX9_go 44 = .ok (.getfield 70, 3) := by decide +kernel
theorem dX9_go_47 : decode cX9_go 47 = .ok (.aload_n 0, 1) := by decide +kernel
theorem dX9_go_48 : decode cX9_go 48 = .ok (.getfield 46, 3) := by decide +kernel
theorem dX9_go_51 : decode cX9_go 51 = .ok (.getfield 156, 3) := by decide +kernel
theorem dX9_go_54 : decode cX9_go 54 = .ok (.invokevirtual 157, 3) := by decide +kernel
theorem dX9_go_57 : decode cX9_go 57 = .ok (.aload_n 0, 1) := by decide +kernel
theorem dX9_go_58 : decode cX9_go 58 = .ok (.getfield 46, 3) := by decide +kernel
theorem dX9_go_61 : decode cX9_go 61 = .ok (.getfield 186, 3) := by decide +kernel
theorem dX9_go_64 : decode cX9_go 64 = .ok (.ireturn, 1) := by decide +kernel
def fX9_go (a0 : Int) (a1 : Int) (μ : vr_M) : Option (Int × vr_M) :=
  (fX8_hasRule 1 a0 μ).bind (fun r1 => if ¬ r1.1 = 0 then (fX9_within a1 1 30 r1.2).bind (fun r2 => if ¬ r2.1 = 0 then (fX9_beginRule a0 r2.2).bind (fun r3 => (fX7_spendYears a1 1 r3.2).bind (fun r4 => (fX2_become 2 52 r4.2).bind (fun r5 => vr_gd (vr_R (r5.2 51 5)) (some (r5.2 51 5, r5.2))))) else some ((-2), r2.2)) else some ((-1), r1.2))
set_option maxRecDepth 100000 in
set_option maxHeartbeats 4000000 in
theorem ct_X9_go (l : Launch) (G : vr_G) (a0 : Int) (h_a0 : vr_R a0) (a1 : Int) (h_a1 : vr_R a1) (μ : vr_M) : vr_CI l yX9_go cX9_go 3 (some .int) ({ frames := 6, cells := 0, slots := 0, locals := 147 } : Room) G [.ref (vr_ad G 0), .int (vr_I a0), .int (vr_I a1)] μ (fX9_go a0 a1 μ) := by
  refine vr_start (own := RX9) (by decide) rfl (Nat.le_of_ble_eq_true rfl) (fun p e s m args below meth c C0 => ?_)
  show vr_J p l e _ s m args below meth c 3 0 0 G (vr_Z (vr_QI G) G args s below) 0 [(0, .ref (vr_ad G 0)), (1, .int (vr_I a0)), (2, .int (vr_I a1))] [] μ _
  unfold fX9_go
  refine jr_aload_n C0 0 dX9_go_0 rfl rfl ?_
  refine jr_getr C0 (by decide) kd_0 (by decide) rfl wx_X9 (i := 0) (by decide) wf_X9_12 (j := 1) rfl dX9_go_1 ?_
  refine jr_iload_n C0 1 dX9_go_4 rfl rfl ?_
  refine jr_vI C0 (by decide) kd_1 (by decide) rfl (ct_X8_hasRule l G (by decide) kd_1 a0 h_a0 _) mi_X8_hasRule wm_X9_169 ⟨Nat.le_of_ble_eq_true rfl, Nat.le_of_ble_eq_true rfl⟩ ⟨rfl, rfl⟩ (As := [.int (vr_I a0)]) rfl (st := []) rfl (Nat.le_of_ble_eq_true rfl) dX9_go_5 (fun r1 hr1 => ?_)
  refine jr_if_ne C0 hr1 dX9_go_8 (tgt := 13) (by decide) ?_ ?_
  · refine jr_iload_n C0 2 dX9_go_13 rfl rfl ?_
    refine jr_iconst C0 dX9_go_14 ?_
    refine jr_bipush C0 dX9_go_15 rfl ?_
    refine jr_sI C0 (ct_X9_within l G a1 h_a1 1 (⟨by decide, by decide⟩) 30 (⟨by decide, by decide⟩) _) mi_X9_within wm_X9_66 ⟨Nat.le_of_ble_eq_true rfl, Nat.le_of_ble_eq_true rfl⟩ ⟨rfl, rfl⟩ (As := [.int (vr_I a1), .int (vr_I 1), .int (vr_I 30)]) rfl (st := []) rfl (Nat.le_of_ble_eq_true rfl) dX9_go_17 (fun r2 hr2 => ?_)
    refine jr_if_ne C0 hr2 dX9_go_20 (tgt := 26) (by decide) ?_ ?_
    · refine jr_aload_n C0 0 dX9_go_26 rfl rfl ?_
      refine jr_iload_n C0 1 dX9_go_27 rfl rfl ?_
      refine jr_vV0 C0 (by decide) kd_0 (by decide) rfl (ct_X9_beginRule l G a0 h_a0 _) mi_X9_beginRule wm_X9_172 ⟨Nat.le_of_ble_eq_true rfl, Nat.le_of_ble_eq_true rfl⟩ ⟨rfl, rfl⟩ (As := [.int (vr_I a0)]) rfl (st := []) rfl (Nat.le_of_ble_eq_true rfl) dX9_go_28 (fun r3 => ?_)
      refine jr_aload_n C0 0 dX9_go_31 rfl rfl ?_
      refine jr_getr C0 (by decide) kd_0 (by decide) rfl wx_X9 (i := 5) (by decide) wf_X9_46 (j := 51) rfl dX9_go_32 ?_
      refine jr_iload_n C0 2 dX9_go_35 rfl rfl ?_
      refine jr_iconst C0 dX9_go_36 ?_
      refine jr_vV0 C0 (by decide) kd_51 (by decide) rfl (ct_X7_spendYears l G a1 h_a1 1 (⟨by decide, by decide⟩) _) mi_X7_spendYears wm_X9_182 ⟨Nat.le_of_ble_eq_true rfl, Nat.le_of_ble_eq_true rfl⟩ ⟨rfl, rfl⟩ (As := [.int (vr_I a1), .int (vr_I 1)]) rfl (st := []) rfl (Nat.le_of_ble_eq_true rfl) dX9_go_37 (fun r4 => ?_)
      refine jr_aload_n C0 0 dX9_go_40 rfl rfl ?_
      refine jr_getr C0 (by decide) kd_0 (by decide) rfl wx_X9 (i := 0) (by decide) wf_X9_12 (j := 1) rfl dX9_go_41 ?_
      refine jr_getr C0 (by decide) kd_1 (by decide) rfl wx_X8 (i := 0) (by decide) wf_X9_70 (j := 2) rfl dX9_go_44 ?_
      refine jr_aload_n C0 0 dX9_go_47 rfl rfl ?_
      refine jr_getr C0 (by decide) kd_0 (by decide) rfl wx_X9 (i := 5) (by decide) wf_X9_46 (j := 51) rfl dX9_go_48 ?_
      refine jr_getr C0 (by decide) kd_51 (by decide) rfl wx_X7 (i := 2) (by decide) wf_X9_156 (j := 52) rfl dX9_go_51 ?_
      refine jr_vV0 C0 (by decide) kd_2 (by decide) rfl (ct_X2_become l G (by decide) kd_2 (by decide) kd_52 _) mi_X2_become wm_X9_157 ⟨Nat.le_of_ble_eq_true rfl, Nat.le_of_ble_eq_true rfl⟩ ⟨rfl, rfl⟩ (As := [.ref (vr_ad G 52)]) rfl (st := []) rfl (Nat.le_of_ble_eq_true rfl) dX9_go_54 (fun r5 => ?_)
      refine jr_aload_n C0 0 dX9_go_57 rfl rfl ?_
      refine jr_getr C0 (by decide) kd_0 (by decide) rfl wx_X9 (i := 5) (by decide) wf_X9_46 (j := 51) rfl dX9_go_58 ?_
      refine jr_geti C0 (by decide) kd_51 (by decide) rfl wx_X7 (i := 5) (by decide) wf_X9_186 rfl dX9_go_61 ?_
      refine jr_gd (fun g6 => ?_)
      exact jr_iret C0 g6 dX9_go_64
    refine jr_bipush C0 dX9_go_23 rfl ?_
    exact jr_iret C0 (⟨by decide, by decide⟩) dX9_go_25
  refine jr_iconst C0 dX9_go_11 ?_
  exact jr_iret C0 (⟨by decide, by decide⟩) dX9_go_12
theorem dX9_row_0 : decode cX9_row 0 = .ok (.iload_n 1, 1) := by decide +kernel
theorem dX9_row_1 : decode cX9_row 1 = .ok (.iconst (-1), 1) := by decide +kernel
theorem dX9_row_2 : decode cX9_row 2 = .ok (.if_icmp .ne 16, 3) := by decide +kernel
theorem dX9_row_5 : decode cX9_row 5 = .ok (.aload_n 0, 1) := by decide +kernel
theorem dX9_row_6 : decode cX9_row 6 = .ok (.getfield 12, 3) := by decide +kernel
theorem dX9_row_9 : decode cX9_row 9 = .ok (.getfield 189, 3) := by decide +kernel
theorem dX9_row_12 : decode cX9_row 12 = .ok (.iconst 0, 1) := by decide +kernel
theorem dX9_row_13 : decode cX9_row 13 = .ok (.putfield 104, 3) := by decide +kernel
theorem dX9_row_16 : decode cX9_row 16 = .ok (.iconst 0, 1) := by decide +kernel
theorem dX9_row_17 : decode cX9_row 17 = .ok (.ireturn, 1) := by decide +kernel
theorem dX9_row_18 : decode cX9_row 18 = .ok (.iload_n 1, 1) := by decide +kernel
theorem dX9_row_19 : decode cX9_row 19 = .ok (.iconst 0, 1) := by decide +kernel
theorem dX9_row_20 : decode cX9_row 20 = .ok (.sipush 255, 3) := by decide +kernel
theorem dX9_row_23 : decode cX9_row 23 = .ok (.invokestatic 66, 3) := by decide +kernel
theorem dX9_row_26 : decode cX9_row 26 = .ok (.ifCond .ne 6, 3) := by decide +kernel
theorem dX9_row_29 : decode cX9_row 29 = .ok (.bipush (-2), 2) := by decide +kernel
theorem dX9_row_31 : decode cX9_row 31 = .ok (.ireturn, 1) := by decide +kernel
theorem dX9_row_32 : decode cX9_row 32 = .ok (.aload_n 0, 1) := by decide +kernel
theorem dX9_row_33 : decode cX9_row 33 = .ok (.getfield 12, 3) := by decide +kernel
theorem dX9_row_36 : decode cX9_row 36 = .ok (.getfield 189, 3) := by decide +kernel
theorem dX9_row_39 : decode cX9_row 39 = .ok (.getfield 104, 3) := by decide +kernel
theorem dX9_row_42 : decode cX9_row 42 = .ok (.bipush 12, 2) := by decide +kernel
theorem dX9_row_44 : decode cX9_row 44 = .ok (.if_icmp .lt 8, 3) := by decide +kernel
theorem dX9_row_47 : decode cX9_row 47 = .ok (.bipush (-4), 2) := by decide +kernel
theorem dX9_row_49 : decode cX9_row 49 = .ok (.goto 14, 3) := by decide +kernel
theorem dX9_row_52 : decode cX9_row 52 = .ok (.aload_n 0, 1) := by decide +kernel
theorem dX9_row_53 : decode cX9_row 53 = .ok (.getfield 12, 3) := by decide +kernel
theorem dX9_row_56 : decode cX9_row 56 = .ok (.getfield 189, 3) := by decide +kernel
theorem dX9_row_59 : decode cX9_row 59 = .ok (.iload_n 1, 1) := by decide +kernel
theorem dX9_row_60 : decode cX9_row 60 = .ok (.invokevirtual 109, 3) := by decide +kernel
theorem dX9_row_63 : decode cX9_row 63 = .ok (.ireturn, 1) := by decide +kernel
def fX9_row_B63 (y0 : Int) (μ : vr_M) : Option (Int × vr_M) :=
  some (y0, μ)
def fX9_row (a0 : Int) (μ : vr_M) : Option (Int × vr_M) :=
  if ¬ a0 = (-1) then (fX9_within a0 0 255 μ).bind (fun r1 => if ¬ r1.1 = 0 then vr_gd (vr_R (r1.2 15 1)) (if (r1.2 15 1) < 12 then (fX4_put 15 a0 r1.2).bind (fun r3 => fX9_row_B63 r3.1 r3.2) else fX9_row_B63 (-4) r1.2) else some ((-2), r1.2)) else some (0, vr_u μ 15 1 0)
set_option maxRecDepth 100000 in
set_option maxHeartbeats 4000000 in
theorem ct_X9_row (l : Launch) (G : vr_G) (a0 : Int) (h_a0 : vr_R a0) (μ : vr_M) : vr_CI l yX9_row cX9_row 2 (some .int) ({ frames := 1, cells := 0, slots := 0, locals := 22 } : Room) G [.ref (vr_ad G 0), .int (vr_I a0)] μ (fX9_row a0 μ) := by
  refine vr_start (own := RX9) (by decide) rfl (Nat.le_of_ble_eq_true rfl) (fun p e s m args below meth c C0 => ?_)
  show vr_J p l e _ s m args below meth c 2 0 0 G (vr_Z (vr_QI G) G args s below) 0 [(0, .ref (vr_ad G 0)), (1, .int (vr_I a0))] [] μ _
  have B63 : ∀ (y0 : Int) (h_y0 : vr_R y0) (μ : vr_M), vr_J p l e ({ frames := 1, cells := 0, slots := 0, locals := 22 } : Room) s m args below meth c 2 0 0 G (vr_Z (vr_QI G) G args s below) 63 [] [.int (vr_I y0)] μ (fX9_row_B63 y0 μ) := by
    intro y0 h_y0 μ
    unfold fX9_row_B63
    exact jr_iret C0 h_y0 dX9_row_63
  unfold fX9_row
  refine jr_iload_n C0 1 dX9_row_0 rfl rfl ?_
  refine jr_iconst C0 dX9_row_1 ?_
  refine jr_icmp_ne C0 h_a0 (⟨by decide, by decide⟩) dX9_row_2 (tgt := 18) (by decide) ?_ ?_
  · refine jr_iload_n C0 1 dX9_row_18 rfl rfl ?_
    refine jr_iconst C0 dX9_row_19 ?_
    refine jr_sipush C0 dX9_row_20 rfl ?_
    refine jr_sI C0 (ct_X9_within l G a0 h_a0 0 (⟨by decide, by decide⟩) 255 (⟨by decide, by decide⟩) _) mi_X9_within wm_X9_66 ⟨Nat.le_of_ble_eq_true rfl, Nat.le_of_ble_eq_true rfl⟩ ⟨rfl, rfl⟩ (As := [.int (vr_I a0), .int (vr_I 0), .int (vr_I 255)]) rfl (st := []) rfl (Nat.le_of_ble_eq_true rfl) dX9_row_23 (fun r1 hr1 => ?_)
    refine jr_if_ne C0 hr1 dX9_row_26 (tgt := 32) (by decide) ?_ ?_
    · refine jr_aload_n C0 0 dX9_row_32 rfl rfl ?_
      refine jr_getr C0 (by decide) kd_0 (by decide) rfl wx_X9 (i := 0) (by decide) wf_X9_12 (j := 1) rfl dX9_row_33 ?_
      refine jr_getr C0 (by decide) kd_1 (by decide) rfl wx_X8 (i := 3) (by decide) wf_X9_189 (j := 15) rfl dX9_row_36 ?_
      refine jr_geti C0 (by decide) kd_15 (by decide) rfl wx_X4 (i := 1) (by decide) wf_X9_104 rfl dX9_row_39 ?_
      refine jr_bipush C0 dX9_row_42 rfl ?_
      refine jr_gd (fun g2 => ?_)
      refine jr_icmp_lt C0 g2 (⟨by decide, by decide⟩) dX9_row_44 (tgt := 52) (by decide) ?_ ?_
      · refine jr_aload_n C0 0 dX9_row_52 rfl rfl ?_
        refine jr_getr C0 (by decide) kd_0 (by decide) rfl wx_X9 (i := 0) (by decide) wf_X9_12 (j := 1) rfl dX9_row_53 ?_
        refine jr_getr C0 (by decide) kd_1 (by decide) rfl wx_X8 (i := 3) (by decide) wf_X9_189 (j := 15) rfl dX9_row_56 ?_
        refine jr_iload_n C0 1 dX9_row_59 rfl rfl ?_
        refine jr_vI C0 (by decide) kd_15 (by decide) rfl (ct_X4_put l G (by decide) kd_15 a0 h_a0 _) mi_X4_put wm_X9_109 ⟨Nat.le_of_ble_eq_true rfl, Nat.le_of_ble_eq_true rfl⟩ ⟨rfl, rfl⟩ (As := [.int (vr_I a0)]) rfl (st := []) rfl (Nat.le_of_ble_eq_true rfl) dX9_row_60 (fun r3 hr3 => ?_)
        refine jr_sub [] rfl ?_
        exact B63 r3.1 hr3 _
      refine jr_bipush C0 dX9_row_47 rfl ?_
      refine jr_goto C0 dX9_row_49 (tgt := 63) (by decide) ?_
      refine jr_sub [] rfl ?_
      exact B63 (-4) (⟨by decide, by decide⟩) _
    refine jr_bipush C0 dX9_row_29 rfl ?_
    exact jr_iret C0 (⟨by decide, by decide⟩) dX9_row_31
  refine jr_aload_n C0 0 dX9_row_5 rfl rfl ?_
  refine jr_getr C0 (by decide) kd_0 (by decide) rfl wx_X9 (i := 0) (by decide) wf_X9_12 (j := 1) rfl dX9_row_6 ?_
  refine jr_getr C0 (by decide) kd_1 (by decide) rfl wx_X8 (i := 3) (by decide) wf_X9_189 (j := 15) rfl dX9_row_9 ?_
  refine jr_iconst C0 dX9_row_12 ?_
  refine jr_puti C0 (by decide) kd_15 (by decide) rfl wx_X4 (i := 1) (by decide) wf_X9_104 rfl tyX4_ok nmX4 rfl rfl rfl dX9_row_13 ?_
  refine jr_iconst C0 dX9_row_16 ?_
  exact jr_iret C0 (⟨by decide, by decide⟩) dX9_row_17
theorem dX9_judged_0 : decode cX9_judged 0 = .ok (.aload_n 0, 1) := by decide +kernel
theorem dX9_judged_1 : decode cX9_judged 1 = .ok (.getfield 46, 3) := by decide +kernel
theorem dX9_judged_4 : decode cX9_judged 4 = .ok (.invokevirtual 133, 3) := by decide +kernel
theorem dX9_judged_7 : decode cX9_judged 7 = .ok (.iconst 0, 1) := by decide +kernel
theorem dX9_judged_8 : decode cX9_judged 8 = .ok (.istore_n 1, 1) := by decide +kernel
theorem dX9_judged_9 : decode cX9_judged 9 = .ok (.iload_n 1, 1) := by decide +kernel
theorem dX9_judged_10 : decode cX9_judged 10 = .ok (.aload_n 0, 1) := by decide +kernel
theorem dX9_judged_11 : decode cX9_judged 11 = .ok (.getfield 12, 3) := by decide +kernel
theorem dX9_judged_14 : decode cX9_judged 14 = .ok (.getfield 189, 3) := by decide +kernel
theorem dX9_judged_17 : decode cX9_judged 17 = .ok (.getfield 104, 3) := by decide +kernel
theorem dX9_judged_20 : decode cX9_judged 20 = .ok (.if_icmp .ge 49, 3) := by decide +kernel
theorem dX9_judged_23 : decode cX9_judged 23 = .ok (.aload_n 0, 1) := by decide +kernel
theorem dX9_judged_24 : decode cX9_judged 24 = .ok (.getfield 46, 3) := by decide +kernel
theorem dX9_judged_27 : decode cX9_judged 27 = .ok (.aload_n 0, 1) := by decide +kernel
theorem dX9_judged_28 : decode cX9_judged 28 = .ok (.getfield 12, 3) := by decide +kernel
theorem dX9_judged_31 : decode cX9_judged 31 = .ok (.getfield 189, 3) := by decide +kernel
theorem dX9_judged_34 : decode cX9_judged 34 = .ok (.iload_n 1, 1) := by decide +kernel
theorem dX9_judged_35 : decode cX9_judged 35 = .ok (.invokevirtual 192, 3) := by decide +kernel
theorem dX9_judged_38 : decode cX9_judged 38 = .ok (.aload_n 0, 1) := by decide +kernel
theorem dX9_judged_39 : decode cX9_judged 39 = .ok (.getfield 12, 3) := by decide +kernel
theorem dX9_judged_42 : decode cX9_judged 42 = .ok (.getfield 70, 3) := by decide +kernel
theorem dX9_judged_45 : decode cX9_judged 45 = .ok (.invokevirtual 149, 3) := by decide +kernel
theorem dX9_judged_48 : decode cX9_judged 48 = .ok (.iand, 1) := by decide +kernel
theorem dX9_judged_49 : decode cX9_judged 49 = .ok (.aload_n 0, 1) := by decide +kernel
theorem dX9_judged_50 : decode cX9_judged 50 = .ok (.getfield 12, 3) := by decide +kernel
theorem dX9_judged_53 : decode cX9_judged 53 = .ok (.getfield 70, 3) := by decide +kernel
theorem dX9_judged_56 : decode cX9_judged 56 = .ok (.getfield 127, 3) := by decide +kernel
theorem dX9_judged_59 : decode cX9_judged 59 = .ok (.iconst 1, 1) := by decide +kernel
theorem dX9_judged_60 : decode cX9_judged 60 = .ok (.invokevirtual 152, 3) := by decide +kernel
theorem dX9_judged_63 : decode cX9_judged 63 = .ok (.iinc 1 1, 3) := by decide +kernel
theorem dX9_judged_66 : decode cX9_judged 66 = .ok (.goto (-57), 3) := by decide +kernel
theorem dX9_judged_69 : decode cX9_judged 69 = .ok (.aload_n 0, 1) := by decide +kernel
theorem dX9_judged_70 : decode cX9_judged 70 = .ok (.getfield 46, 3) := by decide +kernel
theorem dX9_judged_73 : decode cX9_judged 73 = .ok (.getfield 195, 3) := by decide +kernel
theorem dX9_judged_76 : decode cX9_judged 76 = .ok (.ireturn, 1) := by decide +kernel
def fX9_judged_L9 : Nat → Int → vr_M → Option (Int × vr_M)
  | 0, _, _ => none
  | n + 1, x1, μ => vr_gd (vr_R (μ 15 1)) (if (μ 15 1) ≤ x1 then vr_gd (vr_R (μ 51 6)) (some (μ 51 6, μ)) else (fX4_at 15 x1 μ).bind (fun r3 => (fX2_all 2 r3.2).bind (fun r4 => vr_gd (vr_R (r4.2 2 6)) ((fX7_spend (vr_and r3.1 r4.1) (r4.2 2 6) 1 r4.2).bind (fun r6 => vr_gd (vr_R (x1 + 1)) ((fX9_judged_L9 n) (x1 + 1) r6.2))))))
def fX9_judged (μ : vr_M) : Option (Int × vr_M) :=
  (fX7_begin  μ).bind (fun r8 => fX9_judged_L9 9000 0 r8.2)
set_option maxRecDepth 100000 in
set_option maxHeartbeats 4000000 in
theorem ct_X9_judged (l : Launch) (G : vr_G) (μ : vr_M) : vr_CI l yX9_judged cX9_judged 2 (some .int) ({ frames := 5, cells := 0, slots := 0, locals := 123 } : Room) G [.ref (vr_ad G 0)] μ (fX9_judged μ) := by
  refine vr_start (own := RX9) (by decide) rfl (Nat.le_of_ble_eq_true rfl) (fun p e s m args below meth c C0 => ?_)
  show vr_J p l e _ s m args below meth c 2 0 0 G (vr_Z (vr_QI G) G args s below) 0 [(0, .ref (vr_ad G 0))] [] μ _
  have L9 : ∀ (n : Nat) (x1 : Int) (h_x1 : vr_R x1) (μ : vr_M), vr_J p l e ({ frames := 5, cells := 0, slots := 0, locals := 123 } : Room) s m args below meth c 2 0 0 G (vr_Z (vr_QI G) G args s below) 9 [(0, .ref (vr_ad G 0)), (1, .int (vr_I x1))] [] μ (fX9_judged_L9 n x1 μ) := by
    intro n9
    induction n9 with
    | zero => intros; exact jr_none
    | succ n9 ih9 =>
      intro x1 h_x1 μ
      rw [fX9_judged_L9.eq_2]
      refine jr_iload_n C0 1 dX9_judged_9 rfl rfl ?_
      refine jr_aload_n C0 0 dX9_judged_10 rfl rfl ?_
      refine jr_getr C0 (by decide) kd_0 (by decide) rfl wx_X9 (i := 0) (by decide) wf_X9_12 (j := 1) rfl dX9_judged_11 ?_
      refine jr_getr C0 (by decide) kd_1 (by decide) rfl wx_X8 (i := 3) (by decide) wf_X9_189 (j := 15) rfl dX9_judged_14 ?_
      refine jr_geti C0 (by decide) kd_15 (by decide) rfl wx_X4 (i := 1) (by decide) wf_X9_104 rfl dX9_judged_17 ?_
      refine jr_gd (fun g1 => ?_)
      refine jr_icmp_ge C0 h_x1 g1 dX9_judged_20 (tgt := 69) (by decide) ?_ ?_
      · refine jr_aload_n C0 0 dX9_judged_69 rfl rfl ?_
        refine jr_getr C0 (by decide) kd_0 (by decide) rfl wx_X9 (i := 5) (by decide) wf_X9_46 (j := 51) rfl dX9_judged_70 ?_
        refine jr_geti C0 (by decide) kd_51 (by decide) rfl wx_X7 (i := 6) (by decide) wf_X9_195 rfl dX9_judged_73 ?_
        refine jr_gd (fun g2 => ?_)
        exact jr_iret C0 g2 dX9_judged_76
      refine jr_aload_n C0 0 dX9_judged_23 rfl rfl ?_
      refine jr_getr C0 (by decide) kd_0 (by decide) rfl wx_X9 (i := 5) (by decide) wf_X9_46 (j := 51) rfl dX9_judged_24 ?_
      refine jr_aload_n C0 0 dX9_judged_27 rfl rfl ?_
      refine jr_getr C0 (by decide) kd_0 (by decide) rfl wx_X9 (i := 0) (by decide) wf_X9_12 (j := 1) rfl dX9_judged_28 ?_
      refine jr_getr C0 (by decide) kd_1 (by decide) rfl wx_X8 (i := 3) (by decide) wf_X9_189 (j := 15) rfl dX9_judged_31 ?_
      refine jr_iload_n C0 1 dX9_judged_34 rfl rfl ?_
      refine jr_vI C0 (by decide) kd_15 (by decide) rfl (ct_X4_at l G (by decide) kd_15 x1 h_x1 _) mi_X4_at wm_X9_192 ⟨Nat.le_of_ble_eq_true rfl, Nat.le_of_ble_eq_true rfl⟩ ⟨rfl, rfl⟩ (As := [.int (vr_I x1)]) rfl (st := [.ref (vr_ad G 51)]) rfl (Nat.le_of_ble_eq_true rfl) dX9_judged_35 (fun r3 hr3 => ?_)
      refine jr_aload_n C0 0 dX9_judged_38 rfl rfl ?_
      refine jr_getr C0 (by decide) kd_0 (by decide) rfl wx_X9 (i := 0) (by decide) wf_X9_12 (j := 1) rfl dX9_judged_39 ?_
      refine jr_getr C0 (by decide) kd_1 (by decide) rfl wx_X8 (i := 0) (by decide) wf_X9_70 (j := 2) rfl dX9_judged_42 ?_
      refine jr_vI C0 (by decide) kd_2 (by decide) rfl (ct_X2_all l G (by decide) kd_2 _) mi_X2_all wm_X9_149 ⟨Nat.le_of_ble_eq_true rfl, Nat.le_of_ble_eq_true rfl⟩ ⟨rfl, rfl⟩ (As := []) rfl (st := [.int (vr_I r3.1), .ref (vr_ad G 51)]) rfl (Nat.le_of_ble_eq_true rfl) dX9_judged_45 (fun r4 hr4 => ?_)
      refine jr_iand C0 dX9_judged_48 ?_
      refine jr_aload_n C0 0 dX9_judged_49 rfl rfl ?_
      refine jr_getr C0 (by decide) kd_0 (by decide) rfl wx_X9 (i := 0) (by decide) wf_X9_12 (j := 1) rfl dX9_judged_50 ?_
      refine jr_getr C0 (by decide) kd_1 (by decide) rfl wx_X8 (i := 0) (by decide) wf_X9_70 (j := 2) rfl dX9_judged_53 ?_
      refine jr_geti C0 (by decide) kd_2 (by decide) rfl wx_X2 (i := 6) (by decide) wf_X9_127 rfl dX9_judged_56 ?_
      refine jr_iconst C0 dX9_judged_59 ?_
      refine jr_gd (fun g5 => ?_)
      refine jr_vV0 C0 (by decide) kd_51 (by decide) rfl (ct_X7_spend l G (vr_and r3.1 r4.1) (vr_RT _) (r4.2 2 6) g5 1 (⟨by decide, by decide⟩) _) mi_X7_spend wm_X9_152 ⟨Nat.le_of_ble_eq_true rfl, Nat.le_of_ble_eq_true rfl⟩ ⟨rfl, rfl⟩ (As := [.int (vr_I (vr_and r3.1 r4.1)), .int (vr_I (r4.2 2 6)), .int (vr_I 1)]) rfl (st := []) rfl (Nat.le_of_ble_eq_true rfl) dX9_judged_60 (fun r6 => ?_)
      refine jr_iinc C0 (q := 1) dX9_judged_63 rfl (by decide) (lv' := [(1, .int (vr_I (x1 + 1))), (0, .ref (vr_ad G 0))]) rfl ?_
      refine jr_goto C0 dX9_judged_66 (tgt := 9) (by decide) ?_
      refine jr_gd (fun g7 => ?_)
      refine jr_sub [1, 0] rfl ?_
      exact ih9 (x1 + 1) g7 _
  unfold fX9_judged
  refine jr_aload_n C0 0 dX9_judged_0 rfl rfl ?_
  refine jr_getr C0 (by decide) kd_0 (by decide) rfl wx_X9 (i := 5) (by decide) wf_X9_46 (j := 51) rfl dX9_judged_1 ?_
  refine jr_vV0 C0 (by decide) kd_51 (by decide) rfl (ct_X7_begin l G  _) mi_X7_begin wm_X9_133 ⟨Nat.le_of_ble_eq_true rfl, Nat.le_of_ble_eq_true rfl⟩ ⟨rfl, rfl⟩ (As := []) rfl (st := []) rfl (Nat.le_of_ble_eq_true rfl) dX9_judged_4 (fun r8 => ?_)
  refine jr_iconst C0 dX9_judged_7 ?_
  refine jr_istore_n C0 dX9_judged_8 rfl (by decide) (lv' := [(1, .int (vr_I 0)), (0, .ref (vr_ad G 0))]) rfl ?_
  refine jr_sub [1, 0] rfl ?_
  exact L9 9000 0 (⟨by decide, by decide⟩) _
theorem dX9_mostMouths_0 : decode cX9_mostMouths 0 = .ok (.bipush 99, 2) := by decide +kernel
theorem dX9_mostMouths_2 : decode cX9_mostMouths 2 = .ok (.istore_n 2, 1) := by decide +kernel
theorem dX9_mostMouths_3 : decode cX9_mostMouths 3 = .ok (.iload_n 2, 1) := by decide +kernel
theorem dX9_mostMouths_4 : decode cX9_mostMouths 4 = .ok (.iconst 1, 1) := by decide +kernel
theorem dX9_mostMouths_5 : decode cX9_mostMouths 5 = .ok (.if_icmp .lt 41, 3) := by decide +kernel
theorem dX9_mostMouths_8 : decode cX9_mostMouths 8 = .ok (.aload_n 0, 1) := by decide +kernel
theorem dX9_mostMouths_9 : decode cX9_mostMouths 9 = .ok (.getfield 46, 3) := by decide +kernel
theorem dX9_mostMouths_12 : decode cX9_mostMouths 12 = .ok (.invokevirtual 133, 3) := by decide +kernel
theorem dX9_mostMouths_15 : decode cX9_mostMouths 15 = .ok (.aload_n 0, 1) := by decide +kernel
theorem dX9_mostMouths_16 : decode cX9_mostMouths 16 = .ok (.getfield 46, 3) := by decide +kernel
theorem dX9_mostMouths_19 : decode cX9_mostMouths 19 = .ok (.getfield 156, 3) := by decide +kernel
theorem dX9_mostMouths_22 : decode cX9_mostMouths 22 = .ok (.iload_n 2, 1) := by decide +kernel
theorem dX9_mostMouths_23 : decode cX9_mostMouths 23 = .ok (.putfield 130, 3) := by decide +kernel
theorem dX9_mostMouths_26 : decode cX9_mostMouths 26 = .ok (.aload_n 0, 1) := by decide +kernel
theorem dX9_mostMouths_27 : decode cX9_mostMouths 27 = .ok (.getfield 46, 3) := by decide +kernel
theorem dX9_mostMouths_30 : decode cX9_mostMouths 30 = .ok (.iload_n 1, 1) := by decide +kernel
theorem dX9_mostMouths_31 : decode cX9_mostMouths 31 = .ok (.iconst 0, 1) := by decide +kernel
theorem dX9_mostMouths_32 : decode cX9_mostMouths 32 = .ok (.invokevirtual 221, 3) := by decide +kernel
theorem dX9_mostMouths_35 : decode cX9_mostMouths 35 = .ok (.ifCond .eq 5, 3) := by decide +kernel
theorem dX9_mostMouths_38 : decode cX9_mostMouths 38 = .ok (.iload_n 2, 1) := by decide +kernel
theorem dX9_mostMouths_39 : decode cX9_mostMouths 39 = .ok (.ireturn, 1) := by decide +kernel
theorem dX9_mostMouths_40 : decode cX9_mostMouths 40 = .ok (.iinc 2 (-1), 3) := by decide +kernel
theorem dX9_mostMouths_43 : decode cX9_mostMouths 43 = .ok (.goto (-40), 3) := by decide +kernel
theorem dX9_mostMouths_46 : decode cX9_mostMouths 46 = .ok (.iconst 0, 1) := by decide +kernel
theorem dX9_mostMouths_47 : decode cX9_mostMouths 47 = .ok (.ireturn, 1) := by decide +kernel
def fX9_mostMouths_L3 : Nat → Int → Int → vr_M → Option (Int × vr_M)
  | 0, _, _, _ => none
  | n + 1, x1, x2, μ => if x2 < 1 then some (0, μ) else (fX7_begin  μ).bind (fun r1 => (fX7_staysFed x1 0 (vr_u r1.2 52 7 x2)).bind (fun r2 => if r2.1 = 0 then vr_gd (vr_R (x2 + (-1))) ((fX9_mostMouths_L3 n) x1 (x2 + (-1)) r2.2) else some (x2, r2.2)))
def fX9_mostMouths (a0 : Int) (μ : vr_M) : Option (Int × vr_M) :=
  fX9_mostMouths_L3 9000 a0 99 μ
set_option maxRecDepth 100000 in
set_option maxHeartbeats 4000000 in
theorem ct_X9_mostMouths (l : Launch) (G : vr_G) (a0 : Int) (h_a0 : vr_R a0) (μ : vr_M) : vr_CI l yX9_mostMouths cX9_mostMouths 3 (some .int) ({ frames := 6, cells := 0, slots := 0, locals := 147 } : Room) G [.ref (vr_ad G 0), .int (vr_I a0)] μ (fX9_mostMouths a0 μ) := by
  refine vr_start (own := RX9) (by decide) rfl (Nat.le_of_ble_eq_true rfl) (fun p e s m args below meth c C0 => ?_)
  show vr_J p l e _ s m args below meth c 3 0 0 G (vr_Z (vr_QI G) G args s below) 0 [(0, .ref (vr_ad G 0)), (1, .int (vr_I a0))] [] μ _
  have L3 : ∀ (n : Nat) (x1 : Int) (h_x1 : vr_R x1) (x2 : Int) (h_x2 : vr_R x2) (μ : vr_M), vr_J p l e ({ frames := 6, cells := 0, slots := 0, locals := 147 } : Room) s m args below meth c 3 0 0 G (vr_Z (vr_QI G) G args s below) 3 [(0, .ref (vr_ad G 0)), (1, .int (vr_I x1)), (2, .int (vr_I x2))] [] μ (fX9_mostMouths_L3 n x1 x2 μ) := by
    intro n3
    induction n3 with
    | zero => intros; exact jr_none
    | succ n3 ih3 =>
      intro x1 h_x1 x2 h_x2 μ
      rw [fX9_mostMouths_L3.eq_2]
      refine jr_iload_n C0 2 dX9_mostMouths_3 rfl rfl ?_
      refine jr_iconst C0 dX9_mostMouths_4 ?_
      refine jr_icmp_lt C0 h_x2 (⟨by decide, by decide⟩) dX9_mostMouths_5 (tgt := 46) (by decide) ?_ ?_
      · refine jr_iconst C0 dX9_mostMouths_46 ?_
        exact jr_iret C0 (⟨by decide, by decide⟩) dX9_mostMouths_47
      refine jr_aload_n C0 0 dX9_mostMouths_8 rfl rfl ?_
      refine jr_getr C0 (by decide) kd_0 (by decide) rfl wx_X9 (i := 5) (by decide) wf_X9_46 (j := 51) rfl dX9_mostMouths_9 ?_
      refine jr_vV0 C0 (by decide) kd_51 (by decide) rfl (ct_X7_begin l G  _) mi_X7_begin wm_X9_133 ⟨Nat.le_of_ble_eq_true rfl, Nat.le_of_ble_eq_true rfl⟩ ⟨rfl, rfl⟩ (As := []) rfl (st := []) rfl (Nat.le_of_ble_eq_true rfl) dX9_mostMouths_12 (fun r1 => ?_)
      refine jr_aload_n C0 0 dX9_mostMouths_15 rfl rfl ?_
      refine jr_getr C0 (by decide) kd_0 (by decide) rfl wx_X9 (i := 5) (by decide) wf_X9_46 (j := 51) rfl dX9_mostMouths_16 ?_
      refine jr_getr C0 (by decide) kd_51 (by decide) rfl wx_X7 (i := 2) (by decide) wf_X9_156 (j := 52) rfl dX9_mostMouths_19 ?_
      refine jr_iload_n C0 2 dX9_mostMouths_22 rfl rfl ?_
      refine jr_puti C0 (by decide) kd_52 (by decide) rfl wx_X2 (i := 7) (by decide) wf_X9_130 rfl tyX2_ok nmX2 rfl rfl rfl dX9_mostMouths_23 ?_
      refine jr_aload_n C0 0 dX9_mostMouths_26 rfl rfl ?_
      refine jr_getr C0 (by decide) kd_0 (by decide) rfl wx_X9 (i := 5) (by decide) wf_X9_46 (j := 51) rfl dX9_mostMouths_27 ?_
      refine jr_iload_n C0 1 dX9_mostMouths_30 rfl rfl ?_
      refine jr_iconst C0 dX9_mostMouths_31 ?_
      refine jr_vI C0 (by decide) kd_51 (by decide) rfl (ct_X7_staysFed l G x1 h_x1 0 (⟨by decide, by decide⟩) _) mi_X7_staysFed wm_X9_221 ⟨Nat.le_of_ble_eq_true rfl, Nat.le_of_ble_eq_true rfl⟩ ⟨rfl, rfl⟩ (As := [.int (vr_I x1), .int (vr_I 0)]) rfl (st := []) rfl (Nat.le_of_ble_eq_true rfl) dX9_mostMouths_32 (fun r2 hr2 => ?_)
      refine jr_if_eq C0 hr2 dX9_mostMouths_35 (tgt := 40) (by decide) ?_ ?_
      · refine jr_iinc C0 (q := 2) dX9_mostMouths_40 rfl (by decide) (lv' := [(2, .int (vr_I (x2 + (-1)))), (0, .ref (vr_ad G 0)), (1, .int (vr_I x1))]) rfl ?_
        refine jr_goto C0 dX9_mostMouths_43 (tgt := 3) (by decide) ?_
        refine jr_gd (fun g3 => ?_)
        refine jr_sub [1, 2, 0] rfl ?_
        exact ih3 x1 h_x1 (x2 + (-1)) g3 _
      refine jr_iload_n C0 2 dX9_mostMouths_38 rfl rfl ?_
      exact jr_iret C0 h_x2 dX9_mostMouths_39
  unfold fX9_mostMouths
  refine jr_bipush C0 dX9_mostMouths_0 rfl ?_
  refine jr_istore_n C0 dX9_mostMouths_2 rfl (by decide) (lv' := [(2, .int (vr_I 99)), (0, .ref (vr_ad G 0)), (1, .int (vr_I a0))]) rfl ?_
  refine jr_sub [1, 2, 0] rfl ?_
  exact L3 9000 a0 h_a0 99 (⟨by decide, by decide⟩) _
theorem dX9_proof_0 : decode cX9_proof 0 = .ok (.aload_n 0, 1) := by decide +kernel
theorem dX9_proof_1 : decode cX9_proof 1 = .ok (.getfield 12, 3) := by decide +kernel
theorem dX9_proof_4 : decode cX9_proof 4 = .ok (.iload_n 1, 1) := by decide +kernel
theorem dX9_proof_5 : decode cX9_proof 5 = .ok (.invokevirtual 169, 3) := by decide +kernel
theorem dX9_proof_8 : decode cX9_proof 8 = .ok (.ifCond .eq 12, 3) := by decide +kernel
theorem dX9_proof_11 : decode cX9_proof 11 = .ok (.iload_n 3, 1) := by decide +kernel
theorem dX9_proof_12 : decode cX9_proof 12 = .ok (.iconst 0, 1) := by decide +kernel
theorem dX9_proof_13 : decode cX9_proof 13 = .ok (.iconst 2, 1) := by decide +kernel
theorem dX9_proof_14 : decode cX9_proof 14 = .ok (.invokestatic 66, 3) := by decide +kernel
theorem dX9_proof_17 : decode cX9_proof 17 = .ok (.ifCond .ne 5, 3) := by decide +kernel
theorem dX9_proof_20 : decode cX9_proof 20 = .ok (.iconst (-1), 1) := by decide +kernel
theorem dX9_proof_21 : decode cX9_proof 21 = .ok (.ireturn, 1) := by decide +kernel
theorem dX9_proof_22 : decode cX9_proof 22 = .ok (.iload_n 2, 1) := by decide +kernel
theorem dX9_proof_23 : decode cX9_proof 23 = .ok (.iconst 1, 1) := by decide +kernel
theorem dX9_proof_24 : decode cX9_proof 24 = .ok (.bipush 30, 2) := by decide +kernel
theorem dX9_proof_26 : decode cX9_proof 26 = .ok (.invokestatic 66, 3) := by decide +kernel
theorem dX9_proof_29 : decode cX9_proof 29 = .ok (.ifCond .ne 6, 3) := by decide +kernel
theorem dX9_proof_32 : decode cX9_proof 32 = .ok (.bipush (-2), 2) := by decide +kernel
theorem dX9_proof_34 : decode cX9_proof 34 = .ok (.ireturn, 1) := by decide +kernel
theorem dX9_proof_35 : decode cX9_proof 35 = .ok (.aload_n 0, 1) := by decide +kernel
theorem dX9_proof_36 : decode cX9_proof 36 = .ok (.getfield 46, 3) := by decide +kernel
theorem dX9_proof_39 : decode cX9_proof 39 = .ok (.getfield 136, 3) := by decide +kernel
theorem dX9_proof_42 : decode cX9_proof 42 = .ok (.aload_n 0, 1) := by decide +kernel
theorem dX9_proof_43 : decode cX9_proof 43 = .ok (.getfield 12, 3) := by decide +kernel
theorem dX9_proof_46 : decode cX9_proof 46 = .ok (.getfield 163, 3) := by decide +kernel
theorem dX9_proof_49 : decode cX9_proof 49 = .ok (.iload_n 1, 1) := by decide +kernel
theorem dX9_proof_50 : decode cX9_proof 50 = .ok (.invokevirtual 192, 3) := by decide +kernel
theorem dX9_proof_53 : decode cX9_proof 53 = .ok (.aload_n 0, 1) := by decide +kernel
theorem dX9_proof_54 : decode cX9_proof 54 = .ok (.getfield 12, 3) := by decide +kernel
theorem dX9_proof_57 : decode cX9_proof 57 = .ok (.getfield 166, 3) := by decide +kernel
theorem dX9_proof_60 : decode cX9_proof 60 = .ok (.iload_n 1, 1) := by decide +kernel
theorem dX9_proof_61 : decode cX9_proof 61 = .ok (.invokevirtual 192, 3) := by decide +kernel
theorem dX9_proof_64 : decode cX9_proof 64 = .ok (.invokevirtual 198, 3) := by decide +kernel
theorem dX9_proof_67 : decode cX9_proof 67 = .ok (.iload_n 3, 1) := by decide +kernel
theorem dX9_proof_68 : decode cX9_proof 68 = .ok (.iconst 2, 1) := by decide +kernel
theorem dX9_proof_69 : decode cX9_proof 69 = .ok (.if_icmp .ne 9, 3) := by decide +kernel
theorem dX9_proof_72 : decode cX9_proof 72 = .ok (.aload_n 0, 1) := by decide +kernel
theorem dX9_proof_73 : decode cX9_proof 73 = .ok (.iload_n 2, 1) := by decide +kernel
theorem dX9_proof_74 : decode cX9_proof 74 = .ok (.invokevirtual 202, 3) := by decide +kernel
theorem dX9_proof_77 : decode cX9_proof 77 = .ok (.ireturn, 1) := by decide +kernel
theorem dX9_proof_78 : decode cX9_proof 78 = .ok (.aload_n 0, 1) := by decide +kernel
theorem dX9_proof_79 : decode cX9_proof 79 = .ok (.getfield 46, 3) := by decide +kernel
theorem dX9_proof_82 : decode cX9_proof 82 = .ok (.invokevirtual 133, 3) := by decide +kernel
theorem dX9_proof_85 : decode cX9_proof 85 = .ok (.aload_n 0, 1) := by decide +kernel
theorem dX9_proof_86 : decode cX9_proof 86 = .ok (.getfield 46, 3) := by decide +kernel
theorem dX9_proof_89 : decode cX9_proof 89 = .ok (.iload_n 2, 1) := by decide +kernel
theorem dX9_proof_90 : decode cX9_proof 90 = .ok (.iconst 1, 1) := by decide +kernel
theorem dX9_proof_91 : decode cX9_proof 91 = .ok (.invokevirtual 182, 3) := by decide +kernel
theorem dX9_proof_94 : decode cX9_proof 94 = .ok (.iload_n 3, 1) := by decide +kernel
theorem dX9_proof_95 : decode cX9_proof 95 = .ok (.ifCond .ne 13, 3) := by decide +kernel
theorem dX9_proof_98 : decode cX9_proof 98 = .ok (.aload_n 0, 1) := by decide +kernel
theorem dX9_proof_99 : decode cX9_proof 99 = .ok (.getfield 46, 3) := by decide +kernel
theorem dX9_proof_102 : decode cX9_proof 102 = .ok (.getfield 195, 3) := by decide +kernel
theorem dX9_proof_105 : decode cX9_proof 105 = .ok (.goto 10, 3) := by decide +kernel
theorem dX9_proof_108 : decode cX9_proof 108 = .ok (.aload_n 0, 1) := by decide +kernel
theorem dX9_proof_109 : decode cX9_proof 109 = .ok (.getfield 46, 3) := by decide +kernel
theorem dX9_proof_112 : decode cX9_proof 112 = .ok (.getfield 205, 3) := by decide +kernel
theorem dX9_proof_115 : decode cX9_proof 115 = .ok (.ireturn, 1) := by decide +kernel
def fX9_proof_B20 (μ : vr_M) : Option (Int × vr_M) :=
  some ((-1), μ)
def fX9_proof_B115 (y0 : Int) (μ : vr_M) : Option (Int × vr_M) :=
  some (y0, μ)
def fX9_proof (a0 : Int) (a1 : Int) (a2 : Int) (μ : vr_M) : Option (Int × vr_M) :=
  (fX8_hasRule 1 a0 μ).bind (fun r1 => if r1.1 = 0 then fX9_proof_B20 r1.2 else (fX9_within a2 0 2 r1.2).bind (fun r2 => if ¬ r2.1 = 0 then (fX9_within a1 1 30 r2.2).bind (fun r3 => if ¬ r3.1 = 0 then (fX4_at 19 a0 r3.2).bind (fun r4 => (fX4_at 21 a0 r4.2).bind (fun r5 => (fX0_follow r4.1 r5.1 r5.2).bind (fun r6 => if ¬ a2 = 2 then (fX7_begin  r6.2).bind (fun r7 => (fX7_spendYears a1 1 r7.2).bind (fun r8 => if ¬ a2 = 0 then vr_gd (vr_R (r8.2 51 7)) (fX9_proof_B115 (r8.2 51 7) r8.2) else vr_gd (vr_R (r8.2 51 6)) (fX9_proof_B115 (r8.2 51 6) r8.2))) else (fX9_mostMouths a1 r6.2).bind (fun r11 => some (r11.1, r11.2))))) else some ((-2), r3.2)) else fX9_proof_B20 r2.2))
set_option maxRecDepth 100000 in
set_option maxHeartbeats 4000000 in
theorem ct_X9_proof (l : Launch) (G : vr_G) (a0 : Int) (h_a0 : vr_R a0) (a1 : Int) (h_a1 : vr_R a1) (a2 : Int) (h_a2 : vr_R a2) (μ : vr_M) : vr_CI l yX9_proof cX9_proof 4 (some .int) ({ frames := 7, cells := 0, slots := 0, locals := 169 } : Room) G [.ref (vr_ad G 0), .int (vr_I a0), .int (vr_I a1), .int (vr_I a2)] μ (fX9_proof a0 a1 a2 μ) := by
  refine vr_start (own := RX9) (by decide) rfl (Nat.le_of_ble_eq_true rfl) (fun p e s m args below meth c C0 => ?_)
  show vr_J p l e _ s m args below meth c 4 0 0 G (vr_Z (vr_QI G) G args s below) 0 [(0, .ref (vr_ad G 0)), (1, .int (vr_I a0)), (2, .int (vr_I a1)), (3, .int (vr_I a2))] [] μ _
  have B20 : ∀ (μ : vr_M), vr_J p l e ({ frames := 7, cells := 0, slots := 0, locals := 169 } : Room) s m args below meth c 4 0 0 G (vr_Z (vr_QI G) G args s below) 20 [] [] μ (fX9_proof_B20 μ) := by
    intro μ
    unfold fX9_proof_B20
    refine jr_iconst C0 dX9_proof_20 ?_
    exact jr_iret C0 (⟨by decide, by decide⟩) dX9_proof_21
  have B115 : ∀ (y0 : Int) (h_y0 : vr_R y0) (μ : vr_M), vr_J p l e ({ frames := 7, cells := 0, slots := 0, locals := 169 } : Room) s m args below meth c 4 0 0 G (vr_Z (vr_QI G) G args s below) 115 [] [.int (vr_I y0)] μ (fX9_proof_B115 y0 μ) := by
    intro y0 h_y0 μ
    unfold fX9_proof_B115
    exact jr_iret C0 h_y0 dX9_proof_115
  unfold fX9_proof
  refine jr_aload_n C0 0 dX9_proof_0 rfl rfl ?_
  refine jr_getr C0 (by decide) kd_0 (by decide) rfl wx_X9 (i := 0) (by decide) wf_X9_12 (j := 1) rfl dX9_proof_1 ?_
  refine jr_iload_n C0 1 dX9_proof_4 rfl rfl ?_
  refine jr_vI C0 (by decide) kd_1 (by decide) rfl (ct_X8_hasRule l G (by decide) kd_1 a0 h_a0 _) mi_X8_hasRule wm_X9_169 ⟨Nat.le_of_ble_eq_true rfl, Nat.le_of_ble_eq_true rfl⟩ ⟨rfl, rfl⟩ (As := [.int (vr_I a0)]) rfl (st := []) rfl (Nat.le_of_ble_eq_true rfl) dX9_proof_5 (fun r1 hr1 => ?_)
  refine jr_if_eq C0 hr1 dX9_proof_8 (tgt := 20) (by decide) ?_ ?_
  · refine jr_sub [] rfl ?_
    exact B20 _
  refine jr_iload_n C0 3 dX9_proof_11 rfl rfl ?_
  refine jr_iconst C0 dX9_proof_12 ?_
  refine jr_iconst C0 dX9_proof_13 ?_
  refine jr_sI C0 (ct_X9_within l G a2 h_a2 0 (⟨by decide, by decide⟩) 2 (⟨by decide, by decide⟩) _) mi_X9_within wm_X9_66 ⟨Nat.le_of_ble_eq_true rfl, Nat.le_of_ble_eq_true rfl⟩ ⟨rfl, rfl⟩ (As := [.int (vr_I a2), .int (vr_I 0), .int (vr_I 2)]) rfl (st := []) rfl (Nat.le_of_ble_eq_true rfl) dX9_proof_14 (fun r2 hr2 => ?_)
  refine jr_if_ne C0 hr2 dX9_proof_17 (tgt := 22) (by decide) ?_ ?_
  · refine jr_iload_n C0 2 dX9_proof_22 rfl rfl ?_
    refine jr_iconst C0 dX9_proof_23 ?_
    refine jr_bipush C0 dX9_proof_24 rfl ?_
    refine jr_sI C0 (ct_X9_within l G a1 h_a1 1 (⟨by decide, by decide⟩) 30 (⟨by decide, by decide⟩) _) mi_X9_within wm_X9_66 ⟨Nat.le_of_ble_eq_true rfl, Nat.le_of_ble_eq_true rfl⟩ ⟨rfl, rfl⟩ (As := [.int (vr_I a1), .int (vr_I 1), .int (vr_I 30)]) rfl (st := []) rfl (Nat.le_of_ble_eq_true rfl) dX9_proof_26 (fun r3 hr3 => ?_)
    refine jr_if_ne C0 hr3 dX9_proof_29 (tgt := 35) (by decide) ?_ ?_
    · refine jr_aload_n C0 0 dX9_proof_35 rfl rfl ?_
      refine jr_getr C0 (by decide) kd_0 (by decide) rfl wx_X9 (i := 5) (by decide) wf_X9_46 (j := 51) rfl dX9_proof_36 ?_
      refine jr_getr C0 (by decide) kd_51 (by decide) rfl wx_X7 (i := 3) (by decide) wf_X9_136 (j := 58) rfl dX9_proof_39 ?_
      refine jr_aload_n C0 0 dX9_proof_42 rfl rfl ?_
      refine jr_getr C0 (by decide) kd_0 (by decide) rfl wx_X9 (i := 0) (by decide) wf_X9_12 (j := 1) rfl dX9_proof_43 ?_
      refine jr_getr C0 (by decide) kd_1 (by decide) rfl wx_X8 (i := 5) (by decide) wf_X9_163 (j := 19) rfl dX9_proof_46 ?_
      refine jr_iload_n C0 1 dX9_proof_49 rfl rfl ?_
      refine jr_vI C0 (by decide) kd_19 (by decide) rfl (ct_X4_at l G (by decide) kd_19 a0 h_a0 _) mi_X4_at wm_X9_192 ⟨Nat.le_of_ble_eq_true rfl, Nat.le_of_ble_eq_true rfl⟩ ⟨rfl, rfl⟩ (As := [.int (vr_I a0)]) rfl (st := [.ref (vr_ad G 58)]) rfl (Nat.le_of_ble_eq_true rfl) dX9_proof_50 (fun r4 hr4 => ?_)
      refine jr_aload_n C0 0 dX9_proof_53 rfl rfl ?_
      refine jr_getr C0 (by decide) kd_0 (by decide) rfl wx_X9 (i := 0) (by decide) wf_X9_12 (j := 1) rfl dX9_proof_54 ?_
      refine jr_getr C0 (by decide) kd_1 (by decide) rfl wx_X8 (i := 6) (by decide) wf_X9_166 (j := 21) rfl dX9_proof_57 ?_
      refine jr_iload_n C0 1 dX9_proof_60 rfl rfl ?_
      refine jr_vI C0 (by decide) kd_21 (by decide) rfl (ct_X4_at l G (by decide) kd_21 a0 h_a0 _) mi_X4_at wm_X9_192 ⟨Nat.le_of_ble_eq_true rfl, Nat.le_of_ble_eq_true rfl⟩ ⟨rfl, rfl⟩ (As := [.int (vr_I a0)]) rfl (st := [.int (vr_I r4.1), .ref (vr_ad G 58)]) rfl (Nat.le_of_ble_eq_true rfl) dX9_proof_61 (fun r5 hr5 => ?_)
      refine jr_vV0 C0 (by decide) kd_58 (by decide) rfl (ct_X0_follow l G r4.1 hr4 r5.1 hr5 _) mi_X0_follow wm_X9_198 ⟨Nat.le_of_ble_eq_true rfl, Nat.le_of_ble_eq_true rfl⟩ ⟨rfl, rfl⟩ (As := [.int (vr_I r4.1), .int (vr_I r5.1)]) rfl (st := []) rfl (Nat.le_of_ble_eq_true rfl) dX9_proof_64 (fun r6 => ?_)
      refine jr_iload_n C0 3 dX9_proof_67 rfl rfl ?_
      refine jr_iconst C0 dX9_proof_68 ?_
      refine jr_icmp_ne C0 h_a2 (⟨by decide, by decide⟩) dX9_proof_69 (tgt := 78) (by decide) ?_ ?_
      · refine jr_aload_n C0 0 dX9_proof_78 rfl rfl ?_
        refine jr_getr C0 (by decide) kd_0 (by decide) rfl wx_X9 (i := 5) (by decide) wf_X9_46 (j := 51) rfl dX9_proof_79 ?_
        refine jr_vV0 C0 (by decide) kd_51 (by decide) rfl (ct_X7_begin l G  _) mi_X7_begin wm_X9_133 ⟨Nat.le_of_ble_eq_true rfl, Nat.le_of_ble_eq_true rfl⟩ ⟨rfl, rfl⟩ (As := []) rfl (st := []) rfl (Nat.le_of_ble_eq_true rfl) dX9_proof_82 (fun r7 => ?_)
        refine jr_aload_n C0 0 dX9_proof_85 rfl rfl ?_
        refine jr_getr C0 (by decide) kd_0 (by decide) rfl wx_X9 (i := 5) (by decide) wf_X9_46 (j := 51) rfl dX9_proof_86 ?_
        refine jr_iload_n C0 2 dX9_proof_89 rfl rfl ?_
        refine jr_iconst C0 dX9_proof_90 ?_
        refine jr_vV0 C0 (by decide) kd_51 (by decide) rfl (ct_X7_spendYears l G a1 h_a1 1 (⟨by decide, by decide⟩) _) mi_X7_spendYears wm_X9_182 ⟨Nat.le_of_ble_eq_true rfl, Nat.le_of_ble_eq_true rfl⟩ ⟨rfl, rfl⟩ (As := [.int (vr_I a1), .int (vr_I 1)]) rfl (st := []) rfl (Nat.le_of_ble_eq_true rfl) dX9_proof_91 (fun r8 => ?_)
        refine jr_iload_n C0 3 dX9_proof_94 rfl rfl ?_
        refine jr_if_ne C0 h_a2 dX9_proof_95 (tgt := 108) (by decide) ?_ ?_
        · refine jr_aload_n C0 0 dX9_proof_108 rfl rfl ?_
          refine jr_getr C0 (by decide) kd_0 (by decide) rfl wx_X9 (i := 5) (by decide) wf_X9_46 (j := 51) rfl dX9_proof_109 ?_
          refine jr_geti C0 (by decide) kd_51 (by decide) rfl wx_X7 (i := 7) (by decide) wf_X9_205 rfl dX9_proof_112 ?_
          refine jr_gd (fun g9 => ?_)
          refine jr_sub [] rfl ?_
          exact B115 (r8.2 51 7) g9 _
        refine jr_aload_n C0 0 dX9_proof_98 rfl rfl ?_
        refine jr_getr C0 (by decide) kd_0 (by decide) rfl wx_X9 (i := 5) (by decide) wf_X9_46 (j := 51) rfl dX9_proof_99 ?_
        refine jr_geti C0 (by decide) kd_51 (by decide) rfl wx_X7 (i := 6) (by decide) wf_X9_195 rfl dX9_proof_102 ?_
        refine jr_goto C0 dX9_proof_105 (tgt := 115) (by decide) ?_
        refine jr_gd (fun g10 => ?_)
        refine jr_sub [] rfl ?_
        exact B115 (r8.2 51 6) g10 _
      refine jr_aload_n C0 0 dX9_proof_72 rfl rfl ?_
      refine jr_iload_n C0 2 dX9_proof_73 rfl rfl ?_
      refine jr_vI C0 (by decide) kd_0 (by decide) rfl (ct_X9_mostMouths l G a1 h_a1 _) mi_X9_mostMouths wm_X9_202 ⟨Nat.le_of_ble_eq_true rfl, Nat.le_of_ble_eq_true rfl⟩ ⟨rfl, rfl⟩ (As := [.int (vr_I a1)]) rfl (st := []) rfl (Nat.le_of_ble_eq_true rfl) dX9_proof_74 (fun r11 hr11 => ?_)
      exact jr_iret C0 hr11 dX9_proof_77
    refine jr_bipush C0 dX9_proof_32 rfl ?_
    exact jr_iret C0 (⟨by decide, by decide⟩) dX9_proof_34
  refine jr_sub [] rfl ?_
  exact B20 _
theorem dX9_ever_0 : decode cX9_ever 0 = .ok (.aload_n 0, 1) := by decide +kernel
theorem dX9_ever_1 : decode cX9_ever 1 = .ok (.getfield 12, 3) := by decide +kernel
theorem dX9_ever_4 : decode cX9_ever 4 = .ok (.iload_n 1, 1) := by decide +kernel
theorem dX9_ever_5 : decode cX9_ever 5 = .ok (.invokevirtual 169, 3) := by decide +kernel
theorem dX9_ever_8 : decode cX9_ever 8 = .ok (.ifCond .eq 12, 3) := by decide +kernel
theorem dX9_ever_11 : decode cX9_ever 11 = .ok (.iload_n 2, 1) := by decide +kernel
theorem dX9_ever_12 : decode cX9_ever 12 = .ok (.iconst 0, 1) := by decide +kernel
theorem dX9_ever_13 : decode cX9_ever 13 = .ok (.iconst 2, 1) := by decide +kernel
theorem dX9_ever_14 : decode cX9_ever 14 = .ok (.invokestatic 66, 3) := by decide +kernel
theorem dX9_ever_17 : decode cX9_ever 17 = .ok (.ifCond .ne 5, 3) := by decide +kernel
theorem dX9_ever_20 : decode cX9_ever 20 = .ok (.iconst (-1), 1) := by decide +kernel
theorem dX9_ever_21 : decode cX9_ever 21 = .ok (.ireturn, 1) := by decide +kernel
theorem dX9_ever_22 : decode cX9_ever 22 = .ok (.aload_n 0, 1) := by decide +kernel
theorem dX9_ever_23 : decode cX9_ever 23 = .ok (.iload_n 1, 1) := by decide +kernel
theorem dX9_ever_24 : decode cX9_ever 24 = .ok (.invokevirtual 172, 3) := by decide +kernel
theorem dX9_ever_27 : decode cX9_ever 27 = .ok (.aload_n 0, 1) := by decide +kernel
theorem dX9_ever_28 : decode cX9_ever 28 = .ok (.getfield 55, 3) := by decide +kernel
theorem dX9_ever_31 : decode cX9_ever 31 = .ok (.invokevirtual 208, 3) := by decide +kernel
theorem dX9_ever_34 : decode cX9_ever 34 = .ok (.ifCond .ne 6, 3) := by decide +kernel
theorem dX9_ever_37 : decode cX9_ever 37 = .ok (.bipush (-9), 2) := by decide +kernel
theorem dX9_ever_39 : decode cX9_ever 39 = .ok (.ireturn, 1) := by decide +kernel
theorem dX9_ever_40 : decode cX9_ever 40 = .ok (.iload_n 2, 1) := by decide +kernel
theorem dX9_ever_41 : decode cX9_ever 41 = .ok (.ifCond .ne 13, 3) := by decide +kernel
theorem dX9_ever_44 : decode cX9_ever 44 = .ok (.aload_n 0, 1) := by decide +kernel
theorem dX9_ever_45 : decode cX9_ever 45 = .ok (.getfield 55, 3) := by decide +kernel
theorem dX9_ever_48 : decode cX9_ever 48 = .ok (.getfield 212, 3) := by decide +kernel
theorem dX9_ever_51 : decode cX9_ever 51 = .ok (.goto 33, 3) := by decide +kernel
theorem dX9_ever_54 : decode cX9_ever 54 = .ok (.iload_n 2, 1) := by decide +kernel
theorem dX9_ever_55 : decode cX9_ever 55 = .ok (.iconst 1, 1) := by decide +kernel
theorem dX9_ever_56 : decode cX9_ever 56 = .ok (.if_icmp .ne 21, 3) := by decide +kernel
theorem dX9_ever_59 : decode cX9_ever 59 = .ok (.aload_n 0, 1) := by decide +kernel
theorem dX9_ever_60 : decode cX9_ever 60 = .ok (.getfield 55, 3) := by decide +kernel
theorem dX9_ever_63 : decode cX9_ever 63 = .ok (.getfield 212, 3) := by decide +kernel
theorem dX9_ever_66 : decode cX9_ever 66 = .ok (.aload_n 0, 1) := by decide +kernel
theorem dX9_ever_67 : decode cX9_ever 67 = .ok (.getfield 55, 3) := by decide +kernel
theorem dX9_ever_70 : decode cX9_ever 70 = .ok (.getfield 215, 3) := by decide +kernel
theorem dX9_ever_73 : decode cX9_ever 73 = .ok (.isub, 1) := by decide +kernel
theorem dX9_ever_74 : decode cX9_ever 74 = .ok (.goto 10, 3) := by decide +kernel
theorem dX9_ever_77 : decode cX9_ever 77 = .ok (.aload_n 0, 1) := by decide +kernel
theorem dX9_ever_78 : decode cX9_ever 78 = .ok (.getfield 55, 3) := by decide +kernel
theorem dX9_ever_81 : decode cX9_ever 81 = .ok (.invokevirtual 218, 3) := by decide +kernel
theorem dX9_ever_84 : decode cX9_ever 84 = .ok (.ireturn, 1) := by decide +kernel
def fX9_ever_B20 (μ : vr_M) : Option (Int × vr_M) :=
  some ((-1), μ)
def fX9_ever_B84 (y0 : Int) (μ : vr_M) : Option (Int × vr_M) :=
  some (y0, μ)
def fX9_ever (a0 : Int) (a1 : Int) (μ : vr_M) : Option (Int × vr_M) :=
  (fX8_hasRule 1 a0 μ).bind (fun r1 => if r1.1 = 0 then fX9_ever_B20 r1.2 else (fX9_within a1 0 2 r1.2).bind (fun r2 => if ¬ r2.1 = 0 then (fX9_beginRule a0 r2.2).bind (fun r3 => (fX1_closes  r3.2).bind (fun r4 => if ¬ r4.1 = 0 then if ¬ a1 = 0 then if ¬ a1 = 1 then (fX1_leastHarvest  r4.2).bind (fun r5 => fX9_ever_B84 r5.1 r5.2) else vr_gd (vr_R ((r4.2 63 4) - (r4.2 63 3))) (fX9_ever_B84 ((r4.2 63 4) - (r4.2 63 3)) r4.2) else vr_gd (vr_R (r4.2 63 4)) (fX9_ever_B84 (r4.2 63 4) r4.2) else some ((-9), r4.2))) else fX9_ever_B20 r2.2))
set_option maxRecDepth 100000 in
set_option maxHeartbeats 4000000 in
theorem ct_X9_ever (l : Launch) (G : vr_G) (a0 : Int) (h_a0 : vr_R a0) (a1 : Int) (h_a1 : vr_R a1) (μ : vr_M) : vr_CI l yX9_ever cX9_ever 3 (some .int) ({ frames := 7, cells := 0, slots := 0, locals := 169 } : Room) G [.ref (vr_ad G 0), .int (vr_I a0), .int (vr_I a1)] μ (fX9_ever a0 a1 μ) := by
  refine vr_start (own := RX9) (by decide) rfl (Nat.le_of_ble_eq_true rfl) (fun p e s m args below meth c C0 => ?_)
  show vr_J p l e _ s m args below meth c 3 0 0 G (vr_Z (vr_QI G) G args s below) 0 [(0, .ref (vr_ad G 0)), (1, .int (vr_I a0)), (2, .int (vr_I a1))] [] μ _
  have B20 : ∀ (μ : vr_M), vr_J p l e ({ frames := 7, cells := 0, slots := 0, locals := 169 } : Room) s m args below meth c 3 0 0 G (vr_Z (vr_QI G) G args s below) 20 [] [] μ (fX9_ever_B20 μ) := by
    intro μ
    unfold fX9_ever_B20
    refine jr_iconst C0 dX9_ever_20 ?_
    exact jr_iret C0 (⟨by decide, by decide⟩) dX9_ever_21
  have B84 : ∀ (y0 : Int) (h_y0 : vr_R y0) (μ : vr_M), vr_J p l e ({ frames := 7, cells := 0, slots := 0, locals := 169 } : Room) s m args below meth c 3 0 0 G (vr_Z (vr_QI G) G args s below) 84 [] [.int (vr_I y0)] μ (fX9_ever_B84 y0 μ) := by
    intro y0 h_y0 μ
    unfold fX9_ever_B84
    exact jr_iret C0 h_y0 dX9_ever_84
  unfold fX9_ever
  refine jr_aload_n C0 0 dX9_ever_0 rfl rfl ?_
  refine jr_getr C0 (by decide) kd_0 (by decide) rfl wx_X9 (i := 0) (by decide) wf_X9_12 (j := 1) rfl dX9_ever_1 ?_
  refine jr_iload_n C0 1 dX9_ever_4 rfl rfl ?_
  refine jr_vI C0 (by decide) kd_1 (by decide) rfl (ct_X8_hasRule l G (by decide) kd_1 a0 h_a0 _) mi_X8_hasRule wm_X9_169 ⟨Nat.le_of_ble_eq_true rfl, Nat.le_of_ble_eq_true rfl⟩ ⟨rfl, rfl⟩ (As := [.int (vr_I a0)]) rfl (st := []) rfl (Nat.le_of_ble_eq_true rfl) dX9_ever_5 (fun r1 hr1 => ?_)
  refine jr_if_eq C0 hr1 dX9_ever_8 (tgt := 20) (by decide) ?_ ?_
  · refine jr_sub [] rfl ?_
    exact B20 _
  refine jr_iload_n C0 2 dX9_ever_11 rfl rfl ?_
  refine jr_iconst C0 dX9_ever_12 ?_
  refine jr_iconst C0 dX9_ever_13 ?_
  refine jr_sI C0 (ct_X9_within l G a1 h_a1 0 (⟨by decide, by decide⟩) 2 (⟨by decide, by decide⟩) _) mi_X9_within wm_X9_66 ⟨Nat.le_of_ble_eq_true rfl, Nat.le_of_ble_eq_true rfl⟩ ⟨rfl, rfl⟩ (As := [.int (vr_I a1), .int (vr_I 0), .int (vr_I 2)]) rfl (st := []) rfl (Nat.le_of_ble_eq_true rfl) dX9_ever_14 (fun r2 hr2 => ?_)
  refine jr_if_ne C0 hr2 dX9_ever_17 (tgt := 22) (by decide) ?_ ?_
  · refine jr_aload_n C0 0 dX9_ever_22 rfl rfl ?_
    refine jr_iload_n C0 1 dX9_ever_23 rfl rfl ?_
    refine jr_vV0 C0 (by decide) kd_0 (by decide) rfl (ct_X9_beginRule l G a0 h_a0 _) mi_X9_beginRule wm_X9_172 ⟨Nat.le_of_ble_eq_true rfl, Nat.le_of_ble_eq_true rfl⟩ ⟨rfl, rfl⟩ (As := [.int (vr_I a0)]) rfl (st := []) rfl (Nat.le_of_ble_eq_true rfl) dX9_ever_24 (fun r3 => ?_)
    refine jr_aload_n C0 0 dX9_ever_27 rfl rfl ?_
    refine jr_getr C0 (by decide) kd_0 (by decide) rfl wx_X9 (i := 6) (by decide) wf_X9_55 (j := 63) rfl dX9_ever_28 ?_
    refine jr_vI C0 (by decide) kd_63 (by decide) rfl (ct_X1_closes l G  _) mi_X1_closes wm_X9_208 ⟨Nat.le_of_ble_eq_true rfl, Nat.le_of_ble_eq_true rfl⟩ ⟨rfl, rfl⟩ (As := []) rfl (st := []) rfl (Nat.le_of_ble_eq_true rfl) dX9_ever_31 (fun r4 hr4 => ?_)
    refine jr_if_ne C0 hr4 dX9_ever_34 (tgt := 40) (by decide) ?_ ?_
    · refine jr_iload_n C0 2 dX9_ever_40 rfl rfl ?_
      refine jr_if_ne C0 h_a1 dX9_ever_41 (tgt := 54) (by decide) ?_ ?_
      · refine jr_iload_n C0 2 dX9_ever_54 rfl rfl ?_
        refine jr_iconst C0 dX9_ever_55 ?_
        refine jr_icmp_ne C0 h_a1 (⟨by decide, by decide⟩) dX9_ever_56 (tgt := 77) (by decide) ?_ ?_
        · refine jr_aload_n C0 0 dX9_ever_77 rfl rfl ?_
          refine jr_getr C0 (by decide) kd_0 (by decide) rfl wx_X9 (i := 6) (by decide) wf_X9_55 (j := 63) rfl dX9_ever_78 ?_
          refine jr_vI C0 (by decide) kd_63 (by decide) rfl (ct_X1_leastHarvest l G  _) mi_X1_leastHarvest wm_X9_218 ⟨Nat.le_of_ble_eq_true rfl, Nat.le_of_ble_eq_true rfl⟩ ⟨rfl, rfl⟩ (As := []) rfl (st := []) rfl (Nat.le_of_ble_eq_true rfl) dX9_ever_81 (fun r5 hr5 => ?_)
          refine jr_sub [] rfl ?_
          exact B84 r5.1 hr5 _
        refine jr_aload_n C0 0 dX9_ever_59 rfl rfl ?_
        refine jr_getr C0 (by decide) kd_0 (by decide) rfl wx_X9 (i := 6) (by decide) wf_X9_55 (j := 63) rfl dX9_ever_60 ?_
        refine jr_geti C0 (by decide) kd_63 (by decide) rfl wx_X1 (i := 4) (by decide) wf_X9_212 rfl dX9_ever_63 ?_
        refine jr_aload_n C0 0 dX9_ever_66 rfl rfl ?_
        refine jr_getr C0 (by decide) kd_0 (by decide) rfl wx_X9 (i := 6) (by decide) wf_X9_55 (j := 63) rfl dX9_ever_67 ?_
        refine jr_geti C0 (by decide) kd_63 (by decide) rfl wx_X1 (i := 3) (by decide) wf_X9_215 rfl dX9_ever_70 ?_
        refine jr_isub C0 dX9_ever_73 ?_
        refine jr_goto C0 dX9_ever_74 (tgt := 84) (by decide) ?_
        refine jr_gd (fun g6 => ?_)
        refine jr_sub [] rfl ?_
        exact B84 ((r4.2 63 4) - (r4.2 63 3)) g6 _
      refine jr_aload_n C0 0 dX9_ever_44 rfl rfl ?_
      refine jr_getr C0 (by decide) kd_0 (by decide) rfl wx_X9 (i := 6) (by decide) wf_X9_55 (j := 63) rfl dX9_ever_45 ?_
      refine jr_geti C0 (by decide) kd_63 (by decide) rfl wx_X1 (i := 4) (by decide) wf_X9_212 rfl dX9_ever_48 ?_
      refine jr_goto C0 dX9_ever_51 (tgt := 84) (by decide) ?_
      refine jr_gd (fun g7 => ?_)
      refine jr_sub [] rfl ?_
      exact B84 (r4.2 63 4) g7 _
    refine jr_bipush C0 dX9_ever_37 rfl ?_
    exact jr_iret C0 (⟨by decide, by decide⟩) dX9_ever_39
  refine jr_sub [] rfl ?_
  exact B20 _
theorem dX9_less_0 : decode cX9_less 0 = .ok (.iload_n 1, 1) := by decide +kernel
theorem dX9_less_1 : decode cX9_less 1 = .ok (.iconst 1, 1) := by decide +kernel
theorem dX9_less_2 : decode cX9_less 2 = .ok (.bipush 30, 2) := by decide +kernel
theorem dX9_less_4 : decode cX9_less 4 = .ok (.invokestatic 66, 3) := by decide +kernel
theorem dX9_less_7 : decode cX9_less 7 = .ok (.ifCond .ne 6, 3) := by decide +kernel
theorem dX9_less_10 : decode cX9_less 10 = .ok (.bipush (-2), 2) := by decide +kernel
theorem dX9_less_12 : decode cX9_less 12 = .ok (.ireturn, 1) := by decide +kernel
theorem dX9_less_13 : decode cX9_less 13 = .ok (.iconst 1, 1) := by decide +kernel
theorem dX9_less_14 : decode cX9_less 14 = .ok (.istore_n 2, 1) := by decide +kernel
theorem dX9_less_15 : decode cX9_less 15 = .ok (.iload_n 2, 1) := by decide +kernel
theorem dX9_less_16 : decode cX9_less 16 = .ok (.bipush 30, 2) := by decide +kernel
theorem dX9_less_18 : decode cX9_less 18 = .ok (.if_icmp .gt 62, 3) := by decide +kernel
theorem dX9_less_21 : decode cX9_less 21 = .ok (.aload_n 0, 1) := by decide +kernel
theorem dX9_less_22 : decode cX9_less 22 = .ok (.getfield 46, 3) := by decide +kernel
theorem dX9_less_25 : decode cX9_less 25 = .ok (.getfield 136, 3) := by decide +kernel
theorem dX9_less_28 : decode cX9_less 28 = .ok (.iconst 2, 1) := by decide +kernel
theorem dX9_less_29 : decode cX9_less 29 = .ok (.iload_n 2, 1) := by decide +kernel
theorem dX9_less_30 : decode cX9_less 30 = .ok (.invokevirtual 198, 3) := by decide +kernel
theorem dX9_less_33 : decode cX9_less 33 = .ok (.aload_n 0, 1) := by decide +kernel
theorem dX9_less_34 : decode cX9_less 34 = .ok (.getfield 46, 3) := by decide +kernel
theorem dX9_less_37 : decode cX9_less 37 = .ok (.invokevirtual 133, 3) := by decide +kernel
theorem dX9_less_40 : decode cX9_less 40 = .ok (.aload_n 0, 1) := by decide +kernel
theorem dX9_less_41 : decode cX9_less 41 = .ok (.getfield 46, 3) := by decide +kernel
theorem dX9_less_44 : decode cX9_less 44 = .ok (.iload_n 1, 1) := by decide +kernel
theorem dX9_less_45 : decode cX9_less 45 = .ok (.iconst 1, 1) := by decide +kernel
theorem dX9_less_46 : decode cX9_less 46 = .ok (.invokevirtual 221, 3) := by decide +kernel
theorem dX9_less_49 : decode cX9_less 49 = .ok (.ifCond .eq 25, 3) := by decide +kernel
theorem dX9_less_52 : decode cX9_less 52 = .ok (.aload_n 0, 1) := by decide +kernel
theorem dX9_less_53 : decode cX9_less 53 = .ok (.getfield 46, 3) := by decide +kernel
theorem dX9_less_56 : decode cX9_less 56 = .ok (.getfield 156, 3) := by decide +kernel
theorem dX9_less_59 : decode cX9_less 59 = .ok (.aload_n 0, 1) := by decide +kernel
theorem dX9_less_60 : decode cX9_less 60 = .ok (.getfield 12, 3) := by decide +kernel
theorem dX9_less_63 : decode cX9_less 63 = .ok (.getfield 70, 3) := by decide +kernel
theorem dX9_less_66 : decode cX9_less 66 = .ok (.invokevirtual 225, 3) := by decide +kernel
theorem dX9_less_69 : decode cX9_less 69 = .ok (.ifCond .ne 5, 3) := by decide +kernel
theorem dX9_less_72 : decode cX9_less 72 = .ok (.iload_n 2, 1) := by decide +kernel
theorem dX9_less_73 : decode cX9_less 73 = .ok (.ireturn, 1) := by decide +kernel
theorem dX9_less_74 : decode cX9_less 74 = .ok (.iinc 2 1, 3) := by decide +kernel
theorem dX9_less_77 : decode cX9_less 77 = .ok (.goto (-62), 3) := by decide +kernel
theorem dX9_less_80 : decode cX9_less 80 = .ok (.bipush (-5), 2) := by decide +kernel
theorem dX9_less_82 : decode cX9_less 82 = .ok (.ireturn, 1) := by decide +kernel
def fX9_less_B74 (rc15 : Int → Int → vr_M → Option (Int × vr_M)) (x1 : Int) (x2 : Int) (μ : vr_M) : Option (Int × vr_M) :=
  vr_gd (vr_R (x2 + 1)) (rc15 x1 (x2 + 1) μ)
def fX9_less_L15 : Nat → Int → Int → vr_M → Option (Int × vr_M)
  | 0, _, _, _ => none
  | n + 1, x1, x2, μ => if 30 < x2 then some ((-5), μ) else (fX0_follow 2 x2 μ).bind (fun r2 => (fX7_begin  r2.2).bind (fun r3 => (fX7_staysFed x1 1 r3.2).bind (fun r4 => if r4.1 = 0 then fX9_less_B74 (fX9_less_L15 n) x1 x2 r4.2 else (fX2_isMoreWornThan 52 2 r4.2).bind (fun r5 => if ¬ r5.1 = 0 then fX9_less_B74 (fX9_less_L15 n) x1 x2 r5.2 else some (x2, r5.2)))))
def fX9_less (a0 : Int) (μ : vr_M) : Option (Int × vr_M) :=
  (fX9_within a0 1 30 μ).bind (fun r6 => if ¬ r6.1 = 0 then fX9_less_L15 9000 a0 1 r6.2 else some ((-2), r6.2))
set_option maxRecDepth 100000 in
set_option maxHeartbeats 4000000 in
theorem ct_X9_less (l : Launch) (G : vr_G) (a0 : Int) (h_a0 : vr_R a0) (μ : vr_M) : vr_CI l yX9_less cX9_less 3 (some .int) ({ frames := 6, cells := 0, slots := 0, locals := 147 } : Room) G [.ref (vr_ad G 0), .int (vr_I a0)] μ (fX9_less a0 μ) := by
  refine vr_start (own := RX9) (by decide) rfl (Nat.le_of_ble_eq_true rfl) (fun p e s m args below meth c C0 => ?_)
  show vr_J p l e _ s m args below meth c 3 0 0 G (vr_Z (vr_QI G) G args s below) 0 [(0, .ref (vr_ad G 0)), (1, .int (vr_I a0))] [] μ _
  have L15 : ∀ (n : Nat) (x1 : Int) (h_x1 : vr_R x1) (x2 : Int) (h_x2 : vr_R x2) (μ : vr_M), vr_J p l e ({ frames := 6, cells := 0, slots := 0, locals := 147 } : Room) s m args below meth c 3 0 0 G (vr_Z (vr_QI G) G args s below) 15 [(0, .ref (vr_ad G 0)), (1, .int (vr_I x1)), (2, .int (vr_I x2))] [] μ (fX9_less_L15 n x1 x2 μ) := by
    intro n15
    induction n15 with
    | zero => intros; exact jr_none
    | succ n15 ih15 =>
      have B74 : ∀ (x1 : Int) (h_x1 : vr_R x1) (x2 : Int) (h_x2 : vr_R x2) (μ : vr_M), vr_J p l e ({ frames := 6, cells := 0, slots := 0, locals := 147 } : Room) s m args below meth c 3 0 0 G (vr_Z (vr_QI G) G args s below) 74 [(0, .ref (vr_ad G 0)), (1, .int (vr_I x1)), (2, .int (vr_I x2))] [] μ (fX9_less_B74 (fX9_less_L15 n15) x1 x2 μ) := by
        intro x1 h_x1 x2 h_x2 μ
        unfold fX9_less_B74
        refine jr_iinc C0 (q := 2) dX9_less_74 rfl (by decide) (lv' := [(2, .int (vr_I (x2 + 1))), (0, .ref (vr_ad G 0)), (1, .int (vr_I x1))]) rfl ?_
        refine jr_goto C0 dX9_less_77 (tgt := 15) (by decide) ?_
        refine jr_gd (fun g1 => ?_)
        refine jr_sub [1, 2, 0] rfl ?_
        exact ih15 x1 h_x1 (x2 + 1) g1 _
      intro x1 h_x1 x2 h_x2 μ
      rw [fX9_less_L15.eq_2]
      refine jr_iload_n C0 2 dX9_less_15 rfl rfl ?_
      refine jr_bipush C0 dX9_less_16 rfl ?_
      refine jr_icmp_gt C0 h_x2 (⟨by decide, by decide⟩) dX9_less_18 (tgt := 80) (by decide) ?_ ?_
      · refine jr_bipush C0 dX9_less_80 rfl ?_
        exact jr_iret C0 (⟨by decide, by decide⟩) dX9_less_82
      refine jr_aload_n C0 0 dX9_less_21 rfl rfl ?_
      refine jr_getr C0 (by decide) kd_0 (by decide) rfl wx_X9 (i := 5) (by decide) wf_X9_46 (j := 51) rfl dX9_less_22 ?_
      refine jr_getr C0 (by decide) kd_51 (by decide) rfl wx_X7 (i := 3) (by decide) wf_X9_136 (j := 58) rfl dX9_less_25 ?_
      refine jr_iconst C0 dX9_less_28 ?_
      refine jr_iload_n C0 2 dX9_less_29 rfl rfl ?_
      refine jr_vV0 C0 (by decide) kd_58 (by decide) rfl (ct_X0_follow l G 2 (⟨by decide, by decide⟩) x2 h_x2 _) mi_X0_follow wm_X9_198 ⟨Nat.le_of_ble_eq_true rfl, Nat.le_of_ble_eq_true rfl⟩ ⟨rfl, rfl⟩ (As := [.int (vr_I 2), .int (vr_I x2)]) rfl (st := []) rfl (Nat.le_of_ble_eq_true rfl) dX9_less_30 (fun r2 => ?_)
      refine jr_aload_n C0 0 dX9_less_33 rfl rfl ?_
      refine jr_getr C0 (by decide) kd_0 (by decide) rfl wx_X9 (i := 5) (by decide) wf_X9_46 (j := 51) rfl dX9_less_34 ?_
      refine jr_vV0 C0 (by decide) kd_51 (by decide) rfl (ct_X7_begin l G  _) mi_X7_begin wm_X9_133 ⟨Nat.le_of_ble_eq_true rfl, Nat.le_of_ble_eq_true rfl⟩ ⟨rfl, rfl⟩ (As := []) rfl (st := []) rfl (Nat.le_of_ble_eq_true rfl) dX9_less_37 (fun r3 => ?_)
      refine jr_aload_n C0 0 dX9_less_40 rfl rfl ?_
      refine jr_getr C0 (by decide) kd_0 (by decide) rfl wx_X9 (i := 5) (by decide) wf_X9_46 (j := 51) rfl dX9_less_41 ?_
      refine jr_iload_n C0 1 dX9_less_44 rfl rfl ?_
      refine jr_iconst C0 dX9_less_45 ?_
      refine jr_vI C0 (by decide) kd_51 (by decide) rfl (ct_X7_staysFed l G x1 h_x1 1 (⟨by decide, by decide⟩) _) mi_X7_staysFed wm_X9_221 ⟨Nat.le_of_ble_eq_true rfl, Nat.le_of_ble_eq_true rfl⟩ ⟨rfl, rfl⟩ (As := [.int (vr_I x1), .int (vr_I 1)]) rfl (st := []) rfl (Nat.le_of_ble_eq_true rfl) dX9_less_46 (fun r4 hr4 => ?_)
      refine jr_if_eq C0 hr4 dX9_less_49 (tgt := 74) (by decide) ?_ ?_
      · exact B74 x1 h_x1 x2 h_x2 _
      refine jr_aload_n C0 0 dX9_less_52 rfl rfl ?_
      refine jr_getr C0 (by decide) kd_0 (by decide) rfl wx_X9 (i := 5) (by decide) wf_X9_46 (j := 51) rfl dX9_less_53 ?_
      refine jr_getr C0 (by decide) kd_51 (by decide) rfl wx_X7 (i := 2) (by decide) wf_X9_156 (j := 52) rfl dX9_less_56 ?_
      refine jr_aload_n C0 0 dX9_less_59 rfl rfl ?_
      refine jr_getr C0 (by decide) kd_0 (by decide) rfl wx_X9 (i := 0) (by decide) wf_X9_12 (j := 1) rfl dX9_less_60 ?_
      refine jr_getr C0 (by decide) kd_1 (by decide) rfl wx_X8 (i := 0) (by decide) wf_X9_70 (j := 2) rfl dX9_less_63 ?_
      refine jr_vI C0 (by decide) kd_52 (by decide) rfl (ct_X2_isMoreWornThan l G (by decide) kd_52 (by decide) kd_2 _) mi_X2_isMoreWornThan wm_X9_225 ⟨Nat.le_of_ble_eq_true rfl, Nat.le_of_ble_eq_true rfl⟩ ⟨rfl, rfl⟩ (As := [.ref (vr_ad G 2)]) rfl (st := []) rfl (Nat.le_of_ble_eq_true rfl) dX9_less_66 (fun r5 hr5 => ?_)
      refine jr_if_ne C0 hr5 dX9_less_69 (tgt := 74) (by decide) ?_ ?_
      · exact B74 x1 h_x1 x2 h_x2 _
      refine jr_iload_n C0 2 dX9_less_72 rfl rfl ?_
      exact jr_iret C0 h_x2 dX9_less_73
  unfold fX9_less
  refine jr_iload_n C0 1 dX9_less_0 rfl rfl ?_
  refine jr_iconst C0 dX9_less_1 ?_
  refine jr_bipush C0 dX9_less_2 rfl ?_
  refine jr_sI C0 (ct_X9_within l G a0 h_a0 1 (⟨by decide, by decide⟩) 30 (⟨by decide, by decide⟩) _) mi_X9_within wm_X9_66 ⟨Nat.le_of_ble_eq_true rfl, Nat.le_of_ble_eq_true rfl⟩ ⟨rfl, rfl⟩ (As := [.int (vr_I a0), .int (vr_I 1), .int (vr_I 30)]) rfl (st := []) rfl (Nat.le_of_ble_eq_true rfl) dX9_less_4 (fun r6 hr6 => ?_)
  refine jr_if_ne C0 hr6 dX9_less_7 (tgt := 13) (by decide) ?_ ?_
  · refine jr_iconst C0 dX9_less_13 ?_
    refine jr_istore_n C0 dX9_less_14 rfl (by decide) (lv' := [(2, .int (vr_I 1)), (0, .ref (vr_ad G 0)), (1, .int (vr_I a0))]) rfl ?_
    refine jr_sub [1, 2, 0] rfl ?_
    exact L15 9000 a0 h_a0 1 (⟨by decide, by decide⟩) _
  refine jr_bipush C0 dX9_less_10 rfl ?_
  exact jr_iret C0 (⟨by decide, by decide⟩) dX9_less_12
theorem dX9_commonDivisor_0 : decode cX9_commonDivisor 0 = .ok (.iconst 0, 1) := by decide +kernel
theorem dX9_commonDivisor_1 : decode cX9_commonDivisor 1 = .ok (.istore 4, 2) := by decide +kernel
theorem dX9_commonDivisor_3 : decode cX9_commonDivisor 3 = .ok (.iload 4, 2) := by decide +kernel
theorem dX9_commonDivisor_5 : decode cX9_commonDivisor 5 = .ok (.bipush 100, 2) := by decide +kernel
theorem dX9_commonDivisor_7 : decode cX9_commonDivisor 7 = .ok (.if_icmp .ge 25, 3) := by decide +kernel
theorem dX9_commonDivisor_10 : decode cX9_commonDivisor 10 = .ok (.lload_n 2, 1) := by decide +kernel
theorem dX9_commonDivisor_11 : decode cX9_commonDivisor 11 = .ok (.lconst 0, 1) := by decide +kernel
theorem dX9_commonDivisor_12 : decode cX9_commonDivisor 12 = .ok (.lcmp, 1) := by decide +kernel
theorem dX9_commonDivisor_13 : decode cX9_commonDivisor 13 = .ok (.ifCond .eq 19, 3) := by decide +kernel
theorem dX9_commonDivisor_16 : decode cX9_commonDivisor 16 = .ok (.lload_n 0, 1) := by decide +kernel
theorem dX9_commonDivisor_17 : decode cX9_commonDivisor 17 = .ok (.lload_n 2, 1) := by decide +kernel
theorem dX9_commonDivisor_18 : decode cX9_commonDivisor 18 = .ok (.lrem, 1) := by decide +kernel
theorem dX9_commonDivisor_19 : decode cX9_commonDivisor 19 = .ok (.lstore 5, 2) := by decide +kernel
theorem dX9_commonDivisor_21 : decode cX9_commonDivisor 21 = .ok (.lload_n 2, 1) := by decide +kernel
theorem dX9_commonDivisor_22 : decode cX9_commonDivisor 22 = .ok (.lstore_n 0, 1) := by decide +kernel
theorem dX9_commonDivisor_23 : decode cX9_commonDivisor 23 = .ok (.lload 5, 2) := by decide +kernel
theorem dX9_commonDivisor_25 : decode cX9_commonDivisor 25 = .ok (.lstore_n 2, 1) := by decide +kernel
theorem dX9_commonDivisor_26 : decode cX9_commonDivisor 26 = .ok (.iinc 4 1, 3) := by decide +kernel
theorem dX9_commonDivisor_29 : decode cX9_commonDivisor 29 = .ok (.goto (-26), 3) := by decide +kernel
theorem dX9_commonDivisor_32 : decode cX9_commonDivisor 32 = .ok (.lload_n 0, 1) := by decide +kernel
theorem dX9_commonDivisor_33 : decode cX9_commonDivisor 33 = .ok (.lreturn, 1) := by decide +kernel
def fX9_commonDivisor_B32 (x0 : Int64) (μ : vr_M) : Option (Int64 × vr_M) :=
  some (x0, μ)
def fX9_commonDivisor_L3 : Nat → Int64 → Int64 → Int → vr_M → Option (Int64 × vr_M)
  | 0, _, _, _, _ => none
  | n + 1, x0, x2, x4, μ => if 100 ≤ x4 then fX9_commonDivisor_B32 x0 μ else if (vr_lcmp x2 (0 : Int64)) = 0 then fX9_commonDivisor_B32 x0 μ else vr_gd (¬ x2 = 0) (vr_gd (vr_R (x4 + 1)) ((fX9_commonDivisor_L3 n) x2 (vr_lrem x0 x2) (x4 + 1) μ))
def fX9_commonDivisor (a0 : Int64) (a1 : Int64) (μ : vr_M) : Option (Int64 × vr_M) :=
  fX9_commonDivisor_L3 9000 a0 a1 0 μ
set_option maxRecDepth 100000 in
set_option maxHeartbeats 4000000 in
theorem ct_X9_commonDivisor (l : Launch) (G : vr_G) (a0 : Int64) (a1 : Int64) (μ : vr_M) : vr_CL l yX9_commonDivisor cX9_commonDivisor 7 (some .long) ({ frames := 0, cells := 0, slots := 0, locals := 0 } : Room) G [.long a0, .long a1] μ (fX9_commonDivisor a0 a1 μ) := by
  refine vr_start (own := RX9) (by decide) rfl (Nat.le_of_ble_eq_true rfl) (fun p e s m args below meth c C0 => ?_)
  show vr_J p l e _ s m args below meth c 7 0 0 G (vr_Z (vr_QL G) G args s below) 0 [(0, .long a0), (2, .long a1)] [] μ _
  have B32 : ∀ (x0 : Int64) (μ : vr_M), vr_J p l e ({ frames := 0, cells := 0, slots := 0, locals := 0 } : Room) s m args below meth c 7 0 0 G (vr_Z (vr_QL G) G args s below) 32 [(0, .long x0)] [] μ (fX9_commonDivisor_B32 x0 μ) := by
    intro x0 μ
    unfold fX9_commonDivisor_B32
    refine jr_lload_n C0 0 dX9_commonDivisor_32 rfl rfl ?_
    exact jr_lret C0 dX9_commonDivisor_33
  have L3 : ∀ (n : Nat) (x0 : Int64) (x2 : Int64) (x4 : Int) (h_x4 : vr_R x4) (μ : vr_M), vr_J p l e ({ frames := 0, cells := 0, slots := 0, locals := 0 } : Room) s m args below meth c 7 0 0 G (vr_Z (vr_QL G) G args s below) 3 [(0, .long x0), (2, .long x2), (4, .int (vr_I x4))] [] μ (fX9_commonDivisor_L3 n x0 x2 x4 μ) := by
    intro n3
    induction n3 with
    | zero => intros; exact jr_none
    | succ n3 ih3 =>
      intro x0 x2 x4 h_x4 μ
      rw [fX9_commonDivisor_L3.eq_2]
      refine jr_iload C0 2 dX9_commonDivisor_3 rfl ?_
      refine jr_bipush C0 dX9_commonDivisor_5 rfl ?_
      refine jr_icmp_ge C0 h_x4 (⟨by decide, by decide⟩) dX9_commonDivisor_7 (tgt := 32) (by decide) ?_ ?_
      · refine jr_sub [0] rfl ?_
        exact B32 x0 _
      refine jr_lload_n C0 1 dX9_commonDivisor_10 rfl rfl ?_
      refine jr_lconst C0 dX9_commonDivisor_11 (v := 0) rfl ?_
      refine jr_lcmp C0 dX9_commonDivisor_12 ?_
      refine jr_if_eq C0 (vr_RT _) dX9_commonDivisor_13 (tgt := 32) (by decide) ?_ ?_
      · refine jr_sub [0] rfl ?_
        exact B32 x0 _
      refine jr_lload_n C0 0 dX9_commonDivisor_16 rfl rfl ?_
      refine jr_lload_n C0 1 dX9_commonDivisor_17 rfl rfl ?_
      refine jr_gd (fun g1 => ?_)
      refine jr_lrem C0 g1 dX9_commonDivisor_18 ?_
      refine jr_lstore C0 dX9_commonDivisor_19 (by decide) (lv' := [(5, .long (vr_lrem x0 x2)), (0, .long x0), (2, .long x2), (4, .int (vr_I x4))]) rfl ?_
      refine jr_lload_n C0 2 dX9_commonDivisor_21 rfl rfl ?_
      refine jr_lstore_n C0 dX9_commonDivisor_22 rfl (by decide) (lv' := [(0, .long x2), (5, .long (vr_lrem x0 x2)), (2, .long x2), (4, .int (vr_I x4))]) rfl ?_
      refine jr_lload C0 1 dX9_commonDivisor_23 rfl ?_
      refine jr_lstore_n C0 dX9_commonDivisor_25 rfl (by decide) (lv' := [(2, .long (vr_lrem x0 x2)), (0, .long x2), (5, .long (vr_lrem x0 x2)), (4, .int (vr_I x4))]) rfl ?_
      refine jr_iinc C0 (q := 3) dX9_commonDivisor_26 rfl (by decide) (lv' := [(4, .int (vr_I (x4 + 1))), (2, .long (vr_lrem x0 x2)), (0, .long x2), (5, .long (vr_lrem x0 x2))]) rfl ?_
      refine jr_goto C0 dX9_commonDivisor_29 (tgt := 3) (by decide) ?_
      refine jr_gd (fun g2 => ?_)
      refine jr_sub [2, 1, 0] rfl ?_
      exact ih3 x2 (vr_lrem x0 x2) (x4 + 1) g2 _
  unfold fX9_commonDivisor
  refine jr_iconst C0 dX9_commonDivisor_0 ?_
  refine jr_istore C0 dX9_commonDivisor_1 (by decide) (lv' := [(4, .int (vr_I 0)), (0, .long a0), (2, .long a1)]) rfl ?_
  refine jr_sub [1, 2, 0] rfl ?_
  exact L3 9000 a0 a1 0 (⟨by decide, by decide⟩) _
theorem dX9_safe_0 : decode cX9_safe 0 = .ok (.aload_n 0, 1) := by decide +kernel
theorem dX9_safe_1 : decode cX9_safe 1 = .ok (.getfield 12, 3) := by decide +kernel
theorem dX9_safe_4 : decode cX9_safe 4 = .ok (.iload_n 1, 1) := by decide +kernel
theorem dX9_safe_5 : decode cX9_safe 5 = .ok (.invokevirtual 169, 3) := by decide +kernel
theorem dX9_safe_8 : decode cX9_safe 8 = .ok (.ifCond .eq 22, 3) := by decide +kernel
theorem dX9_safe_11 : decode cX9_safe 11 = .ok (.iload_n 2, 1) := by decide +kernel
theorem dX9_safe_12 : decode cX9_safe 12 = .ok (.iconst 1, 1) := by decide +kernel
theorem dX9_safe_13 : decode cX9_safe 13 = .ok (.bipush 6, 2) := by decide +kernel
theorem dX9_safe_15 : decode cX9_safe 15 = .ok (.invokestatic 66, 3) := by decide +kernel
theorem dX9_safe_18 : decode cX9_safe 18 = .ok (.ifCond .eq 12, 3) := by decide +kernel
theorem dX9_safe_21 : decode cX9_safe 21 = .ok (.iload_n 3, 1) := by decide +kernel
theorem dX9_safe_22 : decode cX9_safe 22 = .ok (.iconst 0, 1) := by decide +kernel
theorem dX9_safe_23 : decode cX9_safe 23 = .ok (.iconst 1, 1) := by decide +kernel
theorem dX9_safe_24 : decode cX9_safe 24 = .ok (.invokestatic 66, 3) := by decide +kernel
theorem dX9_safe_27 : decode cX9_safe 27 = .ok (.ifCond .ne 7, 3) := by decide +kernel
theorem dX9_safe_30 : decode cX9_safe 30 = .ok (.ldc2_w 229, 3) := by decide +kernel
theorem dX9_safe_33 : decode cX9_safe 33 = .ok (.lreturn, 1) := by decide +kernel
theorem dX9_safe_34 : decode cX9_safe 34 = .ok (.aload_n 0, 1) := by decide +kernel
theorem dX9_safe_35 : decode cX9_safe 35 = .ok (.iload_n 1, 1) := by decide +kernel
theorem dX9_safe_36 : decode cX9_safe 36 = .ok (.invokevirtual 172, 3) := by decide +kernel
theorem dX9_safe_39 : decode cX9_safe 39 = .ok (.lconst 1, 1) := by decide +kernel
theorem dX9_safe_40 : decode cX9_safe 40 = .ok (.lstore 4, 2) := by decide +kernel
theorem dX9_safe_42 : decode cX9_safe 42 = .ok (.lconst 1, 1) := by decide +kernel
theorem dX9_safe_43 : decode cX9_safe 43 = .ok (.lstore 6, 2) := by decide +kernel
theorem dX9_safe_45 : decode cX9_safe 45 = .ok (.iconst 0, 1) := by decide +kernel
theorem dX9_safe_46 : decode cX9_safe 46 = .ok (.istore 8, 2) := by decide +kernel
theorem dX9_safe_48 : decode cX9_safe 48 = .ok (.iload 8, 2) := by decide +kernel
theorem dX9_safe_50 : decode cX9_safe 50 = .ok (.iload_n 2, 1) := by decide +kernel
theorem dX9_safe_51 : decode cX9_safe 51 = .ok (.if_icmp .ge 39, 3) := by decide +kernel
theorem dX9_safe_54 : decode cX9_safe 54 = .ok (.aload_n 0, 1) := by decide +kernel
theorem dX9_safe_55 : decode cX9_safe 55 = .ok (.getfield 46, 3) := by decide +kernel
theorem dX9_safe_58 : decode cX9_safe 58 = .ok (.iconst 1, 1) := by decide +kernel
theorem dX9_safe_59 : decode cX9_safe 59 = .ok (.iconst 1, 1) := by decide +kernel
theorem dX9_safe_60 : decode cX9_safe 60 = .ok (.invokevirtual 182, 3) := by decide +kernel
theorem dX9_safe_63 : decode cX9_safe 63 = .ok (.lload 4, 2) := by decide +kernel
theorem dX9_safe_65 : decode cX9_safe 65 = .ok (.aload_n 0, 1) := by decide +kernel
theorem dX9_safe_66 : decode cX9_safe 66 = .ok (.getfield 46, 3) := by decide +kernel
theorem dX9_safe_69 : decode cX9_safe 69 = .ok (.invokevirtual 231, 3) := by decide +kernel
theorem dX9_safe_72 : decode cX9_safe 72 = .ok (.i2l, 1) := by decide +kernel
theorem dX9_safe_73 : decode cX9_safe 73 = .ok (.lmul, 1) := by decide +kernel
theorem dX9_safe_74 : decode cX9_safe 74 = .ok (.lstore 4, 2) := by decide +kernel
theorem dX9_safe_76 : decode cX9_safe 76 = .ok (.lload 6, 2) := by decide +kernel
theorem dX9_safe_78 : decode cX9_safe 78 = .ok (.ldc2_w 234, 3) := by decide +kernel
theorem dX9_safe_81 : decode cX9_safe 81 = .ok (.lmul, 1) := by decide +kernel
theorem dX9_safe_82 : decode cX9_safe 82 = .ok (.lstore 6, 2) := by decide +kernel
theorem dX9_safe_84 : decode cX9_safe 84 = .ok (.iinc 8 1, 3) := by decide +kernel
theorem dX9_safe_87 : decode cX9_safe 87 = .ok (.goto (-39), 3) := by decide +kernel
theorem dX9_safe_90 : decode cX9_safe 90 = .ok (.lload 4, 2) := by decide +kernel
theorem dX9_safe_92 : decode cX9_safe 92 = .ok (.lload 6, 2) := by decide +kernel
theorem dX9_safe_94 : decode cX9_safe 94 = .ok (.invokestatic 236, 3) := by decide +kernel
theorem dX9_safe_97 : decode cX9_safe 97 = .ok (.lstore 8, 2) := by decide +kernel
theorem dX9_safe_99 : decode cX9_safe 99 = .ok (.lload 8, 2) := by decide +kernel
theorem dX9_safe_101 : decode cX9_safe 101 = .ok (.lconst 0, 1) := by decide +kernel
theorem dX9_safe_102 : decode cX9_safe 102 = .ok (.lcmp, 1) := by decide +kernel
theorem dX9_safe_103 : decode cX9_safe 103 = .ok (.ifCond .gt 7, 3) := by decide +kernel
theorem dX9_safe_106 : decode cX9_safe 106 = .ok (.ldc2_w 229, 3) := by decide +kernel
theorem dX9_safe_109 : decode cX9_safe 109 = .ok (.lreturn, 1) := by decide +kernel
theorem dX9_safe_110 : decode cX9_safe 110 = .ok (.iload_n 3, 1) := by decide +kernel
theorem dX9_safe_111 : decode cX9_safe 111 = .ok (.ifCond .ne 8, 3) := by decide +kernel
theorem dX9_safe_114 : decode cX9_safe 114 = .ok (.lload 4, 2) := by decide +kernel
theorem dX9_safe_116 : decode cX9_safe 116 = .ok (.goto 5, 3) := by decide +kernel
theorem dX9_safe_119 : decode cX9_safe 119 = .ok (.lload 6, 2) := by decide +kernel
theorem dX9_safe_121 : decode cX9_safe 121 = .ok (.lload 8, 2) := by decide +kernel
theorem dX9_safe_123 : decode cX9_safe 123 = .ok (.ldiv, 1) := by decide +kernel
theorem dX9_safe_124 : decode cX9_safe 124 = .ok (.lreturn, 1) := by decide +kernel
def fX9_safe_B30 (μ : vr_M) : Option (Int64 × vr_M) :=
  some (((-9223372036854775808) : Int64), μ)
def fX9_safe_B121 (x8 : Int64) (y0 : Int64) (μ : vr_M) : Option (Int64 × vr_M) :=
  vr_gd (¬ x8 = 0) (some (y0 / x8, μ))
def fX9_safe_L48 : Nat → Int → Int → Int64 → Int64 → Int → vr_M → Option (Int64 × vr_M)
  | 0, _, _, _, _, _, _ => none
  | n + 1, x2, x3, x4, x6, x8, μ => if x2 ≤ x8 then (fX9_commonDivisor x4 x6 μ).bind (fun r2 => if 0 < (vr_lcmp r2.1 (0 : Int64)) then if ¬ x3 = 0 then fX9_safe_B121 r2.1 x6 r2.2 else fX9_safe_B121 r2.1 x4 r2.2 else some (((-9223372036854775808) : Int64), r2.2)) else (fX7_spendYears 1 1 μ).bind (fun r3 => (fX7_fedOfTen  r3.2).bind (fun r4 => vr_gd (vr_R (x8 + 1)) ((fX9_safe_L48 n) x2 x3 (x4 * (vr_i2l r4.1)) (x6 * (10 : Int64)) (x8 + 1) r4.2)))
def fX9_safe (a0 : Int) (a1 : Int) (a2 : Int) (μ : vr_M) : Option (Int64 × vr_M) :=
  (fX8_hasRule 1 a0 μ).bind (fun r6 => if r6.1 = 0 then fX9_safe_B30 r6.2 else (fX9_within a1 1 6 r6.2).bind (fun r7 => if r7.1 = 0 then fX9_safe_B30 r7.2 else (fX9_within a2 0 1 r7.2).bind (fun r8 => if ¬ r8.1 = 0 then (fX9_beginRule a0 r8.2).bind (fun r9 => fX9_safe_L48 9000 a1 a2 (1 : Int64) (1 : Int64) 0 r9.2) else fX9_safe_B30 r8.2)))
set_option maxRecDepth 100000 in
set_option maxHeartbeats 4000000 in
theorem ct_X9_safe (l : Launch) (G : vr_G) (a0 : Int) (h_a0 : vr_R a0) (a1 : Int) (h_a1 : vr_R a1) (a2 : Int) (h_a2 : vr_R a2) (μ : vr_M) : vr_CL l yX9_safe cX9_safe 10 (some .long) ({ frames := 6, cells := 0, slots := 0, locals := 147 } : Room) G [.ref (vr_ad G 0), .int (vr_I a0), .int (vr_I a1), .int (vr_I a2)] μ (fX9_safe a0 a1 a2 μ) := by
  refine vr_start (own := RX9) (by decide) rfl (Nat.le_of_ble_eq_true rfl) (fun p e s m args below meth c C0 => ?_)
  show vr_J p l e _ s m args below meth c 10 0 0 G (vr_Z (vr_QL G) G args s below) 0 [(0, .ref (vr_ad G 0)), (1, .int (vr_I a0)), (2, .int (vr_I a1)), (3, .int (vr_I a2))] [] μ _
  have B30 : ∀ (μ : vr_M), vr_J p l e ({ frames := 6, cells := 0, slots := 0, locals := 147 } : Room) s m args below meth c 10 0 0 G (vr_Z (vr_QL G) G args s below) 30 [] [] μ (fX9_safe_B30 μ) := by
    intro μ
    unfold fX9_safe_B30
    refine jr_ldc2 C0 wk_X9_229 dX9_safe_30 ?_
    exact jr_lret C0 dX9_safe_33
  have B121 : ∀ (x8 : Int64) (y0 : Int64) (μ : vr_M), vr_J p l e ({ frames := 6, cells := 0, slots := 0, locals := 147 } : Room) s m args below meth c 10 0 0 G (vr_Z (vr_QL G) G args s below) 121 [(8, .long x8)] [.long y0] μ (fX9_safe_B121 x8 y0 μ) := by
    intro x8 y0 μ
    unfold fX9_safe_B121
    refine jr_lload C0 0 dX9_safe_121 rfl ?_
    refine jr_gd (fun g1 => ?_)
    refine jr_ldiv C0 g1 dX9_safe_123 ?_
    exact jr_lret C0 dX9_safe_124
  have L48 : ∀ (n : Nat) (x2 : Int) (h_x2 : vr_R x2) (x3 : Int) (h_x3 : vr_R x3) (x4 : Int64) (x6 : Int64) (x8 : Int) (h_x8 : vr_R x8) (μ : vr_M), vr_J p l e ({ frames := 6, cells := 0, slots := 0, locals := 147 } : Room) s m args below meth c 10 0 0 G (vr_Z (vr_QL G) G args s below) 48 [(0, .ref (vr_ad G 0)), (2, .int (vr_I x2)), (3, .int (vr_I x3)), (4, .long x4), (6, .long x6), (8, .int (vr_I x8))] [] μ (fX9_safe_L48 n x2 x3 x4 x6 x8 μ) := by
    intro n48
    induction n48 with
    | zero => intros; exact jr_none
    | succ n48 ih48 =>
      intro x2 h_x2 x3 h_x3 x4 x6 x8 h_x8 μ
      rw [fX9_safe_L48.eq_2]
      refine jr_iload C0 5 dX9_safe_48 rfl ?_
      refine jr_iload_n C0 1 dX9_safe_50 rfl rfl ?_
      refine jr_icmp_ge C0 h_x8 h_x2 dX9_safe_51 (tgt := 90) (by decide) ?_ ?_
      · refine jr_lload C0 3 dX9_safe_90 rfl ?_
        refine jr_lload C0 4 dX9_safe_92 rfl ?_
        refine jr_sL C0 (ct_X9_commonDivisor l G x4 x6 _) mi_X9_commonDivisor wm_X9_236 ⟨Nat.le_of_ble_eq_true rfl, Nat.le_of_ble_eq_true rfl⟩ ⟨rfl, rfl⟩ (As := [.long x4, .long x6]) rfl (st := []) rfl (Nat.le_of_ble_eq_true rfl) dX9_safe_94 (fun r2 => ?_)
        refine jr_lstore C0 dX9_safe_97 (by decide) (lv' := [(8, .long r2.1), (0, .ref (vr_ad G 0)), (2, .int (vr_I x2)), (3, .int (vr_I x3)), (4, .long x4), (6, .long x6)]) rfl ?_
        refine jr_lload C0 0 dX9_safe_99 rfl ?_
        refine jr_lconst C0 dX9_safe_101 (v := 0) rfl ?_
        refine jr_lcmp C0 dX9_safe_102 ?_
        refine jr_if_gt C0 (vr_RT _) dX9_safe_103 (tgt := 110) (by decide) ?_ ?_
        · refine jr_iload_n C0 3 dX9_safe_110 rfl rfl ?_
          refine jr_if_ne C0 h_x3 dX9_safe_111 (tgt := 119) (by decide) ?_ ?_
          · refine jr_lload C0 5 dX9_safe_119 rfl ?_
            refine jr_sub [0] rfl ?_
            exact B121 r2.1 x6 _
          refine jr_lload C0 4 dX9_safe_114 rfl ?_
          refine jr_goto C0 dX9_safe_116 (tgt := 121) (by decide) ?_
          refine jr_sub [0] rfl ?_
          exact B121 r2.1 x4 _
        refine jr_ldc2 C0 wk_X9_229 dX9_safe_106 ?_
        exact jr_lret C0 dX9_safe_109
      refine jr_aload_n C0 0 dX9_safe_54 rfl rfl ?_
      refine jr_getr C0 (by decide) kd_0 (by decide) rfl wx_X9 (i := 5) (by decide) wf_X9_46 (j := 51) rfl dX9_safe_55 ?_
      refine jr_iconst C0 dX9_safe_58 ?_
      refine jr_iconst C0 dX9_safe_59 ?_
      refine jr_vV0 C0 (by decide) kd_51 (by decide) rfl (ct_X7_spendYears l G 1 (⟨by decide, by decide⟩) 1 (⟨by decide, by decide⟩) _) mi_X7_spendYears wm_X9_182 ⟨Nat.le_of_ble_eq_true rfl, Nat.le_of_ble_eq_true rfl⟩ ⟨rfl, rfl⟩ (As := [.int (vr_I 1), .int (vr_I 1)]) rfl (st := []) rfl (Nat.le_of_ble_eq_true rfl) dX9_safe_60 (fun r3 => ?_)
      refine jr_lload C0 3 dX9_safe_63 rfl ?_
      refine jr_aload_n C0 0 dX9_safe_65 rfl rfl ?_
      refine jr_getr C0 (by decide) kd_0 (by decide) rfl wx_X9 (i := 5) (by decide) wf_X9_46 (j := 51) rfl dX9_safe_66 ?_
      refine jr_vI C0 (by decide) kd_51 (by decide) rfl (ct_X7_fedOfTen l G  _) mi_X7_fedOfTen wm_X9_231 ⟨Nat.le_of_ble_eq_true rfl, Nat.le_of_ble_eq_true rfl⟩ ⟨rfl, rfl⟩ (As := []) rfl (st := [.long x4]) rfl (Nat.le_of_ble_eq_true rfl) dX9_safe_69 (fun r4 hr4 => ?_)
      refine jr_i2l C0 dX9_safe_72 ?_
      refine jr_lmul C0 dX9_safe_73 ?_
      refine jr_lstore C0 dX9_safe_74 (by decide) (lv' := [(4, .long (x4 * (vr_i2l r4.1))), (0, .ref (vr_ad G 0)), (2, .int (vr_I x2)), (3, .int (vr_I x3)), (6, .long x6), (8, .int (vr_I x8))]) rfl ?_
      refine jr_lload C0 4 dX9_safe_76 rfl ?_
      refine jr_ldc2 C0 wk_X9_234 dX9_safe_78 ?_
      refine jr_lmul C0 dX9_safe_81 ?_
      refine jr_lstore C0 dX9_safe_82 (by decide) (lv' := [(6, .long (x6 * (10 : Int64))), (4, .long (x4 * (vr_i2l r4.1))), (0, .ref (vr_ad G 0)), (2, .int (vr_I x2)), (3, .int (vr_I x3)), (8, .int (vr_I x8))]) rfl ?_
      refine jr_iinc C0 (q := 5) dX9_safe_84 rfl (by decide) (lv' := [(8, .int (vr_I (x8 + 1))), (6, .long (x6 * (10 : Int64))), (4, .long (x4 * (vr_i2l r4.1))), (0, .ref (vr_ad G 0)), (2, .int (vr_I x2)), (3, .int (vr_I x3))]) rfl ?_
      refine jr_goto C0 dX9_safe_87 (tgt := 48) (by decide) ?_
      refine jr_gd (fun g5 => ?_)
      refine jr_sub [3, 4, 5, 2, 1, 0] rfl ?_
      exact ih48 x2 h_x2 x3 h_x3 (x4 * (vr_i2l r4.1)) (x6 * (10 : Int64)) (x8 + 1) g5 _
  unfold fX9_safe
  refine jr_aload_n C0 0 dX9_safe_0 rfl rfl ?_
  refine jr_getr C0 (by decide) kd_0 (by decide) rfl wx_X9 (i := 0) (by decide) wf_X9_12 (j := 1) rfl dX9_safe_1 ?_
  refine jr_iload_n C0 1 dX9_safe_4 rfl rfl ?_
  refine jr_vI C0 (by decide) kd_1 (by decide) rfl (ct_X8_hasRule l G (by decide) kd_1 a0 h_a0 _) mi_X8_hasRule wm_X9_169 ⟨Nat.le_of_ble_eq_true rfl, Nat.le_of_ble_eq_true rfl⟩ ⟨rfl, rfl⟩ (As := [.int (vr_I a0)]) rfl (st := []) rfl (Nat.le_of_ble_eq_true rfl) dX9_safe_5 (fun r6 hr6 => ?_)
  refine jr_if_eq C0 hr6 dX9_safe_8 (tgt := 30) (by decide) ?_ ?_
  · refine jr_sub [] rfl ?_
    exact B30 _
  refine jr_iload_n C0 2 dX9_safe_11 rfl rfl ?_
  refine jr_iconst C0 dX9_safe_12 ?_
  refine jr_bipush C0 dX9_safe_13 rfl ?_
  refine jr_sI C0 (ct_X9_within l G a1 h_a1 1 (⟨by decide, by decide⟩) 6 (⟨by decide, by decide⟩) _) mi_X9_within wm_X9_66 ⟨Nat.le_of_ble_eq_true rfl, Nat.le_of_ble_eq_true rfl⟩ ⟨rfl, rfl⟩ (As := [.int (vr_I a1), .int (vr_I 1), .int (vr_I 6)]) rfl (st := []) rfl (Nat.le_of_ble_eq_true rfl) dX9_safe_15 (fun r7 hr7 => ?_)
  refine jr_if_eq C0 hr7 dX9_safe_18 (tgt := 30) (by decide) ?_ ?_
  · refine jr_sub [] rfl ?_
    exact B30 _
  refine jr_iload_n C0 3 dX9_safe_21 rfl rfl ?_
  refine jr_iconst C0 dX9_safe_22 ?_
  refine jr_iconst C0 dX9_safe_23 ?_
  refine jr_sI C0 (ct_X9_within l G a2 h_a2 0 (⟨by decide, by decide⟩) 1 (⟨by decide, by decide⟩) _) mi_X9_within wm_X9_66 ⟨Nat.le_of_ble_eq_true rfl, Nat.le_of_ble_eq_true rfl⟩ ⟨rfl, rfl⟩ (As := [.int (vr_I a2), .int (vr_I 0), .int (vr_I 1)]) rfl (st := []) rfl (Nat.le_of_ble_eq_true rfl) dX9_safe_24 (fun r8 hr8 => ?_)
  refine jr_if_ne C0 hr8 dX9_safe_27 (tgt := 34) (by decide) ?_ ?_
  · refine jr_aload_n C0 0 dX9_safe_34 rfl rfl ?_
    refine jr_iload_n C0 1 dX9_safe_35 rfl rfl ?_
    refine jr_vV0 C0 (by decide) kd_0 (by decide) rfl (ct_X9_beginRule l G a0 h_a0 _) mi_X9_beginRule wm_X9_172 ⟨Nat.le_of_ble_eq_true rfl, Nat.le_of_ble_eq_true rfl⟩ ⟨rfl, rfl⟩ (As := [.int (vr_I a0)]) rfl (st := []) rfl (Nat.le_of_ble_eq_true rfl) dX9_safe_36 (fun r9 => ?_)
    refine jr_lconst C0 dX9_safe_39 (v := 1) rfl ?_
    refine jr_lstore C0 dX9_safe_40 (by decide) (lv' := [(4, .long (1 : Int64)), (0, .ref (vr_ad G 0)), (1, .int (vr_I a0)), (2, .int (vr_I a1)), (3, .int (vr_I a2))]) rfl ?_
    refine jr_lconst C0 dX9_safe_42 (v := 1) rfl ?_
    refine jr_lstore C0 dX9_safe_43 (by decide) (lv' := [(6, .long (1 : Int64)), (4, .long (1 : Int64)), (0, .ref (vr_ad G 0)), (1, .int (vr_I a0)), (2, .int (vr_I a1)), (3, .int (vr_I a2))]) rfl ?_
    refine jr_iconst C0 dX9_safe_45 ?_
    refine jr_istore C0 dX9_safe_46 (by decide) (lv' := [(8, .int (vr_I 0)), (6, .long (1 : Int64)), (4, .long (1 : Int64)), (0, .ref (vr_ad G 0)), (1, .int (vr_I a0)), (2, .int (vr_I a1)), (3, .int (vr_I a2))]) rfl ?_
    refine jr_sub [3, 5, 6, 2, 1, 0] rfl ?_
    exact L48 9000 a1 h_a1 a2 h_a2 (1 : Int64) (1 : Int64) 0 (⟨by decide, by decide⟩) _
  refine jr_sub [] rfl ?_
  exact B30 _
