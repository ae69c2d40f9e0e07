theorem dX9_two_0 : decode cX9_two 0 = .ok (.iload_n 1, 1) := by decide +kernel
theorem dX9_two_1 : decode cX9_two 1 = .ok (.iconst 0, 1) := by decide +kernel
theorem dX9_two_2 : decode cX9_two 2 = .ok (.bipush 40, 2) := by decide +kernel
theorem dX9_two_4 : decode cX9_two 4 = .ok (.invokestatic 66, 3) := by decide +kernel
theorem dX9_two_7 : decode cX9_two 7 = .ok (.ifCond .ne 6, 3) := by decide +kernel
theorem dX9_two_10 : decode cX9_two 10 = .ok (.bipush (-2), 2) := by decide +kernel
theorem dX9_two_12 : decode cX9_two 12 = .ok (.ireturn, 1) := by decide +kernel
theorem dX9_two_13 : decode cX9_two 13 = .ok (.aload_n 0, 1) := by decide +kernel
theorem dX9_two_14 : decode cX9_two 14 = .ok (.getfield 46, 3) := by decide +kernel
theorem dX9_two_17 : decode cX9_two 17 = .ok (.invokevirtual 133, 3) := by decide +kernel
theorem dX9_two_20 : decode cX9_two 20 = .ok (.aload_n 0, 1) := by decide +kernel
theorem dX9_two_21 : decode cX9_two 21 = .ok (.getfield 12, 3) := by decide +kernel
theorem dX9_two_24 : decode cX9_two 24 = .ok (.getfield 70, 3) := by decide +kernel
theorem dX9_two_27 : decode cX9_two 27 = .ok (.getfield 130, 3) := by decide +kernel
theorem dX9_two_30 : decode cX9_two 30 = .ok (.iconst 1, 1) := by decide +kernel
theorem dX9_two_31 : decode cX9_two 31 = .ok (.iadd, 1) := by decide +kernel
theorem dX9_two_32 : decode cX9_two 32 = .ok (.iconst 2, 1) := by decide +kernel
theorem dX9_two_33 : decode cX9_two 33 = .ok (.idiv, 1) := by decide +kernel
theorem dX9_two_34 : decode cX9_two 34 = .ok (.istore_n 2, 1) := by decide +kernel
theorem dX9_two_35 : decode cX9_two 35 = .ok (.iconst 0, 1) := by decide +kernel
theorem dX9_two_36 : decode cX9_two 36 = .ok (.istore_n 3, 1) := by decide +kernel
theorem dX9_two_37 : decode cX9_two 37 = .ok (.iconst 0, 1) := by decide +kernel
theorem dX9_two_38 : decode cX9_two 38 = .ok (.istore 4, 2) := by decide +kernel
theorem dX9_two_40 : decode cX9_two 40 = .ok (.iload 4, 2) := by decide +kernel
theorem dX9_two_42 : decode cX9_two 42 = .ok (.aload_n 0, 1) := by decide +kernel
theorem dX9_two_43 : decode cX9_two 43 = .ok (.getfield 12, 3) := by decide +kernel
theorem dX9_two_46 : decode cX9_two 46 = .ok (.getfield 70, 3) := by decide +kernel
theorem dX9_two_49 : decode cX9_two 49 = .ok (.invokevirtual 149, 3) := by decide +kernel
theorem dX9_two_52 : decode cX9_two 52 = .ok (.if_icmp .gt 80, 3) := by decide +kernel
theorem dX9_two_55 : decode cX9_two 55 = .ok (.aload_n 0, 1) := by decide +kernel
theorem dX9_two_56 : decode cX9_two 56 = .ok (.getfield 46, 3) := by decide +kernel
theorem dX9_two_59 : decode cX9_two 59 = .ok (.getfield 136, 3) := by decide +kernel
theorem dX9_two_62 : decode cX9_two 62 = .ok (.iload 4, 2) := by decide +kernel
theorem dX9_two_64 : decode cX9_two 64 = .ok (.aload_n 0, 1) := by decide +kernel
theorem dX9_two_65 : decode cX9_two 65 = .ok (.getfield 12, 3) := by decide +kernel
theorem dX9_two_68 : decode cX9_two 68 = .ok (.getfield 70, 3) := by decide +kernel
theorem dX9_two_71 : decode cX9_two 71 = .ok (.getfield 127, 3) := by decide +kernel
theorem dX9_two_74 : decode cX9_two 74 = .ok (.invokevirtual 240, 3) := by decide +kernel
theorem dX9_two_77 : decode cX9_two 77 = .ok (.iload_n 2, 1) := by decide +kernel
theorem dX9_two_78 : decode cX9_two 78 = .ok (.if_icmp .lt 7, 3) := by decide +kernel
theorem dX9_two_81 : decode cX9_two 81 = .ok (.iconst 1, 1) := by decide +kernel
theorem dX9_two_82 : decode cX9_two 82 = .ok (.goto 4, 3) := by decide +kernel
theorem dX9_two_85 : decode cX9_two 85 = .ok (.iconst 0, 1) := by decide +kernel
theorem dX9_two_86 : decode cX9_two 86 = .ok (.istore 5, 2) := by decide +kernel
theorem dX9_two_88 : decode cX9_two 88 = .ok (.iload 5, 2) := by decide +kernel
theorem dX9_two_90 : decode cX9_two 90 = .ok (.ifCond .eq 36, 3) := by decide +kernel
theorem dX9_two_93 : decode cX9_two 93 = .ok (.aload_n 0, 1) := by decide +kernel
theorem dX9_two_94 : decode cX9_two 94 = .ok (.getfield 46, 3) := by decide +kernel
theorem dX9_two_97 : decode cX9_two 97 = .ok (.getfield 136, 3) := by decide +kernel
theorem dX9_two_100 : decode cX9_two 100 = .ok (.aload_n 0, 1) := by decide +kernel
theorem dX9_two_101 : decode cX9_two 101 = .ok (.getfield 12, 3) := by decide +kernel
theorem dX9_two_104 : decode cX9_two 104 = .ok (.getfield 70, 3) := by decide +kernel
theorem dX9_two_107 : decode cX9_two 107 = .ok (.invokevirtual 149, 3) := by decide +kernel
theorem dX9_two_110 : decode cX9_two 110 = .ok (.iload 4, 2) := by decide +kernel
theorem dX9_two_112 : decode cX9_two 112 = .ok (.iconst (-1), 1) := by decide +kernel
theorem dX9_two_113 : decode cX9_two 113 = .ok (.ixor, 1) := by decide +kernel
theorem dX9_two_114 : decode cX9_two 114 = .ok (.iand, 1) := by decide +kernel
theorem dX9_two_115 : decode cX9_two 115 = .ok (.iload_n 1, 1) := by decide +kernel
theorem dX9_two_116 : decode cX9_two 116 = .ok (.invokevirtual 240, 3) := by decide +kernel
theorem dX9_two_119 : decode cX9_two 119 = .ok (.iload_n 2, 1) := by decide +kernel
theorem dX9_two_120 : decode cX9_two 120 = .ok (.if_icmp .lt 6, 3) := by decide +kernel
theorem dX9_two_123 : decode cX9_two 123 = .ok (.iinc 3 1, 3) := by decide +kernel
theorem dX9_two_126 : decode cX9_two 126 = .ok (.iinc 4 1, 3) := by decide +kernel
theorem dX9_two_129 : decode cX9_two 129 = .ok (.goto (-89), 3) := by decide +kernel
theorem dX9_two_132 : decode cX9_two 132 = .ok (.iload_n 3, 1) := by decide +kernel
theorem dX9_two_133 : decode cX9_two 133 = .ok (.ireturn, 1) := by decide +kernel
def fX9_two_B126 (rc40 : Int → Int → Int → Int → vr_M → Option (Int × vr_M)) (x1 : Int) (x2 : Int) (x3 : Int) (x4 : Int) (μ : vr_M) : Option (Int × vr_M) :=
  vr_gd (vr_R (x4 + 1)) (rc40 x1 x2 x3 (x4 + 1) μ)
def fX9_two_B86 (rc40 : Int → Int → Int → Int → vr_M → Option (Int × vr_M)) (x1 : Int) (x2 : Int) (x3 : Int) (x4 : Int) (y0 : Int) (μ : vr_M) : Option (Int × vr_M) :=
  if y0 = 0 then fX9_two_B126 rc40 x1 x2 x3 x4 μ else (fX2_all 2 μ).bind (fun r2 => (fX0_giftOf (vr_and r2.1 (vr_xor x4 (-1))) x1 r2.2).bind (fun r3 => if r3.1 < x2 then fX9_two_B126 rc40 x1 x2 x3 x4 r3.2 else vr_gd (vr_R (x3 + 1)) (fX9_two_B126 rc40 x1 x2 (x3 + 1) x4 r3.2)))
def fX9_two_L40 : Nat → Int → Int → Int → Int → vr_M → Option (Int × vr_M)
  | 0, _, _, _, _, _ => none
  | n + 1, x1, x2, x3, x4, μ => (fX2_all 2 μ).bind (fun r5 => if r5.1 < x4 then some (x3, r5.2) else vr_gd (vr_R (r5.2 2 6)) ((fX0_giftOf x4 (r5.2 2 6) r5.2).bind (fun r7 => if r7.1 < x2 then fX9_two_B86 (fX9_two_L40 n) x1 x2 x3 x4 0 r7.2 else fX9_two_B86 (fX9_two_L40 n) x1 x2 x3 x4 1 r7.2)))
def fX9_two (a0 : Int) (μ : vr_M) : Option (Int × vr_M) :=
  (fX9_within a0 0 40 μ).bind (fun r8 => if ¬ r8.1 = 0 then (fX7_begin  r8.2).bind (fun r9 => vr_gd (vr_R ((r9.2 2 7) + 1)) (vr_gd (vr_R (((r9.2 2 7) + 1).tdiv 2)) (fX9_two_L40 9000 a0 (((r9.2 2 7) + 1).tdiv 2) 0 0 r9.2))) else some ((-2), r8.2))
set_option maxRecDepth 100000 in
set_option maxHeartbeats 4000000 in
theorem ct_X9_two (l : Launch) (G : vr_G) (a0 : Int) (h_a0 : vr_R a0) (μ : vr_M) : vr_CI l yX9_two cX9_two 6 (some .int) ({ frames := 5, cells := 0, slots := 0, locals := 115 } : Room) G [.ref (vr_ad G 0), .int (vr_I a0)] μ (fX9_two a0 μ) := by
  refine vr_start (own := RX9) (by decide) rfl (Nat.le_of_ble_eq_true rfl) (fun p e s m args below meth c C0 => ?_)
  show vr_J p l e _ s m args below meth c 6 0 0 G (vr_Z (vr_QI G) G args s below) 0 [(0, .ref (vr_ad G 0)), (1, .int (vr_I a0))] [] μ _
  have L40 : ∀ (n : Nat) (x1 : Int) (h_x1 : vr_R x1) (x2 : Int) (h_x2 : vr_R x2) (x3 : Int) (h_x3 : vr_R x3) (x4 : Int) (h_x4 : vr_R x4) (μ : vr_M), vr_J p l e ({ frames := 5, cells := 0, slots := 0, locals := 115 } : Room) s m args below meth c 6 0 0 G (vr_Z (vr_QI G) G args s below) 40 [(0, .ref (vr_ad G 0)), (1, .int (vr_I x1)), (2, .int (vr_I x2)), (3, .int (vr_I x3)), (4, .int (vr_I x4))] [] μ (fX9_two_L40 n x1 x2 x3 x4 μ) := by
    intro n40
    induction n40 with
    | zero => intros; exact jr_none
    | succ n40 ih40 =>
      have B126 : ∀ (x1 : Int) (h_x1 : vr_R x1) (x2 : Int) (h_x2 : vr_R x2) (x3 : Int) (h_x3 : vr_R x3) (x4 : Int) (h_x4 : vr_R x4) (μ : vr_M), vr_J p l e ({ frames := 5, cells := 0, slots := 0, locals := 115 } : Room) s m args below meth c 6 0 0 G (vr_Z (vr_QI G) G args s below) 126 [(0, .ref (vr_ad G 0)), (1, .int (vr_I x1)), (2, .int (vr_I x2)), (3, .int (vr_I x3)), (4, .int (vr_I x4))] [] μ (fX9_two_B126 (fX9_two_L40 n40) x1 x2 x3 x4 μ) := by
        intro x1 h_x1 x2 h_x2 x3 h_x3 x4 h_x4 μ
        unfold fX9_two_B126
        refine jr_iinc C0 (q := 4) dX9_two_126 rfl (by decide) (lv' := [(4, .int (vr_I (x4 + 1))), (0, .ref (vr_ad G 0)), (1, .int (vr_I x1)), (2, .int (vr_I x2)), (3, .int (vr_I x3))]) rfl ?_
        refine jr_goto C0 dX9_two_129 (tgt := 40) (by decide) ?_
        refine jr_gd (fun g1 => ?_)
        refine jr_sub [1, 2, 3, 4, 0] rfl ?_
        exact ih40 x1 h_x1 x2 h_x2 x3 h_x3 (x4 + 1) g1 _
      have B86 : ∀ (x1 : Int) (h_x1 : vr_R x1) (x2 : Int) (h_x2 : vr_R x2) (x3 : Int) (h_x3 : vr_R x3) (x4 : Int) (h_x4 : vr_R x4) (y0 : Int) (h_y0 : vr_R y0) (μ : vr_M), vr_J p l e ({ frames := 5, cells := 0, slots := 0, locals := 115 } : Room) s m args below meth c 6 0 0 G (vr_Z (vr_QI G) G args s below) 86 [(0, .ref (vr_ad G 0)), (1, .int (vr_I x1)), (2, .int (vr_I x2)), (3, .int (vr_I x3)), (4, .int (vr_I x4))] [.int (vr_I y0)] μ (fX9_two_B86 (fX9_two_L40 n40) x1 x2 x3 x4 y0 μ) := by
        intro x1 h_x1 x2 h_x2 x3 h_x3 x4 h_x4 y0 h_y0 μ
        unfold fX9_two_B86
        refine jr_istore C0 dX9_two_86 (by decide) (lv' := [(5, .int (vr_I y0)), (0, .ref (vr_ad G 0)), (1, .int (vr_I x1)), (2, .int (vr_I x2)), (3, .int (vr_I x3)), (4, .int (vr_I x4))]) rfl ?_
        refine jr_iload C0 0 dX9_two_88 rfl ?_
        refine jr_if_eq C0 h_y0 dX9_two_90 (tgt := 126) (by decide) ?_ ?_
        · refine jr_sub [1, 2, 3, 4, 5] rfl ?_
          exact B126 x1 h_x1 x2 h_x2 x3 h_x3 x4 h_x4 _
        refine jr_aload_n C0 1 dX9_two_93 rfl rfl ?_
        refine jr_getr C0 (by decide) kd_0 (by decide) rfl wx_X9 (i := 5) (by decide) wf_X9_46 (j := 51) rfl dX9_two_94 ?_
        refine jr_getr C0 (by decide) kd_51 (by decide) rfl wx_X7 (i := 3) (by decide) wf_X9_136 (j := 58) rfl dX9_two_97 ?_
        refine jr_aload_n C0 1 dX9_two_100 rfl rfl ?_
        refine jr_getr C0 (by decide) kd_0 (by decide) rfl wx_X9 (i := 0) (by decide) wf_X9_12 (j := 1) rfl dX9_two_101 ?_
        refine jr_getr C0 (by decide) kd_1 (by decide) rfl wx_X8 (i := 0) (by decide) wf_X9_70 (j := 2) rfl dX9_two_104 ?_
        refine jr_vI C0 (by decide) kd_2 (by decide) rfl (ct_X2_all l G (by decide) kd_2 _) mi_X2_all wm_X9_149 ⟨Nat.le_of_ble_eq_true rfl, Nat.le_of_ble_eq_true rfl⟩ ⟨rfl, rfl⟩ (As := []) rfl (st := [.ref (vr_ad G 58)]) rfl (Nat.le_of_ble_eq_true rfl) dX9_two_107 (fun r2 hr2 => ?_)
        refine jr_iload C0 5 dX9_two_110 rfl ?_
        refine jr_iconst C0 dX9_two_112 ?_
        refine jr_ixor C0 dX9_two_113 ?_
        refine jr_iand C0 dX9_two_114 ?_
        refine jr_iload_n C0 2 dX9_two_115 rfl rfl ?_
        refine jr_vI C0 (by decide) kd_58 (by decide) rfl (ct_X0_giftOf l G (vr_and r2.1 (vr_xor x4 (-1))) (vr_RT _) x1 h_x1 _) mi_X0_giftOf wm_X9_240 ⟨Nat.le_of_ble_eq_true rfl, Nat.le_of_ble_eq_true rfl⟩ ⟨rfl, rfl⟩ (As := [.int (vr_I (vr_and r2.1 (vr_xor x4 (-1)))), .int (vr_I x1)]) rfl (st := []) rfl (Nat.le_of_ble_eq_true rfl) dX9_two_116 (fun r3 hr3 => ?_)
        refine jr_iload_n C0 3 dX9_two_119 rfl rfl ?_
        refine jr_icmp_lt C0 hr3 h_x2 dX9_two_120 (tgt := 126) (by decide) ?_ ?_
        · refine jr_sub [1, 2, 3, 4, 5] rfl ?_
          exact B126 x1 h_x1 x2 h_x2 x3 h_x3 x4 h_x4 _
        refine jr_iinc C0 (q := 4) dX9_two_123 rfl (by decide) (lv' := [(3, .int (vr_I (x3 + 1))), (5, .int (vr_I y0)), (0, .ref (vr_ad G 0)), (1, .int (vr_I x1)), (2, .int (vr_I x2)), (4, .int (vr_I x4))]) rfl ?_
        refine jr_gd (fun g4 => ?_)
        refine jr_sub [2, 3, 4, 0, 5] rfl ?_
        exact B126 x1 h_x1 x2 h_x2 (x3 + 1) g4 x4 h_x4 _
      intro x1 h_x1 x2 h_x2 x3 h_x3 x4 h_x4 μ
      rw [fX9_two_L40.eq_2]
      refine jr_iload C0 4 dX9_two_40 rfl ?_
      refine jr_aload_n C0 0 dX9_two_42 rfl rfl ?_
      refine jr_getr C0 (by decide) kd_0 (by decide) rfl wx_X9 (i := 0) (by decide) wf_X9_12 (j := 1) rfl dX9_two_43 ?_
      refine jr_getr C0 (by decide) kd_1 (by decide) rfl wx_X8 (i := 0) (by decide) wf_X9_70 (j := 2) rfl dX9_two_46 ?_
      refine jr_vI C0 (by decide) kd_2 (by decide) rfl (ct_X2_all l G (by decide) kd_2 _) mi_X2_all wm_X9_149 ⟨Nat.le_of_ble_eq_true rfl, Nat.le_of_ble_eq_true rfl⟩ ⟨rfl, rfl⟩ (As := []) rfl (st := [.int (vr_I x4)]) rfl (Nat.le_of_ble_eq_true rfl) dX9_two_49 (fun r5 hr5 => ?_)
      refine jr_icmp_gt C0 h_x4 hr5 dX9_two_52 (tgt := 132) (by decide) ?_ ?_
      · refine jr_iload_n C0 3 dX9_two_132 rfl rfl ?_
        exact jr_iret C0 h_x3 dX9_two_133
      refine jr_aload_n C0 0 dX9_two_55 rfl rfl ?_
      refine jr_getr C0 (by decide) kd_0 (by decide) rfl wx_X9 (i := 5) (by decide) wf_X9_46 (j := 51) rfl dX9_two_56 ?_
      refine jr_getr C0 (by decide) kd_51 (by decide) rfl wx_X7 (i := 3) (by decide) wf_X9_136 (j := 58) rfl dX9_two_59 ?_
      refine jr_iload C0 4 dX9_two_62 rfl ?_
      refine jr_aload_n C0 0 dX9_two_64 rfl rfl ?_
      refine jr_getr C0 (by decide) kd_0 (by decide) rfl wx_X9 (i := 0) (by decide) wf_X9_12 (j := 1) rfl dX9_two_65 ?_
      refine jr_getr C0 (by decide) kd_1 (by decide) rfl wx_X8 (i := 0) (by decide) wf_X9_70 (j := 2) rfl dX9_two_68 ?_
      refine jr_geti C0 (by decide) kd_2 (by decide) rfl wx_X2 (i := 6) (by decide) wf_X9_127 rfl dX9_two_71 ?_
      refine jr_gd (fun g6 => ?_)
      refine jr_vI C0 (by decide) kd_58 (by decide) rfl (ct_X0_giftOf l G x4 h_x4 (r5.2 2 6) g6 _) mi_X0_giftOf wm_X9_240 ⟨Nat.le_of_ble_eq_true rfl, Nat.le_of_ble_eq_true rfl⟩ ⟨rfl, rfl⟩ (As := [.int (vr_I x4), .int (vr_I (r5.2 2 6))]) rfl (st := []) rfl (Nat.le_of_ble_eq_true rfl) dX9_two_74 (fun r7 hr7 => ?_)
      refine jr_iload_n C0 2 dX9_two_77 rfl rfl ?_
      refine jr_icmp_lt C0 hr7 h_x2 dX9_two_78 (tgt := 85) (by decide) ?_ ?_
      · refine jr_iconst C0 dX9_two_85 ?_
        exact B86 x1 h_x1 x2 h_x2 x3 h_x3 x4 h_x4 0 (⟨by decide, by decide⟩) _
      refine jr_iconst C0 dX9_two_81 ?_
      refine jr_goto C0 dX9_two_82 (tgt := 86) (by decide) ?_
      exact B86 x1 h_x1 x2 h_x2 x3 h_x3 x4 h_x4 1 (⟨by decide, by decide⟩) _
  unfold fX9_two
  refine jr_iload_n C0 1 dX9_two_0 rfl rfl ?_
  refine jr_iconst C0 dX9_two_1 ?_
  refine jr_bipush C0 dX9_two_2 rfl ?_
  refine jr_sI C0 (ct_X9_within l G a0 h_a0 0 (⟨by decide, by decide⟩) 40 (⟨by decide, by decide⟩) _) mi_X9_within wm_X9_66 ⟨Nat.le_of_ble_eq_true rfl, Nat.le_of_ble_eq_true rfl⟩ ⟨rfl, rfl⟩ (As := [.int (vr_I a0), .int (vr_I 0), .int (vr_I 40)]) rfl (st := []) rfl (Nat.le_of_ble_eq_true rfl) dX9_two_4 (fun r8 hr8 => ?_)
  refine jr_if_ne C0 hr8 dX9_two_7 (tgt := 13) (by decide) ?_ ?_
  · refine jr_aload_n C0 0 dX9_two_13 rfl rfl ?_
    refine jr_getr C0 (by decide) kd_0 (by decide) rfl wx_X9 (i := 5) (by decide) wf_X9_46 (j := 51) rfl dX9_two_14 ?_
    refine jr_vV0 C0 (by decide) kd_51 (by decide) rfl (ct_X7_begin l G  _) mi_X7_begin wm_X9_133 ⟨Nat.le_of_ble_eq_true rfl, Nat.le_of_ble_eq_true rfl⟩ ⟨rfl, rfl⟩ (As := []) rfl (st := []) rfl (Nat.le_of_ble_eq_true rfl) dX9_two_17 (fun r9 => ?_)
    refine jr_aload_n C0 0 dX9_two_20 rfl rfl ?_
    refine jr_getr C0 (by decide) kd_0 (by decide) rfl wx_X9 (i := 0) (by decide) wf_X9_12 (j := 1) rfl dX9_two_21 ?_
    refine jr_getr C0 (by decide) kd_1 (by decide) rfl wx_X8 (i := 0) (by decide) wf_X9_70 (j := 2) rfl dX9_two_24 ?_
    refine jr_geti C0 (by decide) kd_2 (by decide) rfl wx_X2 (i := 7) (by decide) wf_X9_130 rfl dX9_two_27 ?_
    refine jr_iconst C0 dX9_two_30 ?_
    refine jr_iadd C0 dX9_two_31 ?_
    refine jr_iconst C0 dX9_two_32 ?_
    refine jr_gd (fun g10 => ?_)
    refine jr_idiv C0 g10 (⟨by decide, by decide⟩) (by decide) dX9_two_33 ?_
    refine jr_istore_n C0 dX9_two_34 rfl (by decide) (lv' := [(2, .int (vr_I (((r9.2 2 7) + 1).tdiv 2))), (0, .ref (vr_ad G 0)), (1, .int (vr_I a0))]) rfl ?_
    refine jr_iconst C0 dX9_two_35 ?_
    refine jr_istore_n C0 dX9_two_36 rfl (by decide) (lv' := [(3, .int (vr_I 0)), (2, .int (vr_I (((r9.2 2 7) + 1).tdiv 2))), (0, .ref (vr_ad G 0)), (1, .int (vr_I a0))]) rfl ?_
    refine jr_iconst C0 dX9_two_37 ?_
    refine jr_istore C0 dX9_two_38 (by decide) (lv' := [(4, .int (vr_I 0)), (3, .int (vr_I 0)), (2, .int (vr_I (((r9.2 2 7) + 1).tdiv 2))), (0, .ref (vr_ad G 0)), (1, .int (vr_I a0))]) rfl ?_
    refine jr_gd (fun g11 => ?_)
    refine jr_sub [3, 4, 2, 1, 0] rfl ?_
    exact L40 9000 a0 h_a0 (((r9.2 2 7) + 1).tdiv 2) g11 0 (⟨by decide, by decide⟩) 0 (⟨by decide, by decide⟩) _
  refine jr_bipush C0 dX9_two_10 rfl ?_
  exact jr_iret C0 (⟨by decide, by decide⟩) dX9_two_12
theorem dX9_way_0 : decode cX9_way 0 = .ok (.iload_n 1, 1) := by decide +kernel
theorem dX9_way_1 : decode cX9_way 1 = .ok (.iconst 0, 1) := by decide +kernel
theorem dX9_way_2 : decode cX9_way 2 = .ok (.bipush 40, 2) := by decide +kernel
theorem dX9_way_4 : decode cX9_way 4 = .ok (.invokestatic 66, 3) := by decide +kernel
theorem dX9_way_7 : decode cX9_way 7 = .ok (.ifCond .ne 6, 3) := by decide +kernel
theorem dX9_way_10 : decode cX9_way 10 = .ok (.bipush (-2), 2) := by decide +kernel
theorem dX9_way_12 : decode cX9_way 12 = .ok (.ireturn, 1) := by decide +kernel
theorem dX9_way_13 : decode cX9_way 13 = .ok (.aload_n 0, 1) := by decide +kernel
theorem dX9_way_14 : decode cX9_way 14 = .ok (.getfield 46, 3) := by decide +kernel
theorem dX9_way_17 : decode cX9_way 17 = .ok (.invokevirtual 133, 3) := by decide +kernel
theorem dX9_way_20 : decode cX9_way 20 = .ok (.iconst 0, 1) := by decide +kernel
theorem dX9_way_21 : decode cX9_way 21 = .ok (.istore_n 2, 1) := by decide +kernel
theorem dX9_way_22 : decode cX9_way 22 = .ok (.iconst 0, 1) := by decide +kernel
theorem dX9_way_23 : decode cX9_way 23 = .ok (.istore_n 3, 1) := by decide +kernel
theorem dX9_way_24 : decode cX9_way 24 = .ok (.iload_n 3, 1) := by decide +kernel
theorem dX9_way_25 : decode cX9_way 25 = .ok (.aload_n 0, 1) := by decide +kernel
theorem dX9_way_26 : decode cX9_way 26 = .ok (.getfield 12, 3) := by decide +kernel
theorem dX9_way_29 : decode cX9_way 29 = .ok (.getfield 70, 3) := by decide +kernel
theorem dX9_way_32 : decode cX9_way 32 = .ok (.getfield 74, 3) := by decide +kernel
theorem dX9_way_35 : decode cX9_way 35 = .ok (.if_icmp .ge 79, 3) := by decide +kernel
theorem dX9_way_38 : decode cX9_way 38 = .ok (.iload_n 2, 1) := by decide +kernel
theorem dX9_way_39 : decode cX9_way 39 = .ok (.aload_n 0, 1) := by decide +kernel
theorem dX9_way_40 : decode cX9_way 40 = .ok (.getfield 46, 3) := by decide +kernel
theorem dX9_way_43 : decode cX9_way 43 = .ok (.getfield 136, 3) := by decide +kernel
theorem dX9_way_46 : decode cX9_way 46 = .ok (.iload_n 3, 1) := by decide +kernel
theorem dX9_way_47 : decode cX9_way 47 = .ok (.aload_n 0, 1) := by decide +kernel
theorem dX9_way_48 : decode cX9_way 48 = .ok (.getfield 12, 3) := by decide +kernel
theorem dX9_way_51 : decode cX9_way 51 = .ok (.getfield 70, 3) := by decide +kernel
theorem dX9_way_54 : decode cX9_way 54 = .ok (.getfield 127, 3) := by decide +kernel
theorem dX9_way_57 : decode cX9_way 57 = .ok (.aload_n 0, 1) := by decide +kernel
theorem dX9_way_58 : decode cX9_way 58 = .ok (.getfield 12, 3) := by decide +kernel
theorem dX9_way_61 : decode cX9_way 61 = .ok (.getfield 120, 3) := by decide +kernel
theorem dX9_way_64 : decode cX9_way 64 = .ok (.getfield 140, 3) := by decide +kernel
theorem dX9_way_67 : decode cX9_way 67 = .ok (.iload_n 1, 1) := by decide +kernel
theorem dX9_way_68 : decode cX9_way 68 = .ok (.iadd, 1) := by decide +kernel
theorem dX9_way_69 : decode cX9_way 69 = .ok (.invokevirtual 143, 3) := by decide +kernel
theorem dX9_way_72 : decode cX9_way 72 = .ok (.iadd, 1) := by decide +kernel
theorem dX9_way_73 : decode cX9_way 73 = .ok (.istore_n 2, 1) := by decide +kernel
theorem dX9_way_74 : decode cX9_way 74 = .ok (.iload_n 2, 1) := by decide +kernel
theorem dX9_way_75 : decode cX9_way 75 = .ok (.aload_n 0, 1) := by decide +kernel
theorem dX9_way_76 : decode cX9_way 76 = .ok (.getfield 46, 3) := by decide +kernel
theorem dX9_way_79 : decode cX9_way 79 = .ok (.getfield 136, 3) := by decide +kernel
theorem dX9_way_82 : decode cX9_way 82 = .ok (.iload_n 3, 1) := by decide +kernel
theorem dX9_way_83 : decode cX9_way 83 = .ok (.aload_n 0, 1) := by decide +kernel
theorem dX9_way_84 : decode cX9_way 84 = .ok (.getfield 12, 3) := by decide +kernel
theorem dX9_way_87 : decode cX9_way 87 = .ok (.getfield 70, 3) := by decide +kernel
theorem dX9_way_90 : decode cX9_way 90 = .ok (.getfield 127, 3) := by decide +kernel
theorem dX9_way_93 : decode cX9_way 93 = .ok (.aload_n 0, 1) := by decide +kernel
theorem dX9_way_94 : decode cX9_way 94 = .ok (.getfield 12, 3) := by decide +kernel
theorem dX9_way_97 : decode cX9_way 97 = .ok (.getfield 120, 3) := by decide +kernel
theorem dX9_way_100 : decode cX9_way 100 = .ok (.getfield 140, 3) := by decide +kernel
theorem dX9_way_103 : decode cX9_way 103 = .ok (.invokevirtual 143, 3) := by decide +kernel
theorem dX9_way_106 : decode cX9_way 106 = .ok (.isub, 1) := by decide +kernel
theorem dX9_way_107 : decode cX9_way 107 = .ok (.istore_n 2, 1) := by decide +kernel
theorem dX9_way_108 : decode cX9_way 108 = .ok (.iinc 3 1, 3) := by decide +kernel
theorem dX9_way_111 : decode cX9_way 111 = .ok (.goto (-87), 3) := by decide +kernel
theorem dX9_way_114 : decode cX9_way 114 = .ok (.iload_n 2, 1) := by decide +kernel
theorem dX9_way_115 : decode cX9_way 115 = .ok (.ireturn, 1) := by decide +kernel
def fX9_way_L24 : Nat → Int → Int → Int → vr_M → Option (Int × vr_M)
  | 0, _, _, _, _ => none
  | n + 1, x1, x2, x3, μ => vr_gd (vr_R (μ 2 5)) (if (μ 2 5) ≤ x3 then some (x2, μ) else vr_gd (vr_R (μ 2 6)) (vr_gd (vr_R ((μ 8 5) + x1)) ((fX0_gift x3 (μ 2 6) ((μ 8 5) + x1) μ).bind (fun r4 => vr_gd (vr_R (r4.2 2 6)) (vr_gd (vr_R (r4.2 8 5)) ((fX0_gift x3 (r4.2 2 6) (r4.2 8 5) r4.2).bind (fun r7 => vr_gd (vr_R ((x2 + r4.1) - r7.1)) (vr_gd (vr_R (x3 + 1)) ((fX9_way_L24 n) x1 ((x2 + r4.1) - r7.1) (x3 + 1) r7.2)))))))))
def fX9_way (a0 : Int) (μ : vr_M) : Option (Int × vr_M) :=
  (fX9_within a0 0 40 μ).bind (fun r10 => if ¬ r10.1 = 0 then (fX7_begin  r10.2).bind (fun r11 => fX9_way_L24 9000 a0 0 0 r11.2) else some ((-2), r10.2))
set_option maxRecDepth 100000 in
set_option maxHeartbeats 4000000 in
theorem ct_X9_way (l : Launch) (G : vr_G) (a0 : Int) (h_a0 : vr_R a0) (μ : vr_M) : vr_CI l yX9_way cX9_way 4 (some .int) ({ frames := 5, cells := 0, slots := 0, locals := 115 } : Room) G [.ref (vr_ad G 0), .int (vr_I a0)] μ (fX9_way a0 μ) := by
  refine vr_start (own := RX9) (by decide) rfl (Nat.le_of_ble_eq_true rfl) (fun p e s m args below meth c C0 => ?_)
  show vr_J p l e _ s m args below meth c 4 0 0 G (vr_Z (vr_QI G) G args s below) 0 [(0, .ref (vr_ad G 0)), (1, .int (vr_I a0))] [] μ _
  have L24 : ∀ (n : Nat) (x1 : Int) (h_x1 : vr_R x1) (x2 : Int) (h_x2 : vr_R x2) (x3 : Int) (h_x3 : vr_R x3) (μ : vr_M), vr_J p l e ({ frames := 5, cells := 0, slots := 0, locals := 115 } : Room) s m args below meth c 4 0 0 G (vr_Z (vr_QI G) G args s below) 24 [(0, .ref (vr_ad G 0)), (1, .int (vr_I x1)), (2, .int (vr_I x2)), (3, .int (vr_I x3))] [] μ (fX9_way_L24 n x1 x2 x3 μ) := by
    intro n24
    induction n24 with
    | zero => intros; exact jr_none
    | succ n24 ih24 =>
      intro x1 h_x1 x2 h_x2 x3 h_x3 μ
      rw [fX9_way_L24.eq_2]
      refine jr_iload_n C0 3 dX9_way_24 rfl rfl ?_
      refine jr_aload_n C0 0 dX9_way_25 rfl rfl ?_
      refine jr_getr C0 (by decide) kd_0 (by decide) rfl wx_X9 (i := 0) (by decide) wf_X9_12 (j := 1) rfl dX9_way_26 ?_
      refine jr_getr C0 (by decide) kd_1 (by decide) rfl wx_X8 (i := 0) (by decide) wf_X9_70 (j := 2) rfl dX9_way_29 ?_
      refine jr_geti C0 (by decide) kd_2 (by decide) rfl wx_X2 (i := 5) (by decide) wf_X9_74 rfl dX9_way_32 ?_
      refine jr_gd (fun g1 => ?_)
      refine jr_icmp_ge C0 h_x3 g1 dX9_way_35 (tgt := 114) (by decide) ?_ ?_
      · refine jr_iload_n C0 2 dX9_way_114 rfl rfl ?_
        exact jr_iret C0 h_x2 dX9_way_115
      refine jr_iload_n C0 2 dX9_way_38 rfl rfl ?_
      refine jr_aload_n C0 0 dX9_way_39 rfl rfl ?_
      refine jr_getr C0 (by decide) kd_0 (by decide) rfl wx_X9 (i := 5) (by decide) wf_X9_46 (j := 51) rfl dX9_way_40 ?_
      refine jr_getr C0 (by decide) kd_51 (by decide) rfl wx_X7 (i := 3) (by decide) wf_X9_136 (j := 58) rfl dX9_way_43 ?_
      refine jr_iload_n C0 3 dX9_way_46 rfl rfl ?_
      refine jr_aload_n C0 0 dX9_way_47 rfl rfl ?_
      refine jr_getr C0 (by decide) kd_0 (by decide) rfl wx_X9 (i := 0) (by decide) wf_X9_12 (j := 1) rfl dX9_way_48 ?_
      refine jr_getr C0 (by decide) kd_1 (by decide) rfl wx_X8 (i := 0) (by decide) wf_X9_70 (j := 2) rfl dX9_way_51 ?_
      refine jr_geti C0 (by decide) kd_2 (by decide) rfl wx_X2 (i := 6) (by decide) wf_X9_127 rfl dX9_way_54 ?_
      refine jr_aload_n C0 0 dX9_way_57 rfl rfl ?_
      refine jr_getr C0 (by decide) kd_0 (by decide) rfl wx_X9 (i := 0) (by decide) wf_X9_12 (j := 1) rfl dX9_way_58 ?_
      refine jr_getr C0 (by decide) kd_1 (by decide) rfl wx_X8 (i := 1) (by decide) wf_X9_120 (j := 8) rfl dX9_way_61 ?_
      refine jr_geti C0 (by decide) kd_8 (by decide) rfl wx_X3 (i := 5) (by decide) wf_X9_140 rfl dX9_way_64 ?_
      refine jr_iload_n C0 1 dX9_way_67 rfl rfl ?_
      refine jr_iadd C0 dX9_way_68 ?_
      refine jr_gd (fun g2 => ?_)
      refine jr_gd (fun g3 => ?_)
      refine jr_vI C0 (by decide) kd_58 (by decide) rfl (ct_X0_gift l G x3 h_x3 (μ 2 6) g2 ((μ 8 5) + x1) g3 _) mi_X0_gift wm_X9_143 ⟨Nat.le_of_ble_eq_true rfl, Nat.le_of_ble_eq_true rfl⟩ ⟨rfl, rfl⟩ (As := [.int (vr_I x3), .int (vr_I (μ 2 6)), .int (vr_I ((μ 8 5) + x1))]) rfl (st := [.int (vr_I x2)]) rfl (Nat.le_of_ble_eq_true rfl) dX9_way_69 (fun r4 hr4 => ?_)
      refine jr_iadd C0 dX9_way_72 ?_
      refine jr_istore_n C0 dX9_way_73 rfl (by decide) (lv' := [(2, .int (vr_I (x2 + r4.1))), (0, .ref (vr_ad G 0)), (1, .int (vr_I x1)), (3, .int (vr_I x3))]) rfl ?_
      refine jr_iload_n C0 0 dX9_way_74 rfl rfl ?_
      refine jr_aload_n C0 1 dX9_way_75 rfl rfl ?_
      refine jr_getr C0 (by decide) kd_0 (by decide) rfl wx_X9 (i := 5) (by decide) wf_X9_46 (j := 51) rfl dX9_way_76 ?_
      refine jr_getr C0 (by decide) kd_51 (by decide) rfl wx_X7 (i := 3) (by decide) wf_X9_136 (j := 58) rfl dX9_way_79 ?_
      refine jr_iload_n C0 3 dX9_way_82 rfl rfl ?_
      refine jr_aload_n C0 1 dX9_way_83 rfl rfl ?_
      refine jr_getr C0 (by decide) kd_0 (by decide) rfl wx_X9 (i := 0) (by decide) wf_X9_12 (j := 1) rfl dX9_way_84 ?_
      refine jr_getr C0 (by decide) kd_1 (by decide) rfl wx_X8 (i := 0) (by decide) wf_X9_70 (j := 2) rfl dX9_way_87 ?_
      refine jr_geti C0 (by decide) kd_2 (by decide) rfl wx_X2 (i := 6) (by decide) wf_X9_127 rfl dX9_way_90 ?_
      refine jr_aload_n C0 1 dX9_way_93 rfl rfl ?_
      refine jr_getr C0 (by decide) kd_0 (by decide) rfl wx_X9 (i := 0) (by decide) wf_X9_12 (j := 1) rfl dX9_way_94 ?_
      refine jr_getr C0 (by decide) kd_1 (by decide) rfl wx_X8 (i := 1) (by decide) wf_X9_120 (j := 8) rfl dX9_way_97 ?_
      refine jr_geti C0 (by decide) kd_8 (by decide) rfl wx_X3 (i := 5) (by decide) wf_X9_140 rfl dX9_way_100 ?_
      refine jr_gd (fun g5 => ?_)
      refine jr_gd (fun g6 => ?_)
      refine jr_vI C0 (by decide) kd_58 (by decide) rfl (ct_X0_gift l G x3 h_x3 (r4.2 2 6) g5 (r4.2 8 5) g6 _) mi_X0_gift wm_X9_143 ⟨Nat.le_of_ble_eq_true rfl, Nat.le_of_ble_eq_true rfl⟩ ⟨rfl, rfl⟩ (As := [.int (vr_I x3), .int (vr_I (r4.2 2 6)), .int (vr_I (r4.2 8 5))]) rfl (st := [.int (vr_I (x2 + r4.1))]) rfl (Nat.le_of_ble_eq_true rfl) dX9_way_103 (fun r7 hr7 => ?_)
      refine jr_isub C0 dX9_way_106 ?_
      refine jr_istore_n C0 dX9_way_107 rfl (by decide) (lv' := [(2, .int (vr_I ((x2 + r4.1) - r7.1))), (0, .ref (vr_ad G 0)), (1, .int (vr_I x1)), (3, .int (vr_I x3))]) rfl ?_
      refine jr_iinc C0 (q := 3) dX9_way_108 rfl (by decide) (lv' := [(3, .int (vr_I (x3 + 1))), (2, .int (vr_I ((x2 + r4.1) - r7.1))), (0, .ref (vr_ad G 0)), (1, .int (vr_I x1))]) rfl ?_
      refine jr_goto C0 dX9_way_111 (tgt := 24) (by decide) ?_
      refine jr_gd (fun g8 => ?_)
      refine jr_gd (fun g9 => ?_)
      refine jr_sub [2, 3, 1, 0] rfl ?_
      exact ih24 x1 h_x1 ((x2 + r4.1) - r7.1) g8 (x3 + 1) g9 _
  unfold fX9_way
  refine jr_iload_n C0 1 dX9_way_0 rfl rfl ?_
  refine jr_iconst C0 dX9_way_1 ?_
  refine jr_bipush C0 dX9_way_2 rfl ?_
  refine jr_sI C0 (ct_X9_within l G a0 h_a0 0 (⟨by decide, by decide⟩) 40 (⟨by decide, by decide⟩) _) mi_X9_within wm_X9_66 ⟨Nat.le_of_ble_eq_true rfl, Nat.le_of_ble_eq_true rfl⟩ ⟨rfl, rfl⟩ (As := [.int (vr_I a0), .int (vr_I 0), .int (vr_I 40)]) rfl (st := []) rfl (Nat.le_of_ble_eq_true rfl) dX9_way_4 (fun r10 hr10 => ?_)
  refine jr_if_ne C0 hr10 dX9_way_7 (tgt := 13) (by decide) ?_ ?_
  · refine jr_aload_n C0 0 dX9_way_13 rfl rfl ?_
    refine jr_getr C0 (by decide) kd_0 (by decide) rfl wx_X9 (i := 5) (by decide) wf_X9_46 (j := 51) rfl dX9_way_14 ?_
    refine jr_vV0 C0 (by decide) kd_51 (by decide) rfl (ct_X7_begin l G  _) mi_X7_begin wm_X9_133 ⟨Nat.le_of_ble_eq_true rfl, Nat.le_of_ble_eq_true rfl⟩ ⟨rfl, rfl⟩ (As := []) rfl (st := []) rfl (Nat.le_of_ble_eq_true rfl) dX9_way_17 (fun r11 => ?_)
    refine jr_iconst C0 dX9_way_20 ?_
    refine jr_istore_n C0 dX9_way_21 rfl (by decide) (lv' := [(2, .int (vr_I 0)), (0, .ref (vr_ad G 0)), (1, .int (vr_I a0))]) rfl ?_
    refine jr_iconst C0 dX9_way_22 ?_
    refine jr_istore_n C0 dX9_way_23 rfl (by decide) (lv' := [(3, .int (vr_I 0)), (2, .int (vr_I 0)), (0, .ref (vr_ad G 0)), (1, .int (vr_I a0))]) rfl ?_
    refine jr_sub [2, 3, 1, 0] rfl ?_
    exact L24 9000 a0 h_a0 0 (⟨by decide, by decide⟩) 0 (⟨by decide, by decide⟩) _
  refine jr_bipush C0 dX9_way_10 rfl ?_
  exact jr_iret C0 (⟨by decide, by decide⟩) dX9_way_12
theorem dX9_age_0 : decode cX9_age 0 = .ok (.iload_n 1, 1) := by decide +kernel
theorem dX9_age_1 : decode cX9_age 1 = .ok (.iconst (-1), 1) := by decide +kernel
theorem dX9_age_2 : decode cX9_age 2 = .ok (.if_icmp .ne 16, 3) := by decide +kernel
theorem dX9_age_5 : decode cX9_age 5 = .ok (.aload_n 0, 1) := by decide +kernel
theorem dX9_age_6 : decode cX9_age 6 = .ok (.getfield 12, 3) := by decide +kernel
theorem dX9_age_9 : decode cX9_age 9 = .ok (.getfield 243, 3) := by decide +kernel
theorem dX9_age_12 : decode cX9_age 12 = .ok (.iconst 0, 1) := by decide +kernel
theorem dX9_age_13 : decode cX9_age 13 = .ok (.putfield 104, 3) := by decide +kernel
theorem dX9_age_16 : decode cX9_age 16 = .ok (.iconst 0, 1) := by decide +kernel
theorem dX9_age_17 : decode cX9_age 17 = .ok (.ireturn, 1) := by decide +kernel
theorem dX9_age_18 : decode cX9_age 18 = .ok (.iload_n 1, 1) := by decide +kernel
theorem dX9_age_19 : decode cX9_age 19 = .ok (.iconst 0, 1) := by decide +kernel
theorem dX9_age_20 : decode cX9_age 20 = .ok (.bipush 99, 2) := by decide +kernel
theorem dX9_age_22 : decode cX9_age 22 = .ok (.invokestatic 66, 3) := by decide +kernel
theorem dX9_age_25 : decode cX9_age 25 = .ok (.ifCond .ne 6, 3) := by decide +kernel
theorem dX9_age_28 : decode cX9_age 28 = .ok (.bipush (-2), 2) := by decide +kernel
theorem dX9_age_30 : decode cX9_age 30 = .ok (.ireturn, 1) := by decide +kernel
theorem dX9_age_31 : decode cX9_age 31 = .ok (.aload_n 0, 1) := by decide +kernel
theorem dX9_age_32 : decode cX9_age 32 = .ok (.getfield 12, 3) := by decide +kernel
theorem dX9_age_35 : decode cX9_age 35 = .ok (.getfield 243, 3) := by decide +kernel
theorem dX9_age_38 : decode cX9_age 38 = .ok (.getfield 104, 3) := by decide +kernel
theorem dX9_age_41 : decode cX9_age 41 = .ok (.bipush 10, 2) := by decide +kernel
theorem dX9_age_43 : decode cX9_age 43 = .ok (.if_icmp .lt 8, 3) := by decide +kernel
theorem dX9_age_46 : decode cX9_age 46 = .ok (.bipush (-4), 2) := by decide +kernel
theorem dX9_age_48 : decode cX9_age 48 = .ok (.goto 14, 3) := by decide +kernel
theorem dX9_age_51 : decode cX9_age 51 = .ok (.aload_n 0, 1) := by decide +kernel
theorem dX9_age_52 : decode cX9_age 52 = .ok (.getfield 12, 3) := by decide +kernel
theorem dX9_age_55 : decode cX9_age 55 = .ok (.getfield 243, 3) := by decide +kernel
theorem dX9_age_58 : decode cX9_age 58 = .ok (.iload_n 1, 1) := by decide +kernel
theorem dX9_age_59 : decode cX9_age 59 = .ok (.invokevirtual 109, 3) := by decide +kernel
theorem dX9_age_62 : decode cX9_age 62 = .ok (.ireturn, 1) := by decide +kernel
def fX9_age_B62 (y0 : Int) (μ : vr_M) : Option (Int × vr_M) :=
  some (y0, μ)
def fX9_age (a0 : Int) (μ : vr_M) : Option (Int × vr_M) :=
  if ¬ a0 = (-1) then (fX9_within a0 0 99 μ).bind (fun r1 => if ¬ r1.1 = 0 then vr_gd (vr_R (r1.2 17 1)) (if (r1.2 17 1) < 10 then (fX4_put 17 a0 r1.2).bind (fun r3 => fX9_age_B62 r3.1 r3.2) else fX9_age_B62 (-4) r1.2) else some ((-2), r1.2)) else some (0, vr_u μ 17 1 0)
set_option maxRecDepth 100000 in
set_option maxHeartbeats 4000000 in
theorem ct_X9_age (l : Launch) (G : vr_G) (a0 : Int) (h_a0 : vr_R a0) (μ : vr_M) : vr_CI l yX9_age cX9_age 2 (some .int) ({ frames := 1, cells := 0, slots := 0, locals := 22 } : Room) G [.ref (vr_ad G 0), .int (vr_I a0)] μ (fX9_age a0 μ) := by
  refine vr_start (own := RX9) (by decide) rfl (Nat.le_of_ble_eq_true rfl) (fun p e s m args below meth c C0 => ?_)
  show vr_J p l e _ s m args below meth c 2 0 0 G (vr_Z (vr_QI G) G args s below) 0 [(0, .ref (vr_ad G 0)), (1, .int (vr_I a0))] [] μ _
  have B62 : ∀ (y0 : Int) (h_y0 : vr_R y0) (μ : vr_M), vr_J p l e ({ frames := 1, cells := 0, slots := 0, locals := 22 } : Room) s m args below meth c 2 0 0 G (vr_Z (vr_QI G) G args s below) 62 [] [.int (vr_I y0)] μ (fX9_age_B62 y0 μ) := by
    intro y0 h_y0 μ
    unfold fX9_age_B62
    exact jr_iret C0 h_y0 dX9_age_62
  unfold fX9_age
  refine jr_iload_n C0 1 dX9_age_0 rfl rfl ?_
  refine jr_iconst C0 dX9_age_1 ?_
  refine jr_icmp_ne C0 h_a0 (⟨by decide, by decide⟩) dX9_age_2 (tgt := 18) (by decide) ?_ ?_
  · refine jr_iload_n C0 1 dX9_age_18 rfl rfl ?_
    refine jr_iconst C0 dX9_age_19 ?_
    refine jr_bipush C0 dX9_age_20 rfl ?_
    refine jr_sI C0 (ct_X9_within l G a0 h_a0 0 (⟨by decide, by decide⟩) 99 (⟨by decide, by decide⟩) _) mi_X9_within wm_X9_66 ⟨Nat.le_of_ble_eq_true rfl, Nat.le_of_ble_eq_true rfl⟩ ⟨rfl, rfl⟩ (As := [.int (vr_I a0), .int (vr_I 0), .int (vr_I 99)]) rfl (st := []) rfl (Nat.le_of_ble_eq_true rfl) dX9_age_22 (fun r1 hr1 => ?_)
    refine jr_if_ne C0 hr1 dX9_age_25 (tgt := 31) (by decide) ?_ ?_
    · refine jr_aload_n C0 0 dX9_age_31 rfl rfl ?_
      refine jr_getr C0 (by decide) kd_0 (by decide) rfl wx_X9 (i := 0) (by decide) wf_X9_12 (j := 1) rfl dX9_age_32 ?_
      refine jr_getr C0 (by decide) kd_1 (by decide) rfl wx_X8 (i := 4) (by decide) wf_X9_243 (j := 17) rfl dX9_age_35 ?_
      refine jr_geti C0 (by decide) kd_17 (by decide) rfl wx_X4 (i := 1) (by decide) wf_X9_104 rfl dX9_age_38 ?_
      refine jr_bipush C0 dX9_age_41 rfl ?_
      refine jr_gd (fun g2 => ?_)
      refine jr_icmp_lt C0 g2 (⟨by decide, by decide⟩) dX9_age_43 (tgt := 51) (by decide) ?_ ?_
      · refine jr_aload_n C0 0 dX9_age_51 rfl rfl ?_
        refine jr_getr C0 (by decide) kd_0 (by decide) rfl wx_X9 (i := 0) (by decide) wf_X9_12 (j := 1) rfl dX9_age_52 ?_
        refine jr_getr C0 (by decide) kd_1 (by decide) rfl wx_X8 (i := 4) (by decide) wf_X9_243 (j := 17) rfl dX9_age_55 ?_
        refine jr_iload_n C0 1 dX9_age_58 rfl rfl ?_
        refine jr_vI C0 (by decide) kd_17 (by decide) rfl (ct_X4_put l G (by decide) kd_17 a0 h_a0 _) mi_X4_put wm_X9_109 ⟨Nat.le_of_ble_eq_true rfl, Nat.le_of_ble_eq_true rfl⟩ ⟨rfl, rfl⟩ (As := [.int (vr_I a0)]) rfl (st := []) rfl (Nat.le_of_ble_eq_true rfl) dX9_age_59 (fun r3 hr3 => ?_)
        refine jr_sub [] rfl ?_
        exact B62 r3.1 hr3 _
      refine jr_bipush C0 dX9_age_46 rfl ?_
      refine jr_goto C0 dX9_age_48 (tgt := 62) (by decide) ?_
      refine jr_sub [] rfl ?_
      exact B62 (-4) (⟨by decide, by decide⟩) _
    refine jr_bipush C0 dX9_age_28 rfl ?_
    exact jr_iret C0 (⟨by decide, by decide⟩) dX9_age_30
  refine jr_aload_n C0 0 dX9_age_5 rfl rfl ?_
  refine jr_getr C0 (by decide) kd_0 (by decide) rfl wx_X9 (i := 0) (by decide) wf_X9_12 (j := 1) rfl dX9_age_6 ?_
  refine jr_getr C0 (by decide) kd_1 (by decide) rfl wx_X8 (i := 4) (by decide) wf_X9_243 (j := 17) rfl dX9_age_9 ?_
  refine jr_iconst C0 dX9_age_12 ?_
  refine jr_puti C0 (by decide) kd_17 (by decide) rfl wx_X4 (i := 1) (by decide) wf_X9_104 rfl tyX4_ok nmX4 rfl rfl rfl dX9_age_13 ?_
  refine jr_iconst C0 dX9_age_16 ?_
  exact jr_iret C0 (⟨by decide, by decide⟩) dX9_age_17
theorem dX9_offMultiple_0 : decode cX9_offMultiple 0 = .ok (.iload_n 1, 1) := by decide +kernel
theorem dX9_offMultiple_1 : decode cX9_offMultiple 1 = .ok (.ifCond .gt 5, 3) := by decide +kernel
theorem dX9_offMultiple_4 : decode cX9_offMultiple 4 = .ok (.iload_n 0, 1) := by decide +kernel
theorem dX9_offMultiple_5 : decode cX9_offMultiple 5 = .ok (.ireturn, 1) := by decide +kernel
theorem dX9_offMultiple_6 : decode cX9_offMultiple 6 = .ok (.iload_n 0, 1) := by decide +kernel
theorem dX9_offMultiple_7 : decode cX9_offMultiple 7 = .ok (.iload_n 1, 1) := by decide +kernel
theorem dX9_offMultiple_8 : decode cX9_offMultiple 8 = .ok (.irem, 1) := by decide +kernel
theorem dX9_offMultiple_9 : decode cX9_offMultiple 9 = .ok (.istore_n 2, 1) := by decide +kernel
theorem dX9_offMultiple_10 : decode cX9_offMultiple 10 = .ok (.iload_n 2, 1) := by decide +kernel
theorem dX9_offMultiple_11 : decode cX9_offMultiple 11 = .ok (.iload_n 1, 1) := by decide +kernel
theorem dX9_offMultiple_12 : decode cX9_offMultiple 12 = .ok (.iload_n 2, 1) := by decide +kernel
theorem dX9_offMultiple_13 : decode cX9_offMultiple 13 = .ok (.isub, 1) := by decide +kernel
theorem dX9_offMultiple_14 : decode cX9_offMultiple 14 = .ok (.invokestatic 257, 3) := by decide +kernel
theorem dX9_offMultiple_17 : decode cX9_offMultiple 17 = .ok (.ireturn, 1) := by decide +kernel
def fX9_offMultiple (a0 : Int) (a1 : Int) (μ : vr_M) : Option (Int × vr_M) :=
  if 0 < a1 then vr_gd (¬ a1 = 0) (vr_gd (vr_R (a0.tmod a1)) (vr_gd (vr_R (a1 - (a0.tmod a1))) (vr_gd (vr_R (min (a0.tmod a1) (a1 - (a0.tmod a1)))) (some (min (a0.tmod a1) (a1 - (a0.tmod a1)), μ))))) else some (a0, μ)
set_option maxRecDepth 100000 in
set_option maxHeartbeats 4000000 in
theorem ct_X9_offMultiple (l : Launch) (G : vr_G) (a0 : Int) (h_a0 : vr_R a0) (a1 : Int) (h_a1 : vr_R a1) (μ : vr_M) : vr_CI l yX9_offMultiple cX9_offMultiple 3 (some .int) ({ frames := 1, cells := 0, slots := 0, locals := 13 } : Room) G [.int (vr_I a0), .int (vr_I a1)] μ (fX9_offMultiple a0 a1 μ) := by
  refine vr_start (own := RX9) (by decide) rfl (Nat.le_of_ble_eq_true rfl) (fun p e s m args below meth c C0 => ?_)
  show vr_J p l e _ s m args below meth c 3 0 0 G (vr_Z (vr_QI G) G args s below) 0 [(0, .int (vr_I a0)), (1, .int (vr_I a1))] [] μ _
  unfold fX9_offMultiple
  refine jr_iload_n C0 1 dX9_offMultiple_0 rfl rfl ?_
  refine jr_if_gt C0 h_a1 dX9_offMultiple_1 (tgt := 6) (by decide) ?_ ?_
  · refine jr_iload_n C0 0 dX9_offMultiple_6 rfl rfl ?_
    refine jr_iload_n C0 1 dX9_offMultiple_7 rfl rfl ?_
    refine jr_gd (fun g1 => ?_)
    refine jr_irem C0 h_a0 h_a1 g1 dX9_offMultiple_8 ?_
    refine jr_istore_n C0 dX9_offMultiple_9 rfl (by decide) (lv' := [(2, .int (vr_I (a0.tmod a1))), (0, .int (vr_I a0)), (1, .int (vr_I a1))]) rfl ?_
    refine jr_iload_n C0 0 dX9_offMultiple_10 rfl rfl ?_
    refine jr_iload_n C0 2 dX9_offMultiple_11 rfl rfl ?_
    refine jr_iload_n C0 0 dX9_offMultiple_12 rfl rfl ?_
    refine jr_isub C0 dX9_offMultiple_13 ?_
    refine jr_gd (fun g2 => ?_)
    refine jr_gd (fun g3 => ?_)
    refine jr_min C0 g2 g3 wm_X9_257 wt_yJ9_min_7cf53 wz_J9 wc_yJ9_min_7cf53 (Nat.le_of_ble_eq_true rfl) (Nat.le_of_ble_eq_true rfl) dX9_offMultiple_14 ?_
    refine jr_gd (fun g4 => ?_)
    exact jr_iret C0 g4 dX9_offMultiple_17
  refine jr_iload_n C0 0 dX9_offMultiple_4 rfl rfl ?_
  exact jr_iret C0 h_a0 dX9_offMultiple_5
theorem dX9_tells_0 : decode cX9_tells 0 = .ok (.iconst 0, 1) := by decide +kernel
theorem dX9_tells_1 : decode cX9_tells 1 = .ok (.istore_n 3, 1) := by decide +kernel
theorem dX9_tells_2 : decode cX9_tells 2 = .ok (.iload_n 3, 1) := by decide +kernel
theorem dX9_tells_3 : decode cX9_tells 3 = .ok (.aload_n 0, 1) := by decide +kernel
theorem dX9_tells_4 : decode cX9_tells 4 = .ok (.getfield 12, 3) := by decide +kernel
theorem dX9_tells_7 : decode cX9_tells 7 = .ok (.getfield 243, 3) := by decide +kernel
theorem dX9_tells_10 : decode cX9_tells 10 = .ok (.getfield 104, 3) := by decide +kernel
theorem dX9_tells_13 : decode cX9_tells 13 = .ok (.if_icmp .ge 30, 3) := by decide +kernel
theorem dX9_tells_16 : decode cX9_tells 16 = .ok (.aload_n 0, 1) := by decide +kernel
theorem dX9_tells_17 : decode cX9_tells 17 = .ok (.getfield 12, 3) := by decide +kernel
theorem dX9_tells_20 : decode cX9_tells 20 = .ok (.getfield 243, 3) := by decide +kernel
theorem dX9_tells_23 : decode cX9_tells 23 = .ok (.iload_n 3, 1) := by decide +kernel
theorem dX9_tells_24 : decode cX9_tells 24 = .ok (.invokevirtual 192, 3) := by decide +kernel
theorem dX9_tells_27 : decode cX9_tells 27 = .ok (.iload_n 1, 1) := by decide +kernel
theorem dX9_tells_28 : decode cX9_tells 28 = .ok (.invokestatic 277, 3) := by decide +kernel
theorem dX9_tells_31 : decode cX9_tells 31 = .ok (.iload_n 2, 1) := by decide +kernel
theorem dX9_tells_32 : decode cX9_tells 32 = .ok (.if_icmp .le 5, 3) := by decide +kernel
theorem dX9_tells_35 : decode cX9_tells 35 = .ok (.iconst 0, 1) := by decide +kernel
theorem dX9_tells_36 : decode cX9_tells 36 = .ok (.ireturn, 1) := by decide +kernel
theorem dX9_tells_37 : decode cX9_tells 37 = .ok (.iinc 3 1, 3) := by decide +kernel
theorem dX9_tells_40 : decode cX9_tells 40 = .ok (.goto (-38), 3) := by decide +kernel
theorem dX9_tells_43 : decode cX9_tells 43 = .ok (.iconst 1, 1) := by decide +kernel
theorem dX9_tells_44 : decode cX9_tells 44 = .ok (.ireturn, 1) := by decide +kernel
def fX9_tells_L2 : Nat → Int → Int → Int → vr_M → Option (Int × vr_M)
  | 0, _, _, _, _ => none
  | n + 1, x1, x2, x3, μ => vr_gd (vr_R (μ 17 1)) (if (μ 17 1) ≤ x3 then some (1, μ) else (fX4_at 17 x3 μ).bind (fun r2 => (fX9_offMultiple r2.1 x1 r2.2).bind (fun r3 => if r3.1 ≤ x2 then vr_gd (vr_R (x3 + 1)) ((fX9_tells_L2 n) x1 x2 (x3 + 1) r3.2) else some (0, r3.2))))
def fX9_tells (a0 : Int) (a1 : Int) (μ : vr_M) : Option (Int × vr_M) :=
  fX9_tells_L2 9000 a0 a1 0 μ
set_option maxRecDepth 100000 in
set_option maxHeartbeats 4000000 in
theorem ct_X9_tells (l : Launch) (G : vr_G) (a0 : Int) (h_a0 : vr_R a0) (a1 : Int) (h_a1 : vr_R a1) (μ : vr_M) : vr_CI l yX9_tells cX9_tells 4 (some .boolean) ({ frames := 2, cells := 0, slots := 0, locals := 35 } : Room) G [.ref (vr_ad G 0), .int (vr_I a0), .int (vr_I a1)] μ (fX9_tells a0 a1 μ) := by
  refine vr_start (own := RX9) (by decide) rfl (Nat.le_of_ble_eq_true rfl) (fun p e s m args below meth c C0 => ?_)
  show vr_J p l e _ s m args below meth c 4 0 0 G (vr_Z (vr_QI G) G args s below) 0 [(0, .ref (vr_ad G 0)), (1, .int (vr_I a0)), (2, .int (vr_I a1))] [] μ _
  have L2 : ∀ (n : Nat) (x1 : Int) (h_x1 : vr_R x1) (x2 : Int) (h_x2 : vr_R x2) (x3 : Int) (h_x3 : vr_R x3) (μ : vr_M), vr_J p l e ({ frames := 2, cells := 0, slots := 0, locals := 35 } : Room) s m args below meth c 4 0 0 G (vr_Z (vr_QI G) G args s below) 2 [(0, .ref (vr_ad G 0)), (1, .int (vr_I x1)), (2, .int (vr_I x2)), (3, .int (vr_I x3))] [] μ (fX9_tells_L2 n x1 x2 x3 μ) := by
    intro n2
    induction n2 with
    | zero => intros; exact jr_none
    | succ n2 ih2 =>
      intro x1 h_x1 x2 h_x2 x3 h_x3 μ
      rw [fX9_tells_L2.eq_2]
      refine jr_iload_n C0 3 dX9_tells_2 rfl rfl ?_
      refine jr_aload_n C0 0 dX9_tells_3 rfl rfl ?_
      refine jr_getr C0 (by decide) kd_0 (by decide) rfl wx_X9 (i := 0) (by decide) wf_X9_12 (j := 1) rfl dX9_tells_4 ?_
      refine jr_getr C0 (by decide) kd_1 (by decide) rfl wx_X8 (i := 4) (by decide) wf_X9_243 (j := 17) rfl dX9_tells_7 ?_
      refine jr_geti C0 (by decide) kd_17 (by decide) rfl wx_X4 (i := 1) (by decide) wf_X9_104 rfl dX9_tells_10 ?_
      refine jr_gd (fun g1 => ?_)
      refine jr_icmp_ge C0 h_x3 g1 dX9_tells_13 (tgt := 43) (by decide) ?_ ?_
      · refine jr_iconst C0 dX9_tells_43 ?_
        exact jr_zret C0 (⟨by decide, by decide⟩) (vr_nz (Or.inr rfl)) dX9_tells_44
      refine jr_aload_n C0 0 dX9_tells_16 rfl rfl ?_
      refine jr_getr C0 (by decide) kd_0 (by decide) rfl wx_X9 (i := 0) (by decide) wf_X9_12 (j := 1) rfl dX9_tells_17 ?_
      refine jr_getr C0 (by decide) kd_1 (by decide) rfl wx_X8 (i := 4) (by decide) wf_X9_243 (j := 17) rfl dX9_tells_20 ?_
      refine jr_iload_n C0 3 dX9_tells_23 rfl rfl ?_
      refine jr_vI C0 (by decide) kd_17 (by decide) rfl (ct_X4_at l G (by decide) kd_17 x3 h_x3 _) mi_X4_at wm_X9_192 ⟨Nat.le_of_ble_eq_true rfl, Nat.le_of_ble_eq_true rfl⟩ ⟨rfl, rfl⟩ (As := [.int (vr_I x3)]) rfl (st := []) rfl (Nat.le_of_ble_eq_true rfl) dX9_tells_24 (fun r2 hr2 => ?_)
      refine jr_iload_n C0 1 dX9_tells_27 rfl rfl ?_
      refine jr_sI C0 (ct_X9_offMultiple l G r2.1 hr2 x1 h_x1 _) mi_X9_offMultiple wm_X9_277 ⟨Nat.le_of_ble_eq_true rfl, Nat.le_of_ble_eq_true rfl⟩ ⟨rfl, rfl⟩ (As := [.int (vr_I r2.1), .int (vr_I x1)]) rfl (st := []) rfl (Nat.le_of_ble_eq_true rfl) dX9_tells_28 (fun r3 hr3 => ?_)
      refine jr_iload_n C0 2 dX9_tells_31 rfl rfl ?_
      refine jr_icmp_le C0 hr3 h_x2 dX9_tells_32 (tgt := 37) (by decide) ?_ ?_
      · refine jr_iinc C0 (q := 3) dX9_tells_37 rfl (by decide) (lv' := [(3, .int (vr_I (x3 + 1))), (0, .ref (vr_ad G 0)), (1, .int (vr_I x1)), (2, .int (vr_I x2))]) rfl ?_
        refine jr_goto C0 dX9_tells_40 (tgt := 2) (by decide) ?_
        refine jr_gd (fun g4 => ?_)
        refine jr_sub [1, 2, 3, 0] rfl ?_
        exact ih2 x1 h_x1 x2 h_x2 (x3 + 1) g4 _
      refine jr_iconst C0 dX9_tells_35 ?_
      exact jr_zret C0 (⟨by decide, by decide⟩) (vr_nz (Or.inl rfl)) dX9_tells_36
  unfold fX9_tells
  refine jr_iconst C0 dX9_tells_0 ?_
  refine jr_istore_n C0 dX9_tells_1 rfl (by decide) (lv' := [(3, .int (vr_I 0)), (0, .ref (vr_ad G 0)), (1, .int (vr_I a0)), (2, .int (vr_I a1))]) rfl ?_
  refine jr_sub [1, 2, 3, 0] rfl ?_
  exact L2 9000 a0 h_a0 a1 h_a1 0 (⟨by decide, by decide⟩) _
theorem dX9_round_0 : decode cX9_round 0 = .ok (.iload_n 1, 1) := by decide +kernel
theorem dX9_round_1 : decode cX9_round 1 = .ok (.iconst 0, 1) := by decide +kernel
theorem dX9_round_2 : decode cX9_round 2 = .ok (.bipush 9, 2) := by decide +kernel
theorem dX9_round_4 : decode cX9_round 4 = .ok (.invokestatic 66, 3) := by decide +kernel
theorem dX9_round_7 : decode cX9_round 7 = .ok (.ifCond .ne 6, 3) := by decide +kernel
theorem dX9_round_10 : decode cX9_round 10 = .ok (.bipush (-2), 2) := by decide +kernel
theorem dX9_round_12 : decode cX9_round 12 = .ok (.ireturn, 1) := by decide +kernel
theorem dX9_round_13 : decode cX9_round 13 = .ok (.iconst 1, 1) := by decide +kernel
theorem dX9_round_14 : decode cX9_round 14 = .ok (.istore_n 2, 1) := by decide +kernel
theorem dX9_round_15 : decode cX9_round 15 = .ok (.iload_n 2, 1) := by decide +kernel
theorem dX9_round_16 : decode cX9_round 16 = .ok (.bipush 30, 2) := by decide +kernel
theorem dX9_round_18 : decode cX9_round 18 = .ok (.if_icmp .gt 20, 3) := by decide +kernel
theorem dX9_round_21 : decode cX9_round 21 = .ok (.aload_n 0, 1) := by decide +kernel
theorem dX9_round_22 : decode cX9_round 22 = .ok (.iload_n 2, 1) := by decide +kernel
theorem dX9_round_23 : decode cX9_round 23 = .ok (.iload_n 1, 1) := by decide +kernel
theorem dX9_round_24 : decode cX9_round 24 = .ok (.invokevirtual 246, 3) := by decide +kernel
theorem dX9_round_27 : decode cX9_round 27 = .ok (.ifCond .eq 5, 3) := by decide +kernel
theorem dX9_round_30 : decode cX9_round 30 = .ok (.iload_n 2, 1) := by decide +kernel
theorem dX9_round_31 : decode cX9_round 31 = .ok (.ireturn, 1) := by decide +kernel
theorem dX9_round_32 : decode cX9_round 32 = .ok (.iinc 2 1, 3) := by decide +kernel
theorem dX9_round_35 : decode cX9_round 35 = .ok (.goto (-20), 3) := by decide +kernel
theorem dX9_round_38 : decode cX9_round 38 = .ok (.bipush (-5), 2) := by decide +kernel
theorem dX9_round_40 : decode cX9_round 40 = .ok (.ireturn, 1) := by decide +kernel
def fX9_round_L15 : Nat → Int → Int → vr_M → Option (Int × vr_M)
  | 0, _, _, _ => none
  | n + 1, x1, x2, μ => if 30 < x2 then some ((-5), μ) else (fX9_tells x2 x1 μ).bind (fun r1 => if r1.1 = 0 then vr_gd (vr_R (x2 + 1)) ((fX9_round_L15 n) x1 (x2 + 1) r1.2) else some (x2, r1.2))
def fX9_round (a0 : Int) (μ : vr_M) : Option (Int × vr_M) :=
  (fX9_within a0 0 9 μ).bind (fun r3 => if ¬ r3.1 = 0 then fX9_round_L15 9000 a0 1 r3.2 else some ((-2), r3.2))
set_option maxRecDepth 100000 in
set_option maxHeartbeats 4000000 in
theorem ct_X9_round (l : Launch) (G : vr_G) (a0 : Int) (h_a0 : vr_R a0) (μ : vr_M) : vr_CI l yX9_round cX9_round 3 (some .int) ({ frames := 3, cells := 0, slots := 0, locals := 58 } : Room) G [.ref (vr_ad G 0), .int (vr_I a0)] μ (fX9_round a0 μ) := by
  refine vr_start (own := RX9) (by decide) rfl (Nat.le_of_ble_eq_true rfl) (fun p e s m args below meth c C0 => ?_)
  show vr_J p l e _ s m args below meth c 3 0 0 G (vr_Z (vr_QI G) G args s below) 0 [(0, .ref (vr_ad G 0)), (1, .int (vr_I a0))] [] μ _
  have L15 : ∀ (n : Nat) (x1 : Int) (h_x1 : vr_R x1) (x2 : Int) (h_x2 : vr_R x2) (μ : vr_M), vr_J p l e ({ frames := 3, cells := 0, slots := 0, locals := 58 } : Room) s m args below meth c 3 0 0 G (vr_Z (vr_QI G) G args s below) 15 [(0, .ref (vr_ad G 0)), (1, .int (vr_I x1)), (2, .int (vr_I x2))] [] μ (fX9_round_L15 n x1 x2 μ) := by
    intro n15
    induction n15 with
    | zero => intros; exact jr_none
    | succ n15 ih15 =>
      intro x1 h_x1 x2 h_x2 μ
      rw [fX9_round_L15.eq_2]
      refine jr_iload_n C0 2 dX9_round_15 rfl rfl ?_
      refine jr_bipush C0 dX9_round_16 rfl ?_
      refine jr_icmp_gt C0 h_x2 (⟨by decide, by decide⟩) dX9_round_18 (tgt := 38) (by decide) ?_ ?_
      · refine jr_bipush C0 dX9_round_38 rfl ?_
        exact jr_iret C0 (⟨by decide, by decide⟩) dX9_round_40
      refine jr_aload_n C0 0 dX9_round_21 rfl rfl ?_
      refine jr_iload_n C0 2 dX9_round_22 rfl rfl ?_
      refine jr_iload_n C0 1 dX9_round_23 rfl rfl ?_
      refine jr_vI C0 (by decide) kd_0 (by decide) rfl (ct_X9_tells l G x2 h_x2 x1 h_x1 _) mi_X9_tells wm_X9_246 ⟨Nat.le_of_ble_eq_true rfl, Nat.le_of_ble_eq_true rfl⟩ ⟨rfl, rfl⟩ (As := [.int (vr_I x2), .int (vr_I x1)]) rfl (st := []) rfl (Nat.le_of_ble_eq_true rfl) dX9_round_24 (fun r1 hr1 => ?_)
      refine jr_if_eq C0 hr1 dX9_round_27 (tgt := 32) (by decide) ?_ ?_
      · refine jr_iinc C0 (q := 2) dX9_round_32 rfl (by decide) (lv' := [(2, .int (vr_I (x2 + 1))), (0, .ref (vr_ad G 0)), (1, .int (vr_I x1))]) rfl ?_
        refine jr_goto C0 dX9_round_35 (tgt := 15) (by decide) ?_
        refine jr_gd (fun g2 => ?_)
        refine jr_sub [1, 2, 0] rfl ?_
        exact ih15 x1 h_x1 (x2 + 1) g2 _
      refine jr_iload_n C0 2 dX9_round_30 rfl rfl ?_
      exact jr_iret C0 h_x2 dX9_round_31
  unfold fX9_round
  refine jr_iload_n C0 1 dX9_round_0 rfl rfl ?_
  refine jr_iconst C0 dX9_round_1 ?_
  refine jr_bipush C0 dX9_round_2 rfl ?_
  refine jr_sI C0 (ct_X9_within l G a0 h_a0 0 (⟨by decide, by decide⟩) 9 (⟨by decide, by decide⟩) _) mi_X9_within wm_X9_66 ⟨Nat.le_of_ble_eq_true rfl, Nat.le_of_ble_eq_true rfl⟩ ⟨rfl, rfl⟩ (As := [.int (vr_I a0), .int (vr_I 0), .int (vr_I 9)]) rfl (st := []) rfl (Nat.le_of_ble_eq_true rfl) dX9_round_4 (fun r3 hr3 => ?_)
  refine jr_if_ne C0 hr3 dX9_round_7 (tgt := 13) (by decide) ?_ ?_
  · refine jr_iconst C0 dX9_round_13 ?_
    refine jr_istore_n C0 dX9_round_14 rfl (by decide) (lv' := [(2, .int (vr_I 1)), (0, .ref (vr_ad G 0)), (1, .int (vr_I a0))]) rfl ?_
    refine jr_sub [1, 2, 0] rfl ?_
    exact L15 9000 a0 h_a0 1 (⟨by decide, by decide⟩) _
  refine jr_bipush C0 dX9_round_10 rfl ?_
  exact jr_iret C0 (⟨by decide, by decide⟩) dX9_round_12
theorem dX9_act_0 : decode cX9_act 0 = .ok (.aload_n 0, 1) := by decide +kernel
theorem dX9_act_1 : decode cX9_act 1 = .ok (.getfield 62, 3) := by decide +kernel
theorem dX9_act_4 : decode cX9_act 4 = .ok (.iconst 0, 1) := by decide +kernel
theorem dX9_act_5 : decode cX9_act 5 = .ok (.putfield 250, 3) := by decide +kernel
theorem dX9_act_8 : decode cX9_act 8 = .ok (.aload_n 0, 1) := by decide +kernel
theorem dX9_act_9 : decode cX9_act 9 = .ok (.getfield 12, 3) := by decide +kernel
theorem dX9_act_12 : decode cX9_act 12 = .ok (.iload_n 1, 1) := by decide +kernel
theorem dX9_act_13 : decode cX9_act 13 = .ok (.invokevirtual 169, 3) := by decide +kernel
theorem dX9_act_16 : decode cX9_act 16 = .ok (.ifCond .eq 12, 3) := by decide +kernel
theorem dX9_act_19 : decode cX9_act 19 = .ok (.iload_n 2, 1) := by decide +kernel
theorem dX9_act_20 : decode cX9_act 20 = .ok (.iconst 0, 1) := by decide +kernel
theorem dX9_act_21 : decode cX9_act 21 = .ok (.iconst 2, 1) := by decide +kernel
theorem dX9_act_22 : decode cX9_act 22 = .ok (.invokestatic 66, 3) := by decide +kernel
theorem dX9_act_25 : decode cX9_act 25 = .ok (.ifCond .ne 5, 3) := by decide +kernel
theorem dX9_act_28 : decode cX9_act 28 = .ok (.iconst 0, 1) := by decide +kernel
theorem dX9_act_29 : decode cX9_act 29 = .ok (.ireturn, 1) := by decide +kernel
theorem dX9_act_30 : decode cX9_act 30 = .ok (.aload_n 0, 1) := by decide +kernel
theorem dX9_act_31 : decode cX9_act 31 = .ok (.getfield 62, 3) := by decide +kernel
theorem dX9_act_34 : decode cX9_act 34 = .ok (.aload_n 0, 1) := by decide +kernel
theorem dX9_act_35 : decode cX9_act 35 = .ok (.getfield 12, 3) := by decide +kernel
theorem dX9_act_38 : decode cX9_act 38 = .ok (.getfield 163, 3) := by decide +kernel
theorem dX9_act_41 : decode cX9_act 41 = .ok (.iload_n 1, 1) := by decide +kernel
theorem dX9_act_42 : decode cX9_act 42 = .ok (.invokevirtual 192, 3) := by decide +kernel
theorem dX9_act_45 : decode cX9_act 45 = .ok (.aload_n 0, 1) := by decide +kernel
theorem dX9_act_46 : decode cX9_act 46 = .ok (.getfield 12, 3) := by decide +kernel
theorem dX9_act_49 : decode cX9_act 49 = .ok (.getfield 166, 3) := by decide +kernel
theorem dX9_act_52 : decode cX9_act 52 = .ok (.iload_n 1, 1) := by decide +kernel
theorem dX9_act_53 : decode cX9_act 53 = .ok (.invokevirtual 192, 3) := by decide +kernel
theorem dX9_act_56 : decode cX9_act 56 = .ok (.iload_n 1, 1) := by decide +kernel
theorem dX9_act_57 : decode cX9_act 57 = .ok (.iload_n 2, 1) := by decide +kernel
theorem dX9_act_58 : decode cX9_act 58 = .ok (.iload_n 3, 1) := by decide +kernel
theorem dX9_act_59 : decode cX9_act 59 = .ok (.invokevirtual 253, 3) := by decide +kernel
theorem dX9_act_62 : decode cX9_act 62 = .ok (.ireturn, 1) := by decide +kernel
def fX9_act_B28 (μ : vr_M) : Option (Int × vr_M) :=
  some (0, μ)
def fX9_act (a0 : Int) (a1 : Int) (a2 : Int) (μ : vr_M) : Option (Int × vr_M) :=
  (fX8_hasRule 1 a0 (vr_u μ 66 1 0)).bind (fun r1 => if r1.1 = 0 then fX9_act_B28 r1.2 else (fX9_within a1 0 2 r1.2).bind (fun r2 => if ¬ r2.1 = 0 then (fX4_at 19 a0 r2.2).bind (fun r3 => (fX4_at 21 a0 r3.2).bind (fun r4 => (fX5_perform r3.1 r4.1 a0 a1 a2 r4.2).bind (fun r5 => some (r5.1, r5.2)))) else fX9_act_B28 r2.2))
set_option maxRecDepth 100000 in
set_option maxHeartbeats 4000000 in
theorem ct_X9_act (l : Launch) (G : vr_G) (a0 : Int) (h_a0 : vr_R a0) (a1 : Int) (h_a1 : vr_R a1) (a2 : Int) (h_a2 : vr_R a2) (μ : vr_M) : vr_CI l yX9_act cX9_act 4 (some .int) ({ frames := 57, cells := 0, slots := 0, locals := 1967 } : Room) G [.ref (vr_ad G 0), .int (vr_I a0), .int (vr_I a1), .int (vr_I a2)] μ (fX9_act a0 a1 a2 μ) := by
  refine vr_start (own := RX9) (by decide) rfl (Nat.le_of_ble_eq_true rfl) (fun p e s m args below meth c C0 => ?_)
  show vr_J p l e _ s m args below meth c 4 0 0 G (vr_Z (vr_QI G) G args s below) 0 [(0, .ref (vr_ad G 0)), (1, .int (vr_I a0)), (2, .int (vr_I a1)), (3, .int (vr_I a2))] [] μ _
  have B28 : ∀ (μ : vr_M), vr_J p l e ({ frames := 57, cells := 0, slots := 0, locals := 1967 } : Room) s m args below meth c 4 0 0 G (vr_Z (vr_QI G) G args s below) 28 [] [] μ (fX9_act_B28 μ) := by
    intro μ
    unfold fX9_act_B28
    refine jr_iconst C0 dX9_act_28 ?_
    exact jr_iret C0 (⟨by decide, by decide⟩) dX9_act_29
  unfold fX9_act
  refine jr_aload_n C0 0 dX9_act_0 rfl rfl ?_
  refine jr_getr C0 (by decide) kd_0 (by decide) rfl wx_X9 (i := 7) (by decide) wf_X9_62 (j := 66) rfl dX9_act_1 ?_
  refine jr_iconst C0 dX9_act_4 ?_
  refine jr_puti C0 (by decide) kd_66 (by decide) rfl wx_X5 (i := 1) (by decide) wf_X9_250 rfl tyX5_ok nmX5 rfl rfl rfl dX9_act_5 ?_
  refine jr_aload_n C0 0 dX9_act_8 rfl rfl ?_
  refine jr_getr C0 (by decide) kd_0 (by decide) rfl wx_X9 (i := 0) (by decide) wf_X9_12 (j := 1) rfl dX9_act_9 ?_
  refine jr_iload_n C0 1 dX9_act_12 rfl rfl ?_
  refine jr_vI C0 (by decide) kd_1 (by decide) rfl (ct_X8_hasRule l G (by decide) kd_1 a0 h_a0 _) mi_X8_hasRule wm_X9_169 ⟨Nat.le_of_ble_eq_true rfl, Nat.le_of_ble_eq_true rfl⟩ ⟨rfl, rfl⟩ (As := [.int (vr_I a0)]) rfl (st := []) rfl (Nat.le_of_ble_eq_true rfl) dX9_act_13 (fun r1 hr1 => ?_)
  refine jr_if_eq C0 hr1 dX9_act_16 (tgt := 28) (by decide) ?_ ?_
  · refine jr_sub [] rfl ?_
    exact B28 _
  refine jr_iload_n C0 2 dX9_act_19 rfl rfl ?_
  refine jr_iconst C0 dX9_act_20 ?_
  refine jr_iconst C0 dX9_act_21 ?_
  refine jr_sI C0 (ct_X9_within l G a1 h_a1 0 (⟨by decide, by decide⟩) 2 (⟨by decide, by decide⟩) _) mi_X9_within wm_X9_66 ⟨Nat.le_of_ble_eq_true rfl, Nat.le_of_ble_eq_true rfl⟩ ⟨rfl, rfl⟩ (As := [.int (vr_I a1), .int (vr_I 0), .int (vr_I 2)]) rfl (st := []) rfl (Nat.le_of_ble_eq_true rfl) dX9_act_22 (fun r2 hr2 => ?_)
  refine jr_if_ne C0 hr2 dX9_act_25 (tgt := 30) (by decide) ?_ ?_
  · refine jr_aload_n C0 0 dX9_act_30 rfl rfl ?_
    refine jr_getr C0 (by decide) kd_0 (by decide) rfl wx_X9 (i := 7) (by decide) wf_X9_62 (j := 66) rfl dX9_act_31 ?_
    refine jr_aload_n C0 0 dX9_act_34 rfl rfl ?_
    refine jr_getr C0 (by decide) kd_0 (by decide) rfl wx_X9 (i := 0) (by decide) wf_X9_12 (j := 1) rfl dX9_act_35 ?_
    refine jr_getr C0 (by decide) kd_1 (by decide) rfl wx_X8 (i := 5) (by decide) wf_X9_163 (j := 19) rfl dX9_act_38 ?_
    refine jr_iload_n C0 1 dX9_act_41 rfl rfl ?_
    refine jr_vI C0 (by decide) kd_19 (by decide) rfl (ct_X4_at l G (by decide) kd_19 a0 h_a0 _) mi_X4_at wm_X9_192 ⟨Nat.le_of_ble_eq_true rfl, Nat.le_of_ble_eq_true rfl⟩ ⟨rfl, rfl⟩ (As := [.int (vr_I a0)]) rfl (st := [.ref (vr_ad G 66)]) rfl (Nat.le_of_ble_eq_true rfl) dX9_act_42 (fun r3 hr3 => ?_)
    refine jr_aload_n C0 0 dX9_act_45 rfl rfl ?_
    refine jr_getr C0 (by decide) kd_0 (by decide) rfl wx_X9 (i := 0) (by decide) wf_X9_12 (j := 1) rfl dX9_act_46 ?_
    refine jr_getr C0 (by decide) kd_1 (by decide) rfl wx_X8 (i := 6) (by decide) wf_X9_166 (j := 21) rfl dX9_act_49 ?_
    refine jr_iload_n C0 1 dX9_act_52 rfl rfl ?_
    refine jr_vI C0 (by decide) kd_21 (by decide) rfl (ct_X4_at l G (by decide) kd_21 a0 h_a0 _) mi_X4_at wm_X9_192 ⟨Nat.le_of_ble_eq_true rfl, Nat.le_of_ble_eq_true rfl⟩ ⟨rfl, rfl⟩ (As := [.int (vr_I a0)]) rfl (st := [.int (vr_I r3.1), .ref (vr_ad G 66)]) rfl (Nat.le_of_ble_eq_true rfl) dX9_act_53 (fun r4 hr4 => ?_)
    refine jr_iload_n C0 1 dX9_act_56 rfl rfl ?_
    refine jr_iload_n C0 2 dX9_act_57 rfl rfl ?_
    refine jr_iload_n C0 3 dX9_act_58 rfl rfl ?_
    refine jr_vI C0 (by decide) kd_66 (by decide) rfl (ct_X5_perform l G r3.1 hr3 r4.1 hr4 a0 h_a0 a1 h_a1 a2 h_a2 _) mi_X5_perform wm_X9_253 ⟨Nat.le_of_ble_eq_true rfl, Nat.le_of_ble_eq_true rfl⟩ ⟨rfl, rfl⟩ (As := [.int (vr_I r3.1), .int (vr_I r4.1), .int (vr_I a0), .int (vr_I a1), .int (vr_I a2)]) rfl (st := []) rfl (Nat.le_of_ble_eq_true rfl) dX9_act_59 (fun r5 hr5 => ?_)
    exact jr_iret C0 hr5 dX9_act_62
  refine jr_sub [] rfl ?_
  exact B28 _
theorem dX9_trace_0 : decode cX9_trace 0 = .ok (.iload_n 1, 1) := by decide +kernel
theorem dX9_trace_1 : decode cX9_trace 1 = .ok (.iconst 0, 1) := by decide +kernel
theorem dX9_trace_2 : decode cX9_trace 2 = .ok (.aload_n 0, 1) := by decide +kernel
theorem dX9_trace_3 : decode cX9_trace 3 = .ok (.getfield 62, 3) := by decide +kernel
theorem dX9_trace_6 : decode cX9_trace 6 = .ok (.getfield 250, 3) := by decide +kernel
theorem dX9_trace_9 : decode cX9_trace 9 = .ok (.bipush 20, 2) := by decide +kernel
theorem dX9_trace_11 : decode cX9_trace 11 = .ok (.invokestatic 257, 3) := by decide +kernel
theorem dX9_trace_14 : decode cX9_trace 14 = .ok (.iconst 1, 1) := by decide +kernel
theorem dX9_trace_15 : decode cX9_trace 15 = .ok (.isub, 1) := by decide +kernel
theorem dX9_trace_16 : decode cX9_trace 16 = .ok (.invokestatic 66, 3) := by decide +kernel
theorem dX9_trace_19 : decode cX9_trace 19 = .ok (.ifCond .eq 15, 3) := by decide +kernel
theorem dX9_trace_22 : decode cX9_trace 22 = .ok (.aload_n 0, 1) := by decide +kernel
theorem dX9_trace_23 : decode cX9_trace 23 = .ok (.getfield 62, 3) := by decide +kernel
theorem dX9_trace_26 : decode cX9_trace 26 = .ok (.getfield 262, 3) := by decide +kernel
theorem dX9_trace_29 : decode cX9_trace 29 = .ok (.iload_n 1, 1) := by decide +kernel
theorem dX9_trace_30 : decode cX9_trace 30 = .ok (.iaload, 1) := by decide +kernel
theorem dX9_trace_31 : decode cX9_trace 31 = .ok (.goto 4, 3) := by decide +kernel
theorem dX9_trace_34 : decode cX9_trace 34 = .ok (.iconst (-1), 1) := by decide +kernel
theorem dX9_trace_35 : decode cX9_trace 35 = .ok (.ireturn, 1) := by decide +kernel
def fX9_trace_B35 (y0 : Int) (μ : vr_M) : Option (Int × vr_M) :=
  some (y0, μ)
def fX9_trace (a0 : Int) (μ : vr_M) : Option (Int × vr_M) :=
  vr_gd (vr_R (μ 66 1)) (vr_gd (vr_R ((min (μ 66 1) 20) - 1)) ((fX9_within a0 0 ((min (μ 66 1) 20) - 1) μ).bind (fun r3 => if r3.1 = 0 then fX9_trace_B35 (-1) r3.2 else vr_gd (0 ≤ a0 ∧ a0 < 20) (vr_gd (vr_R (r3.2 67 a0.toNat)) (fX9_trace_B35 (r3.2 67 a0.toNat) r3.2)))))
set_option maxRecDepth 100000 in
set_option maxHeartbeats 4000000 in
theorem ct_X9_trace (l : Launch) (G : vr_G) (a0 : Int) (h_a0 : vr_R a0) (μ : vr_M) : vr_CI l yX9_trace cX9_trace 2 (some .int) ({ frames := 1, cells := 0, slots := 0, locals := 22 } : Room) G [.ref (vr_ad G 0), .int (vr_I a0)] μ (fX9_trace a0 μ) := by
  refine vr_start (own := RX9) (by decide) rfl (Nat.le_of_ble_eq_true rfl) (fun p e s m args below meth c C0 => ?_)
  show vr_J p l e _ s m args below meth c 2 0 0 G (vr_Z (vr_QI G) G args s below) 0 [(0, .ref (vr_ad G 0)), (1, .int (vr_I a0))] [] μ _
  have B35 : ∀ (y0 : Int) (h_y0 : vr_R y0) (μ : vr_M), vr_J p l e ({ frames := 1, cells := 0, slots := 0, locals := 22 } : Room) s m args below meth c 2 0 0 G (vr_Z (vr_QI G) G args s below) 35 [] [.int (vr_I y0)] μ (fX9_trace_B35 y0 μ) := by
    intro y0 h_y0 μ
    unfold fX9_trace_B35
    exact jr_iret C0 h_y0 dX9_trace_35
  unfold fX9_trace
  refine jr_iload_n C0 1 dX9_trace_0 rfl rfl ?_
  refine jr_iconst C0 dX9_trace_1 ?_
  refine jr_aload_n C0 0 dX9_trace_2 rfl rfl ?_
  refine jr_getr C0 (by decide) kd_0 (by decide) rfl wx_X9 (i := 7) (by decide) wf_X9_62 (j := 66) rfl dX9_trace_3 ?_
  refine jr_geti C0 (by decide) kd_66 (by decide) rfl wx_X5 (i := 1) (by decide) wf_X9_250 rfl dX9_trace_6 ?_
  refine jr_bipush C0 dX9_trace_9 rfl ?_
  refine jr_gd (fun g1 => ?_)
  refine jr_min C0 g1 (⟨by decide, by decide⟩) wm_X9_257 wt_yJ9_min_7cf53 wz_J9 wc_yJ9_min_7cf53 (Nat.le_of_ble_eq_true rfl) (Nat.le_of_ble_eq_true rfl) dX9_trace_11 ?_
  refine jr_iconst C0 dX9_trace_14 ?_
  refine jr_isub C0 dX9_trace_15 ?_
  refine jr_gd (fun g2 => ?_)
  refine jr_sI C0 (ct_X9_within l G a0 h_a0 0 (⟨by decide, by decide⟩) ((min (μ 66 1) 20) - 1) g2 _) mi_X9_within wm_X9_66 ⟨Nat.le_of_ble_eq_true rfl, Nat.le_of_ble_eq_true rfl⟩ ⟨rfl, rfl⟩ (As := [.int (vr_I a0), .int (vr_I 0), .int (vr_I ((min (μ 66 1) 20) - 1))]) rfl (st := []) rfl (Nat.le_of_ble_eq_true rfl) dX9_trace_16 (fun r3 hr3 => ?_)
  refine jr_if_eq C0 hr3 dX9_trace_19 (tgt := 34) (by decide) ?_ ?_
  · refine jr_iconst C0 dX9_trace_34 ?_
    refine jr_sub [] rfl ?_
    exact B35 (-1) (⟨by decide, by decide⟩) _
  refine jr_aload_n C0 0 dX9_trace_22 rfl rfl ?_
  refine jr_getr C0 (by decide) kd_0 (by decide) rfl wx_X9 (i := 7) (by decide) wf_X9_62 (j := 66) rfl dX9_trace_23 ?_
  refine jr_getr C0 (by decide) kd_66 (by decide) rfl wx_X5 (i := 0) (by decide) wf_X9_262 (j := 67) rfl dX9_trace_26 ?_
  refine jr_iload_n C0 1 dX9_trace_29 rfl rfl ?_
  refine jr_gd (fun g4 => ?_)
  refine jr_iald C0 (by decide) kd_67 kl_67 g4 (j := a0.toNat) rfl dX9_trace_30 ?_
  refine jr_goto C0 dX9_trace_31 (tgt := 35) (by decide) ?_
  refine jr_gd (fun g5 => ?_)
  refine jr_sub [] rfl ?_
  exact B35 (r3.2 67 a0.toNat) g5 _
theorem dX9_as_0 : decode cX9_as 0 = .ok (.aload_n 0, 1) := by decide +kernel
theorem dX9_as_1 : decode cX9_as 1 = .ok (.getfield 12, 3) := by decide +kernel
theorem dX9_as_4 : decode cX9_as 4 = .ok (.iload_n 1, 1) := by decide +kernel
theorem dX9_as_5 : decode cX9_as 5 = .ok (.invokevirtual 169, 3) := by decide +kernel
theorem dX9_as_8 : decode cX9_as 8 = .ok (.ifCond .eq 13, 3) := by decide +kernel
theorem dX9_as_11 : decode cX9_as 11 = .ok (.iload_n 2, 1) := by decide +kernel
theorem dX9_as_12 : decode cX9_as 12 = .ok (.iconst 0, 1) := by decide +kernel
theorem dX9_as_13 : decode cX9_as 13 = .ok (.bipush 6, 2) := by decide +kernel
theorem dX9_as_15 : decode cX9_as 15 = .ok (.invokestatic 66, 3) := by decide +kernel
theorem dX9_as_18 : decode cX9_as 18 = .ok (.ifCond .ne 5, 3) := by decide +kernel
theorem dX9_as_21 : decode cX9_as 21 = .ok (.iconst (-1), 1) := by decide +kernel
theorem dX9_as_22 : decode cX9_as 22 = .ok (.ireturn, 1) := by decide +kernel
theorem dX9_as_23 : decode cX9_as 23 = .ok (.aload_n 0, 1) := by decide +kernel
theorem dX9_as_24 : decode cX9_as 24 = .ok (.getfield 12, 3) := by decide +kernel
theorem dX9_as_27 : decode cX9_as 27 = .ok (.getfield 163, 3) := by decide +kernel
theorem dX9_as_30 : decode cX9_as 30 = .ok (.iload_n 1, 1) := by decide +kernel
theorem dX9_as_31 : decode cX9_as 31 = .ok (.invokevirtual 192, 3) := by decide +kernel
theorem dX9_as_34 : decode cX9_as 34 = .ok (.istore_n 3, 1) := by decide +kernel
theorem dX9_as_35 : decode cX9_as 35 = .ok (.iconst 0, 1) := by decide +kernel
theorem dX9_as_36 : decode cX9_as 36 = .ok (.istore 4, 2) := by decide +kernel
theorem dX9_as_38 : decode cX9_as 38 = .ok (.iload 4, 2) := by decide +kernel
theorem dX9_as_40 : decode cX9_as 40 = .ok (.bipush 7, 2) := by decide +kernel
theorem dX9_as_42 : decode cX9_as 42 = .ok (.if_icmp .ge 42, 3) := by decide +kernel
theorem dX9_as_45 : decode cX9_as 45 = .ok (.iload_n 3, 1) := by decide +kernel
theorem dX9_as_46 : decode cX9_as 46 = .ok (.iconst 0, 1) := by decide +kernel
theorem dX9_as_47 : decode cX9_as 47 = .ok (.bipush 6, 2) := by decide +kernel
theorem dX9_as_49 : decode cX9_as 49 = .ok (.invokestatic 66, 3) := by decide +kernel
theorem dX9_as_52 : decode cX9_as 52 = .ok (.ifCond .eq 32, 3) := by decide +kernel
theorem dX9_as_55 : decode cX9_as 55 = .ok (.iload_n 3, 1) := by decide +kernel
theorem dX9_as_56 : decode cX9_as 56 = .ok (.iload_n 2, 1) := by decide +kernel
theorem dX9_as_57 : decode cX9_as 57 = .ok (.if_icmp .ne 15, 3) := by decide +kernel
theorem dX9_as_60 : decode cX9_as 60 = .ok (.aload_n 0, 1) := by decide +kernel
theorem dX9_as_61 : decode cX9_as 61 = .ok (.getfield 12, 3) := by decide +kernel
theorem dX9_as_64 : decode cX9_as 64 = .ok (.getfield 166, 3) := by decide +kernel
theorem dX9_as_67 : decode cX9_as 67 = .ok (.iload_n 1, 1) := by decide +kernel
theorem dX9_as_68 : decode cX9_as 68 = .ok (.invokevirtual 192, 3) := by decide +kernel
theorem dX9_as_71 : decode cX9_as 71 = .ok (.ireturn, 1) := by decide +kernel
theorem dX9_as_72 : decode cX9_as 72 = .ok (.getstatic 265, 3) := by decide +kernel
theorem dX9_as_75 : decode cX9_as 75 = .ok (.iload_n 3, 1) := by decide +kernel
theorem dX9_as_76 : decode cX9_as 76 = .ok (.iaload, 1) := by decide +kernel
theorem dX9_as_77 : decode cX9_as 77 = .ok (.istore_n 3, 1) := by decide +kernel
theorem dX9_as_78 : decode cX9_as 78 = .ok (.iinc 4 1, 3) := by decide +kernel
theorem dX9_as_81 : decode cX9_as 81 = .ok (.goto (-43), 3) := by decide +kernel
theorem dX9_as_84 : decode cX9_as 84 = .ok (.bipush (-6), 2) := by decide +kernel
theorem dX9_as_86 : decode cX9_as 86 = .ok (.ireturn, 1) := by decide +kernel
def fX9_as_B21 (μ : vr_M) : Option (Int × vr_M) :=
  some ((-1), μ)
def fX9_as_B84 (μ : vr_M) : Option (Int × vr_M) :=
  some ((-6), μ)
def fX9_as_L38 : Nat → Int → Int → Int → Int → vr_M → Option (Int × vr_M)
  | 0, _, _, _, _, _ => none
  | n + 1, x1, x2, x3, x4, μ => if 7 ≤ x4 then fX9_as_B84 μ else (fX9_within x3 0 6 μ).bind (fun r1 => if r1.1 = 0 then fX9_as_B84 r1.2 else if ¬ x3 = x2 then vr_gd (0 ≤ x3 ∧ x3 < 7) (vr_gd (vr_R (x4 + 1)) ((fX9_as_L38 n) x1 x2 (vr_ABOVE.getD x3.toNat 0) (x4 + 1) r1.2)) else (fX4_at 21 x1 r1.2).bind (fun r4 => some (r4.1, r4.2)))
def fX9_as (a0 : Int) (a1 : Int) (μ : vr_M) : Option (Int × vr_M) :=
  (fX8_hasRule 1 a0 μ).bind (fun r5 => if r5.1 = 0 then fX9_as_B21 r5.2 else (fX9_within a1 0 6 r5.2).bind (fun r6 => if ¬ r6.1 = 0 then (fX4_at 19 a0 r6.2).bind (fun r7 => fX9_as_L38 9000 a0 a1 r7.1 0 r7.2) else fX9_as_B21 r6.2))
set_option maxRecDepth 100000 in
set_option maxHeartbeats 4000000 in
theorem ct_X9_as (l : Launch) (G : vr_G) (a0 : Int) (h_a0 : vr_R a0) (a1 : Int) (h_a1 : vr_R a1) (μ : vr_M) : vr_CI l yX9_as cX9_as 5 (some .int) ({ frames := 1, cells := 0, slots := 0, locals := 22 } : Room) G [.ref (vr_ad G 0), .int (vr_I a0), .int (vr_I a1)] μ (fX9_as a0 a1 μ) := by
  refine vr_start (own := RX9) (by decide) rfl (Nat.le_of_ble_eq_true rfl) (fun p e s m args below meth c C0 => ?_)
  show vr_J p l e _ s m args below meth c 5 0 0 G (vr_Z (vr_QI G) G args s below) 0 [(0, .ref (vr_ad G 0)), (1, .int (vr_I a0)), (2, .int (vr_I a1))] [] μ _
  have B21 : ∀ (μ : vr_M), vr_J p l e ({ frames := 1, cells := 0, slots := 0, locals := 22 } : Room) s m args below meth c 5 0 0 G (vr_Z (vr_QI G) G args s below) 21 [] [] μ (fX9_as_B21 μ) := by
    intro μ
    unfold fX9_as_B21
    refine jr_iconst C0 dX9_as_21 ?_
    exact jr_iret C0 (⟨by decide, by decide⟩) dX9_as_22
  have B84 : ∀ (μ : vr_M), vr_J p l e ({ frames := 1, cells := 0, slots := 0, locals := 22 } : Room) s m args below meth c 5 0 0 G (vr_Z (vr_QI G) G args s below) 84 [] [] μ (fX9_as_B84 μ) := by
    intro μ
    unfold fX9_as_B84
    refine jr_bipush C0 dX9_as_84 rfl ?_
    exact jr_iret C0 (⟨by decide, by decide⟩) dX9_as_86
  have L38 : ∀ (n : Nat) (x1 : Int) (h_x1 : vr_R x1) (x2 : Int) (h_x2 : vr_R x2) (x3 : Int) (h_x3 : vr_R x3) (x4 : Int) (h_x4 : vr_R x4) (μ : vr_M), vr_J p l e ({ frames := 1, cells := 0, slots := 0, locals := 22 } : Room) s m args below meth c 5 0 0 G (vr_Z (vr_QI G) G args s below) 38 [(0, .ref (vr_ad G 0)), (1, .int (vr_I x1)), (2, .int (vr_I x2)), (3, .int (vr_I x3)), (4, .int (vr_I x4))] [] μ (fX9_as_L38 n x1 x2 x3 x4 μ) := by
    intro n38
    induction n38 with
    | zero => intros; exact jr_none
    | succ n38 ih38 =>
      intro x1 h_x1 x2 h_x2 x3 h_x3 x4 h_x4 μ
      rw [fX9_as_L38.eq_2]
      refine jr_iload C0 4 dX9_as_38 rfl ?_
      refine jr_bipush C0 dX9_as_40 rfl ?_
      refine jr_icmp_ge C0 h_x4 (⟨by decide, by decide⟩) dX9_as_42 (tgt := 84) (by decide) ?_ ?_
      · refine jr_sub [] rfl ?_
        exact B84 _
      refine jr_iload_n C0 3 dX9_as_45 rfl rfl ?_
      refine jr_iconst C0 dX9_as_46 ?_
      refine jr_bipush C0 dX9_as_47 rfl ?_
      refine jr_sI C0 (ct_X9_within l G x3 h_x3 0 (⟨by decide, by decide⟩) 6 (⟨by decide, by decide⟩) _) mi_X9_within wm_X9_66 ⟨Nat.le_of_ble_eq_true rfl, Nat.le_of_ble_eq_true rfl⟩ ⟨rfl, rfl⟩ (As := [.int (vr_I x3), .int (vr_I 0), .int (vr_I 6)]) rfl (st := []) rfl (Nat.le_of_ble_eq_true rfl) dX9_as_49 (fun r1 hr1 => ?_)
      refine jr_if_eq C0 hr1 dX9_as_52 (tgt := 84) (by decide) ?_ ?_
      · refine jr_sub [] rfl ?_
        exact B84 _
      refine jr_iload_n C0 3 dX9_as_55 rfl rfl ?_
      refine jr_iload_n C0 2 dX9_as_56 rfl rfl ?_
      refine jr_icmp_ne C0 h_x3 h_x2 dX9_as_57 (tgt := 72) (by decide) ?_ ?_
      · refine jr_gso0 C0 wf_X9_265 dX9_as_72 ?_
        refine jr_iload_n C0 3 dX9_as_75 rfl rfl ?_
        refine jr_gd (fun g2 => ?_)
        refine jr_sald0 C0 g2 dX9_as_76 ?_
        refine jr_istore_n C0 dX9_as_77 rfl (by decide) (lv' := [(3, .int (vr_I (vr_ABOVE.getD x3.toNat 0))), (0, .ref (vr_ad G 0)), (1, .int (vr_I x1)), (2, .int (vr_I x2)), (4, .int (vr_I x4))]) rfl ?_
        refine jr_iinc C0 (q := 4) dX9_as_78 rfl (by decide) (lv' := [(4, .int (vr_I (x4 + 1))), (3, .int (vr_I (vr_ABOVE.getD x3.toNat 0))), (0, .ref (vr_ad G 0)), (1, .int (vr_I x1)), (2, .int (vr_I x2))]) rfl ?_
        refine jr_goto C0 dX9_as_81 (tgt := 38) (by decide) ?_
        refine jr_gd (fun g3 => ?_)
        refine jr_sub [2, 3, 4, 1, 0] rfl ?_
        exact ih38 x1 h_x1 x2 h_x2 (vr_ABOVE.getD x3.toNat 0) ((vr_RA _).1) (x4 + 1) g3 _
      refine jr_aload_n C0 0 dX9_as_60 rfl rfl ?_
      refine jr_getr C0 (by decide) kd_0 (by decide) rfl wx_X9 (i := 0) (by decide) wf_X9_12 (j := 1) rfl dX9_as_61 ?_
      refine jr_getr C0 (by decide) kd_1 (by decide) rfl wx_X8 (i := 6) (by decide) wf_X9_166 (j := 21) rfl dX9_as_64 ?_
      refine jr_iload_n C0 1 dX9_as_67 rfl rfl ?_
      refine jr_vI C0 (by decide) kd_21 (by decide) rfl (ct_X4_at l G (by decide) kd_21 x1 h_x1 _) mi_X4_at wm_X9_192 ⟨Nat.le_of_ble_eq_true rfl, Nat.le_of_ble_eq_true rfl⟩ ⟨rfl, rfl⟩ (As := [.int (vr_I x1)]) rfl (st := []) rfl (Nat.le_of_ble_eq_true rfl) dX9_as_68 (fun r4 hr4 => ?_)
      exact jr_iret C0 hr4 dX9_as_71
  unfold fX9_as
  refine jr_aload_n C0 0 dX9_as_0 rfl rfl ?_
  refine jr_getr C0 (by decide) kd_0 (by decide) rfl wx_X9 (i := 0) (by decide) wf_X9_12 (j := 1) rfl dX9_as_1 ?_
  refine jr_iload_n C0 1 dX9_as_4 rfl rfl ?_
  refine jr_vI C0 (by decide) kd_1 (by decide) rfl (ct_X8_hasRule l G (by decide) kd_1 a0 h_a0 _) mi_X8_hasRule wm_X9_169 ⟨Nat.le_of_ble_eq_true rfl, Nat.le_of_ble_eq_true rfl⟩ ⟨rfl, rfl⟩ (As := [.int (vr_I a0)]) rfl (st := []) rfl (Nat.le_of_ble_eq_true rfl) dX9_as_5 (fun r5 hr5 => ?_)
  refine jr_if_eq C0 hr5 dX9_as_8 (tgt := 21) (by decide) ?_ ?_
  · refine jr_sub [] rfl ?_
    exact B21 _
  refine jr_iload_n C0 2 dX9_as_11 rfl rfl ?_
  refine jr_iconst C0 dX9_as_12 ?_
  refine jr_bipush C0 dX9_as_13 rfl ?_
  refine jr_sI C0 (ct_X9_within l G a1 h_a1 0 (⟨by decide, by decide⟩) 6 (⟨by decide, by decide⟩) _) mi_X9_within wm_X9_66 ⟨Nat.le_of_ble_eq_true rfl, Nat.le_of_ble_eq_true rfl⟩ ⟨rfl, rfl⟩ (As := [.int (vr_I a1), .int (vr_I 0), .int (vr_I 6)]) rfl (st := []) rfl (Nat.le_of_ble_eq_true rfl) dX9_as_15 (fun r6 hr6 => ?_)
  refine jr_if_ne C0 hr6 dX9_as_18 (tgt := 23) (by decide) ?_ ?_
  · refine jr_aload_n C0 0 dX9_as_23 rfl rfl ?_
    refine jr_getr C0 (by decide) kd_0 (by decide) rfl wx_X9 (i := 0) (by decide) wf_X9_12 (j := 1) rfl dX9_as_24 ?_
    refine jr_getr C0 (by decide) kd_1 (by decide) rfl wx_X8 (i := 5) (by decide) wf_X9_163 (j := 19) rfl dX9_as_27 ?_
    refine jr_iload_n C0 1 dX9_as_30 rfl rfl ?_
    refine jr_vI C0 (by decide) kd_19 (by decide) rfl (ct_X4_at l G (by decide) kd_19 a0 h_a0 _) mi_X4_at wm_X9_192 ⟨Nat.le_of_ble_eq_true rfl, Nat.le_of_ble_eq_true rfl⟩ ⟨rfl, rfl⟩ (As := [.int (vr_I a0)]) rfl (st := []) rfl (Nat.le_of_ble_eq_true rfl) dX9_as_31 (fun r7 hr7 => ?_)
    refine jr_istore_n C0 dX9_as_34 rfl (by decide) (lv' := [(3, .int (vr_I r7.1)), (0, .ref (vr_ad G 0)), (1, .int (vr_I a0)), (2, .int (vr_I a1))]) rfl ?_
    refine jr_iconst C0 dX9_as_35 ?_
    refine jr_istore C0 dX9_as_36 (by decide) (lv' := [(4, .int (vr_I 0)), (3, .int (vr_I r7.1)), (0, .ref (vr_ad G 0)), (1, .int (vr_I a0)), (2, .int (vr_I a1))]) rfl ?_
    refine jr_sub [2, 3, 4, 1, 0] rfl ?_
    exact L38 9000 a0 h_a0 a1 h_a1 r7.1 hr7 0 (⟨by decide, by decide⟩) _
  refine jr_sub [] rfl ?_
  exact B21 _
theorem dX9_image_0 : decode cX9_image 0 = .ok (.aload_n 0, 1) := by decide +kernel
theorem dX9_image_1 : decode cX9_image 1 = .ok (.getfield 18, 3) := by decide +kernel
theorem dX9_image_4 : decode cX9_image 4 = .ok (.aload_n 0, 1) := by decide +kernel
theorem dX9_image_5 : decode cX9_image 5 = .ok (.getfield 12, 3) := by decide +kernel
theorem dX9_image_8 : decode cX9_image 8 = .ok (.invokevirtual 268, 3) := by decide +kernel
theorem dX9_image_11 : decode cX9_image 11 = .ok (.aload_n 0, 1) := by decide +kernel
theorem dX9_image_12 : decode cX9_image 12 = .ok (.iconst 1, 1) := by decide +kernel
theorem dX9_image_13 : decode cX9_image 13 = .ok (.putfield 270, 3) := by decide +kernel
theorem dX9_image_16 : decode cX9_image 16 = .ok (.aload_n 0, 1) := by decide +kernel
theorem dX9_image_17 : decode cX9_image 17 = .ok (.getfield 12, 3) := by decide +kernel
theorem dX9_image_20 : decode cX9_image 20 = .ok (.getfield 70, 3) := by decide +kernel
theorem dX9_image_23 : decode cX9_image 23 = .ok (.getfield 74, 3) := by decide +kernel
theorem dX9_image_26 : decode cX9_image 26 = .ok (.ireturn, 1) := by decide +kernel
def fX9_image (μ : vr_M) : Option (Int × vr_M) :=
  (fX8_become 23 1 μ).bind (fun r1 => vr_let (vr_u r1.2 0 2 1) (fun μ2 => vr_gd (vr_R (μ2 2 5)) (some (μ2 2 5, μ2))))
set_option maxRecDepth 100000 in
set_option maxHeartbeats 4000000 in
theorem ct_X9_image (l : Launch) (G : vr_G) (μ : vr_M) : vr_CI l yX9_image cX9_image 1 (some .int) ({ frames := 3, cells := 0, slots := 0, locals := 64 } : Room) G [.ref (vr_ad G 0)] μ (fX9_image μ) := by
  refine vr_start (own := RX9) (by decide) rfl (Nat.le_of_ble_eq_true rfl) (fun p e s m args below meth c C0 => ?_)
  show vr_J p l e _ s m args below meth c 1 0 0 G (vr_Z (vr_QI G) G args s below) 0 [(0, .ref (vr_ad G 0))] [] μ _
  unfold fX9_image
  refine jr_aload_n C0 0 dX9_image_0 rfl rfl ?_
  refine jr_getr C0 (by decide) kd_0 (by decide) rfl wx_X9 (i := 1) (by decide) wf_X9_18 (j := 23) rfl dX9_image_1 ?_
  refine jr_aload_n C0 0 dX9_image_4 rfl rfl ?_
  refine jr_getr C0 (by decide) kd_0 (by decide) rfl wx_X9 (i := 0) (by decide) wf_X9_12 (j := 1) rfl dX9_image_5 ?_
  refine jr_vV0 C0 (by decide) kd_23 (by decide) rfl (ct_X8_become l G (by decide) kd_23 (by decide) kd_1 _) mi_X8_become wm_X9_268 ⟨Nat.le_of_ble_eq_true rfl, Nat.le_of_ble_eq_true rfl⟩ ⟨rfl, rfl⟩ (As := [.ref (vr_ad G 1)]) rfl (st := []) rfl (Nat.le_of_ble_eq_true rfl) dX9_image_8 (fun r1 => ?_)
  refine jr_aload_n C0 0 dX9_image_11 rfl rfl ?_
  refine jr_iconst C0 dX9_image_12 ?_
  refine jr_puti C0 (by decide) kd_0 (by decide) rfl wx_X9 (i := 2) (by decide) wf_X9_270 rfl tyX9_ok nmX9 rfl (vr_nz (Or.inr rfl)) ((vr_fz .boolean (Or.inr rfl) (fun _ => (Or.inr rfl))).2) dX9_image_13 ?_
  refine jr_aload_n C0 0 dX9_image_16 rfl rfl ?_
  refine jr_getr C0 (by decide) kd_0 (by decide) rfl wx_X9 (i := 0) (by decide) wf_X9_12 (j := 1) rfl dX9_image_17 ?_
  refine jr_getr C0 (by decide) kd_1 (by decide) rfl wx_X8 (i := 0) (by decide) wf_X9_70 (j := 2) rfl dX9_image_20 ?_
  refine jr_let (fun μ2 => ?_)
  refine jr_geti C0 (by decide) kd_2 (by decide) rfl wx_X2 (i := 5) (by decide) wf_X9_74 rfl dX9_image_23 ?_
  refine jr_gd (fun g3 => ?_)
  exact jr_iret C0 g3 dX9_image_26
theorem dX9_undo_0 : decode cX9_undo 0 = .ok (.aload_n 0, 1) := by decide +kernel
theorem dX9_undo_1 : decode cX9_undo 1 = .ok (.getfield 270, 3) := by decide +kernel
theorem dX9_undo_4 : decode cX9_undo 4 = .ok (.ifCond .ne 6, 3) := by decide +kernel
theorem dX9_undo_7 : decode cX9_undo 7 = .ok (.bipush (-3), 2) := by decide +kernel
theorem dX9_undo_9 : decode cX9_undo 9 = .ok (.ireturn, 1) := by decide +kernel
theorem dX9_undo_10 : decode cX9_undo 10 = .ok (.aload_n 0, 1) := by decide +kernel
theorem dX9_undo_11 : decode cX9_undo 11 = .ok (.getfield 12, 3) := by decide +kernel
theorem dX9_undo_14 : decode cX9_undo 14 = .ok (.aload_n 0, 1) := by decide +kernel
theorem dX9_undo_15 : decode cX9_undo 15 = .ok (.getfield 18, 3) := by decide +kernel
theorem dX9_undo_18 : decode cX9_undo 18 = .ok (.invokevirtual 268, 3) := by decide +kernel
theorem dX9_undo_21 : decode cX9_undo 21 = .ok (.aload_n 0, 1) := by decide +kernel
theorem dX9_undo_22 : decode cX9_undo 22 = .ok (.getfield 12, 3) := by decide +kernel
theorem dX9_undo_25 : decode cX9_undo 25 = .ok (.getfield 70, 3) := by decide +kernel
theorem dX9_undo_28 : decode cX9_undo 28 = .ok (.getfield 74, 3) := by decide +kernel
theorem dX9_undo_31 : decode cX9_undo 31 = .ok (.ireturn, 1) := by decide +kernel
def fX9_undo (μ : vr_M) : Option (Int × vr_M) :=
  vr_gd (vr_R (μ 0 2)) (if ¬ (μ 0 2) = 0 then (fX8_become 1 23 μ).bind (fun r2 => vr_gd (vr_R (r2.2 2 5)) (some (r2.2 2 5, r2.2))) else some ((-3), μ))
set_option maxRecDepth 100000 in
set_option maxHeartbeats 4000000 in
theorem ct_X9_undo (l : Launch) (G : vr_G) (μ : vr_M) : vr_CI l yX9_undo cX9_undo 1 (some .int) ({ frames := 3, cells := 0, slots := 0, locals := 64 } : Room) G [.ref (vr_ad G 0)] μ (fX9_undo μ) := by
  refine vr_start (own := RX9) (by decide) rfl (Nat.le_of_ble_eq_true rfl) (fun p e s m args below meth c C0 => ?_)
  show vr_J p l e _ s m args below meth c 1 0 0 G (vr_Z (vr_QI G) G args s below) 0 [(0, .ref (vr_ad G 0))] [] μ _
  unfold fX9_undo
  refine jr_aload_n C0 0 dX9_undo_0 rfl rfl ?_
  refine jr_geti C0 (by decide) kd_0 (by decide) rfl wx_X9 (i := 2) (by decide) wf_X9_270 rfl dX9_undo_1 ?_
  refine jr_gd (fun g1 => ?_)
  refine jr_if_ne C0 g1 dX9_undo_4 (tgt := 10) (by decide) ?_ ?_
  · refine jr_aload_n C0 0 dX9_undo_10 rfl rfl ?_
    refine jr_getr C0 (by decide) kd_0 (by decide) rfl wx_X9 (i := 0) (by decide) wf_X9_12 (j := 1) rfl dX9_undo_11 ?_
    refine jr_aload_n C0 0 dX9_undo_14 rfl rfl ?_
    refine jr_getr C0 (by decide) kd_0 (by decide) rfl wx_X9 (i := 1) (by decide) wf_X9_18 (j := 23) rfl dX9_undo_15 ?_
    refine jr_vV0 C0 (by decide) kd_1 (by decide) rfl (ct_X8_become l G (by decide) kd_1 (by decide) kd_23 _) mi_X8_become wm_X9_268 ⟨Nat.le_of_ble_eq_true rfl, Nat.le_of_ble_eq_true rfl⟩ ⟨rfl, rfl⟩ (As := [.ref (vr_ad G 23)]) rfl (st := []) rfl (Nat.le_of_ble_eq_true rfl) dX9_undo_18 (fun r2 => ?_)
    refine jr_aload_n C0 0 dX9_undo_21 rfl rfl ?_
    refine jr_getr C0 (by decide) kd_0 (by decide) rfl wx_X9 (i := 0) (by decide) wf_X9_12 (j := 1) rfl dX9_undo_22 ?_
    refine jr_getr C0 (by decide) kd_1 (by decide) rfl wx_X8 (i := 0) (by decide) wf_X9_70 (j := 2) rfl dX9_undo_25 ?_
    refine jr_geti C0 (by decide) kd_2 (by decide) rfl wx_X2 (i := 5) (by decide) wf_X9_74 rfl dX9_undo_28 ?_
    refine jr_gd (fun g3 => ?_)
    exact jr_iret C0 g3 dX9_undo_31
  refine jr_bipush C0 dX9_undo_7 rfl ?_
  exact jr_iret C0 (⟨by decide, by decide⟩) dX9_undo_9
theorem dX9_count_0 : decode cX9_count 0 = .ok (.iload_n 1, 1) := by decide +kernel
theorem dX9_count_1 : decode cX9_count 1 = .ok (.tableswitch 129 0 7 #[47, 58, 69, 77, 88, 99, 110, 121], 47) := by decide +kernel
theorem dX9_count_48 : decode cX9_count 48 = .ok (.aload_n 0, 1) := by decide +kernel
theorem dX9_count_49 : decode cX9_count 49 = .ok (.getfield 12, 3) := by decide +kernel
theorem dX9_count_52 : decode cX9_count 52 = .ok (.getfield 70, 3) := by decide +kernel
theorem dX9_count_55 : decode cX9_count 55 = .ok (.getfield 74, 3) := by decide +kernel
theorem dX9_count_58 : decode cX9_count 58 = .ok (.ireturn, 1) := by decide +kernel
theorem dX9_count_59 : decode cX9_count 59 = .ok (.aload_n 0, 1) := by decide +kernel
theorem dX9_count_60 : decode cX9_count 60 = .ok (.getfield 12, 3) := by decide +kernel
theorem dX9_count_63 : decode cX9_count 63 = .ok (.getfield 163, 3) := by decide +kernel
theorem dX9_count_66 : decode cX9_count 66 = .ok (.getfield 104, 3) := by decide +kernel
theorem dX9_count_69 : decode cX9_count 69 = .ok (.ireturn, 1) := by decide +kernel
theorem dX9_count_70 : decode cX9_count 70 = .ok (.aload_n 0, 1) := by decide +kernel
theorem dX9_count_71 : decode cX9_count 71 = .ok (.getfield 12, 3) := by decide +kernel
theorem dX9_count_74 : decode cX9_count 74 = .ok (.getfield 113, 3) := by decide +kernel
theorem dX9_count_77 : decode cX9_count 77 = .ok (.ireturn, 1) := by decide +kernel
theorem dX9_count_78 : decode cX9_count 78 = .ok (.aload_n 0, 1) := by decide +kernel
theorem dX9_count_79 : decode cX9_count 79 = .ok (.getfield 12, 3) := by decide +kernel
theorem dX9_count_82 : decode cX9_count 82 = .ok (.getfield 70, 3) := by decide +kernel
theorem dX9_count_85 : decode cX9_count 85 = .ok (.getfield 274, 3) := by decide +kernel
theorem dX9_count_88 : decode cX9_count 88 = .ok (.ireturn, 1) := by decide +kernel
theorem dX9_count_89 : decode cX9_count 89 = .ok (.aload_n 0, 1) := by decide +kernel
theorem dX9_count_90 : decode cX9_count 90 = .ok (.getfield 12, 3) := by decide +kernel
theorem dX9_count_93 : decode cX9_count 93 = .ok (.getfield 30, 3) := by decide +kernel
theorem dX9_count_96 : decode cX9_count 96 = .ok (.getfield 104, 3) := by decide +kernel
theorem dX9_count_99 : decode cX9_count 99 = .ok (.ireturn, 1) := by decide +kernel
theorem dX9_count_100 : decode cX9_count 100 = .ok (.aload_n 0, 1) := by decide +kernel
theorem dX9_count_101 : decode cX9_count 101 = .ok (.getfield 12, 3) := by decide +kernel
theorem dX9_count_104 : decode cX9_count 104 = .ok (.getfield 189, 3) := by decide +kernel
theorem dX9_count_107 : decode cX9_count 107 = .ok (.getfield 104, 3) := by decide +kernel
theorem dX9_count_110 : decode cX9_count 110 = .ok (.ireturn, 1) := by decide +kernel
theorem dX9_count_111 : decode cX9_count 111 = .ok (.aload_n 0, 1) := by decide +kernel
theorem dX9_count_112 : decode cX9_count 112 = .ok (.getfield 12, 3) := by decide +kernel
theorem dX9_count_115 : decode cX9_count 115 = .ok (.getfield 243, 3) := by decide +kernel
theorem dX9_count_118 : decode cX9_count 118 = .ok (.getfield 104, 3) := by decide +kernel
theorem dX9_count_121 : decode cX9_count 121 = .ok (.ireturn, 1) := by decide +kernel
theorem dX9_count_122 : decode cX9_count 122 = .ok (.aload_n 0, 1) := by decide +kernel
theorem dX9_count_123 : decode cX9_count 123 = .ok (.getfield 62, 3) := by decide +kernel
theorem dX9_count_126 : decode cX9_count 126 = .ok (.getfield 250, 3) := by decide +kernel
theorem dX9_count_129 : decode cX9_count 129 = .ok (.ireturn, 1) := by decide +kernel
theorem dX9_count_130 : decode cX9_count 130 = .ok (.iconst (-1), 1) := by decide +kernel
theorem dX9_count_131 : decode cX9_count 131 = .ok (.ireturn, 1) := by decide +kernel
def fX9_count (a0 : Int) (μ : vr_M) : Option (Int × vr_M) :=
  vr_sw a0 0 [vr_gd (vr_R (μ 2 5)) (some (μ 2 5, μ)), vr_gd (vr_R (μ 19 1)) (some (μ 19 1, μ)), vr_gd (vr_R (μ 1 7)) (some (μ 1 7, μ)), vr_gd (vr_R (μ 2 8)) (some (μ 2 8, μ)), vr_gd (vr_R (μ 13 1)) (some (μ 13 1, μ)), vr_gd (vr_R (μ 15 1)) (some (μ 15 1, μ)), vr_gd (vr_R (μ 17 1)) (some (μ 17 1, μ)), vr_gd (vr_R (μ 66 1)) (some (μ 66 1, μ))] (some ((-1), μ))
set_option maxRecDepth 100000 in
set_option maxHeartbeats 4000000 in
theorem ct_X9_count (l : Launch) (G : vr_G) (a0 : Int) (h_a0 : vr_R a0) (μ : vr_M) : vr_CI l yX9_count cX9_count 2 (some .int) ({ frames := 0, cells := 0, slots := 0, locals := 0 } : Room) G [.ref (vr_ad G 0), .int (vr_I a0)] μ (fX9_count a0 μ) := by
  refine vr_start (own := RX9) (by decide) rfl (Nat.le_of_ble_eq_true rfl) (fun p e s m args below meth c C0 => ?_)
  show vr_J p l e _ s m args below meth c 2 0 0 G (vr_Z (vr_QI G) G args s below) 0 [(0, .ref (vr_ad G 0)), (1, .int (vr_I a0))] [] μ _
  unfold fX9_count
  refine jr_iload_n C0 1 dX9_count_0 rfl rfl ?_
  refine jr_tsw C0 h_a0 dX9_count_1 (by decide) (td := 130) (by decide) (vr_TS_cons (tgt := 48) (by decide) ?_ (vr_TS_cons (tgt := 59) (by decide) ?_ (vr_TS_cons (tgt := 70) (by decide) ?_ (vr_TS_cons (tgt := 78) (by decide) ?_ (vr_TS_cons (tgt := 89) (by decide) ?_ (vr_TS_cons (tgt := 100) (by decide) ?_ (vr_TS_cons (tgt := 111) (by decide) ?_ (vr_TS_cons (tgt := 122) (by decide) ?_ vr_TS_nil)))))))) ?_
  · show vr_J p l e _ s m args below meth c _ _ _ G _ 48 _ _ _ _
    refine jr_aload_n C0 0 dX9_count_48 rfl rfl ?_
    refine jr_getr C0 (by decide) kd_0 (by decide) rfl wx_X9 (i := 0) (by decide) wf_X9_12 (j := 1) rfl dX9_count_49 ?_
    refine jr_getr C0 (by decide) kd_1 (by decide) rfl wx_X8 (i := 0) (by decide) wf_X9_70 (j := 2) rfl dX9_count_52 ?_
    refine jr_geti C0 (by decide) kd_2 (by decide) rfl wx_X2 (i := 5) (by decide) wf_X9_74 rfl dX9_count_55 ?_
    refine jr_gd (fun g1 => ?_)
    exact jr_iret C0 g1 dX9_count_58
  · show vr_J p l e _ s m args below meth c _ _ _ G _ 59 _ _ _ _
    refine jr_aload_n C0 0 dX9_count_59 rfl rfl ?_
    refine jr_getr C0 (by decide) kd_0 (by decide) rfl wx_X9 (i := 0) (by decide) wf_X9_12 (j := 1) rfl dX9_count_60 ?_
    refine jr_getr C0 (by decide) kd_1 (by decide) rfl wx_X8 (i := 5) (by decide) wf_X9_163 (j := 19) rfl dX9_count_63 ?_
    refine jr_geti C0 (by decide) kd_19 (by decide) rfl wx_X4 (i := 1) (by decide) wf_X9_104 rfl dX9_count_66 ?_
    refine jr_gd (fun g2 => ?_)
    exact jr_iret C0 g2 dX9_count_69
  · show vr_J p l e _ s m args below meth c _ _ _ G _ 70 _ _ _ _
    refine jr_aload_n C0 0 dX9_count_70 rfl rfl ?_
    refine jr_getr C0 (by decide) kd_0 (by decide) rfl wx_X9 (i := 0) (by decide) wf_X9_12 (j := 1) rfl dX9_count_71 ?_
    refine jr_geti C0 (by decide) kd_1 (by decide) rfl wx_X8 (i := 7) (by decide) wf_X9_113 rfl dX9_count_74 ?_
    refine jr_gd (fun g3 => ?_)
    exact jr_iret C0 g3 dX9_count_77
  · show vr_J p l e _ s m args below meth c _ _ _ G _ 78 _ _ _ _
    refine jr_aload_n C0 0 dX9_count_78 rfl rfl ?_
    refine jr_getr C0 (by decide) kd_0 (by decide) rfl wx_X9 (i := 0) (by decide) wf_X9_12 (j := 1) rfl dX9_count_79 ?_
    refine jr_getr C0 (by decide) kd_1 (by decide) rfl wx_X8 (i := 0) (by decide) wf_X9_70 (j := 2) rfl dX9_count_82 ?_
    refine jr_geti C0 (by decide) kd_2 (by decide) rfl wx_X2 (i := 8) (by decide) wf_X9_274 rfl dX9_count_85 ?_
    refine jr_gd (fun g4 => ?_)
    exact jr_iret C0 g4 dX9_count_88
  · show vr_J p l e _ s m args below meth c _ _ _ G _ 89 _ _ _ _
    refine jr_aload_n C0 0 dX9_count_89 rfl rfl ?_
    refine jr_getr C0 (by decide) kd_0 (by decide) rfl wx_X9 (i := 0) (by decide) wf_X9_12 (j := 1) rfl dX9_count_90 ?_
    refine jr_getr C0 (by decide) kd_1 (by decide) rfl wx_X8 (i := 2) (by decide) wf_X9_30 (j := 13) rfl dX9_count_93 ?_
    refine jr_geti C0 (by decide) kd_13 (by decide) rfl wx_X4 (i := 1) (by decide) wf_X9_104 rfl dX9_count_96 ?_
    refine jr_gd (fun g5 => ?_)
    exact jr_iret C0 g5 dX9_count_99
  · show vr_J p l e _ s m args below meth c _ _ _ G _ 100 _ _ _ _
    refine jr_aload_n C0 0 dX9_count_100 rfl rfl ?_
    refine jr_getr C0 (by decide) kd_0 (by decide) rfl wx_X9 (i := 0) (by decide) wf_X9_12 (j := 1) rfl dX9_count_101 ?_
    refine jr_getr C0 (by decide) kd_1 (by decide) rfl wx_X8 (i := 3) (by decide) wf_X9_189 (j := 15) rfl dX9_count_104 ?_
    refine jr_geti C0 (by decide) kd_15 (by decide) rfl wx_X4 (i := 1) (by decide) wf_X9_104 rfl dX9_count_107 ?_
    refine jr_gd (fun g6 => ?_)
    exact jr_iret C0 g6 dX9_count_110
  · show vr_J p l e _ s m args below meth c _ _ _ G _ 111 _ _ _ _
    refine jr_aload_n C0 0 dX9_count_111 rfl rfl ?_
    refine jr_getr C0 (by decide) kd_0 (by decide) rfl wx_X9 (i := 0) (by decide) wf_X9_12 (j := 1) rfl dX9_count_112 ?_
    refine jr_getr C0 (by decide) kd_1 (by decide) rfl wx_X8 (i := 4) (by decide) wf_X9_243 (j := 17) rfl dX9_count_115 ?_
    refine jr_geti C0 (by decide) kd_17 (by decide) rfl wx_X4 (i := 1) (by decide) wf_X9_104 rfl dX9_count_118 ?_
    refine jr_gd (fun g7 => ?_)
    exact jr_iret C0 g7 dX9_count_121
  · show vr_J p l e _ s m args below meth c _ _ _ G _ 122 _ _ _ _
    refine jr_aload_n C0 0 dX9_count_122 rfl rfl ?_
    refine jr_getr C0 (by decide) kd_0 (by decide) rfl wx_X9 (i := 7) (by decide) wf_X9_62 (j := 66) rfl dX9_count_123 ?_
    refine jr_geti C0 (by decide) kd_66 (by decide) rfl wx_X5 (i := 1) (by decide) wf_X9_250 rfl dX9_count_126 ?_
    refine jr_gd (fun g8 => ?_)
    exact jr_iret C0 g8 dX9_count_129
  refine jr_iconst C0 dX9_count_130 ?_
  exact jr_iret C0 (⟨by decide, by decide⟩) dX9_count_131
theorem dX10_in_0 : decode cX10_in 0 = .ok (.iload_n 0, 1) := by decide +kernel
theorem dX10_in_1 : decode cX10_in 1 = .ok (.iload_n 1, 1) := by decide +kernel
theorem dX10_in_2 : decode cX10_in 2 = .ok (.if_icmp .lt 12, 3) := by decide +kernel
theorem dX10_in_5 : decode cX10_in 5 = .ok (.iload_n 0, 1) := by decide +kernel
theorem dX10_in_6 : decode cX10_in 6 = .ok (.iload_n 2, 1) := by decide +kernel
theorem dX10_in_7 : decode cX10_in 7 = .ok (.if_icmp .gt 7, 3) := by decide +kernel
theorem dX10_in_10 : decode cX10_in 10 = .ok (.iconst 1, 1) := by decide +kernel
theorem dX10_in_11 : decode cX10_in 11 = .ok (.goto 4, 3) := by decide +kernel
theorem dX10_in_14 : decode cX10_in 14 = .ok (.iconst 0, 1) := by decide +kernel
theorem dX10_in_15 : decode cX10_in 15 = .ok (.ireturn, 1) := by decide +kernel
def fX10_in_B15 (y0 : Int) (μ : vr_M) : Option (Int × vr_M) :=
  vr_gd (y0 = 0 ∨ y0 = 1) (some (y0, μ))
def fX10_in_B14 (μ : vr_M) : Option (Int × vr_M) :=
  fX10_in_B15 0 μ
def fX10_in (a0 : Int) (a1 : Int) (a2 : Int) (μ : vr_M) : Option (Int × vr_M) :=
  if a0 < a1 then fX10_in_B14 μ else if a2 < a0 then fX10_in_B14 μ else fX10_in_B15 1 μ
set_option maxRecDepth 100000 in
set_option maxHeartbeats 4000000 in
theorem ct_X10_in (l : Launch) (G : vr_G) (a0 : Int) (h_a0 : vr_R a0) (a1 : Int) (h_a1 : vr_R a1) (a2 : Int) (h_a2 : vr_R a2) (μ : vr_M) : vr_CI l yX10_in cX10_in 3 (some .boolean) ({ frames := 0, cells := 0, slots := 0, locals := 0 } : Room) G [.int (vr_I a0), .int (vr_I a1), .int (vr_I a2)] μ (fX10_in a0 a1 a2 μ) := by
  refine vr_start (own := RX10) (by decide) rfl (Nat.le_of_ble_eq_true rfl) (fun p e s m args below meth c C0 => ?_)
  show vr_J p l e _ s m args below meth c 3 0 0 G (vr_Z (vr_QI G) G args s below) 0 [(0, .int (vr_I a0)), (1, .int (vr_I a1)), (2, .int (vr_I a2))] [] μ _
  have B15 : ∀ (y0 : Int) (h_y0 : vr_R y0) (μ : vr_M), vr_J p l e ({ frames := 0, cells := 0, slots := 0, locals := 0 } : Room) s m args below meth c 3 0 0 G (vr_Z (vr_QI G) G args s below) 15 [] [.int (vr_I y0)] μ (fX10_in_B15 y0 μ) := by
    intro y0 h_y0 μ
    unfold fX10_in_B15
    refine jr_gd (fun g1 => ?_)
    exact jr_zret C0 h_y0 (vr_nz g1) dX10_in_15
  have B14 : ∀ (μ : vr_M), vr_J p l e ({ frames := 0, cells := 0, slots := 0, locals := 0 } : Room) s m args below meth c 3 0 0 G (vr_Z (vr_QI G) G args s below) 14 [] [] μ (fX10_in_B14 μ) := by
    intro μ
    unfold fX10_in_B14
    refine jr_iconst C0 dX10_in_14 ?_
    exact B15 0 (⟨by decide, by decide⟩) _
  unfold fX10_in
  refine jr_iload_n C0 0 dX10_in_0 rfl rfl ?_
  refine jr_iload_n C0 1 dX10_in_1 rfl rfl ?_
  refine jr_icmp_lt C0 h_a0 h_a1 dX10_in_2 (tgt := 14) (by decide) ?_ ?_
  · refine jr_sub [] rfl ?_
    exact B14 _
  refine jr_iload_n C0 0 dX10_in_5 rfl rfl ?_
  refine jr_iload_n C0 2 dX10_in_6 rfl rfl ?_
  refine jr_icmp_gt C0 h_a0 h_a2 dX10_in_7 (tgt := 14) (by decide) ?_ ?_
  · refine jr_sub [] rfl ?_
    exact B14 _
  refine jr_iconst C0 dX10_in_10 ?_
  refine jr_goto C0 dX10_in_11 (tgt := 15) (by decide) ?_
  refine jr_sub [] rfl ?_
  exact B15 1 (⟨by decide, by decide⟩) _
theorem dX10_isPlot_0 : decode cX10_isPlot 0 = .ok (.iload_n 1, 1) := by decide +kernel
theorem dX10_isPlot_1 : decode cX10_isPlot 1 = .ok (.iconst 0, 1) := by decide +kernel
theorem dX10_isPlot_2 : decode cX10_isPlot 2 = .ok (.aload_n 0, 1) := by decide +kernel
theorem dX10_isPlot_3 : decode cX10_isPlot 3 = .ok (.getfield 9, 3) := by decide +kernel
theorem dX10_isPlot_6 : decode cX10_isPlot 6 = .ok (.iconst 0, 1) := by decide +kernel
theorem dX10_isPlot_7 : decode cX10_isPlot 7 = .ok (.iaload, 1) := by decide +kernel
theorem dX10_isPlot_8 : decode cX10_isPlot 8 = .ok (.iconst 1, 1) := by decide +kernel
theorem dX10_isPlot_9 : decode cX10_isPlot 9 = .ok (.isub, 1) := by decide +kernel
theorem dX10_isPlot_10 : decode cX10_isPlot 10 = .ok (.invokestatic 44, 3) := by decide +kernel
theorem dX10_isPlot_13 : decode cX10_isPlot 13 = .ok (.ireturn, 1) := by decide +kernel
def fX10_isPlot (a0 : Int) (μ : vr_M) : Option (Int × vr_M) :=
  vr_gd (vr_R ((μ 69 0) - 1)) ((fX10_in a0 0 ((μ 69 0) - 1) μ).bind (fun r2 => vr_gd (r2.1 = 0 ∨ r2.1 = 1) (some (r2.1, r2.2))))
set_option maxRecDepth 100000 in
set_option maxHeartbeats 4000000 in
theorem ct_X10_isPlot (l : Launch) (G : vr_G) (a0 : Int) (h_a0 : vr_R a0) (μ : vr_M) : vr_CI l yX10_isPlot cX10_isPlot 2 (some .boolean) ({ frames := 1, cells := 0, slots := 0, locals := 22 } : Room) G [.ref (vr_ad G 68), .int (vr_I a0)] μ (fX10_isPlot a0 μ) := by
  refine vr_start (own := RX10) (by decide) rfl (Nat.le_of_ble_eq_true rfl) (fun p e s m args below meth c C0 => ?_)
  show vr_J p l e _ s m args below meth c 2 0 0 G (vr_Z (vr_QI G) G args s below) 0 [(0, .ref (vr_ad G 68)), (1, .int (vr_I a0))] [] μ _
  unfold fX10_isPlot
  refine jr_iload_n C0 1 dX10_isPlot_0 rfl rfl ?_
  refine jr_iconst C0 dX10_isPlot_1 ?_
  refine jr_aload_n C0 0 dX10_isPlot_2 rfl rfl ?_
  refine jr_getr C0 (by decide) kd_68 (by decide) rfl wx_X10 (i := 1) (by decide) wf_X10_9 (j := 69) rfl dX10_isPlot_3 ?_
  refine jr_iconst C0 dX10_isPlot_6 ?_
  refine jr_iald C0 (by decide) kd_69 kl_69 (by decide) (j := 0) rfl dX10_isPlot_7 ?_
  refine jr_iconst C0 dX10_isPlot_8 ?_
  refine jr_isub C0 dX10_isPlot_9 ?_
  refine jr_gd (fun g1 => ?_)
  refine jr_sI C0 (ct_X10_in l G a0 h_a0 0 (⟨by decide, by decide⟩) ((μ 69 0) - 1) g1 _) mi_X10_in wm_X10_44 ⟨Nat.le_of_ble_eq_true rfl, Nat.le_of_ble_eq_true rfl⟩ ⟨rfl, rfl⟩ (As := [.int (vr_I a0), .int (vr_I 0), .int (vr_I ((μ 69 0) - 1))]) rfl (st := []) rfl (Nat.le_of_ble_eq_true rfl) dX10_isPlot_10 (fun r2 hr2 => ?_)
  refine jr_gd (fun g3 => ?_)
  exact jr_zret C0 hr2 (vr_nz g3) dX10_isPlot_13
theorem dX10_isRule_0 : decode cX10_isRule 0 = .ok (.iload_n 1, 1) := by decide +kernel
theorem dX10_isRule_1 : decode cX10_isRule 1 = .ok (.iconst 0, 1) := by decide +kernel
theorem dX10_isRule_2 : decode cX10_isRule 2 = .ok (.aload_n 0, 1) := by decide +kernel
theorem dX10_isRule_3 : decode cX10_isRule 3 = .ok (.getfield 9, 3) := by decide +kernel
theorem dX10_isRule_6 : decode cX10_isRule 6 = .ok (.iconst 1, 1) := by decide +kernel
theorem dX10_isRule_7 : decode cX10_isRule 7 = .ok (.iaload, 1) := by decide +kernel
theorem dX10_isRule_8 : decode cX10_isRule 8 = .ok (.iconst 1, 1) := by decide +kernel
theorem dX10_isRule_9 : decode cX10_isRule 9 = .ok (.isub, 1) := by decide +kernel
theorem dX10_isRule_10 : decode cX10_isRule 10 = .ok (.invokestatic 44, 3) := by decide +kernel
theorem dX10_isRule_13 : decode cX10_isRule 13 = .ok (.ireturn, 1) := by decide +kernel
def fX10_isRule (a0 : Int) (μ : vr_M) : Option (Int × vr_M) :=
  vr_gd (vr_R ((μ 69 1) - 1)) ((fX10_in a0 0 ((μ 69 1) - 1) μ).bind (fun r2 => vr_gd (r2.1 = 0 ∨ r2.1 = 1) (some (r2.1, r2.2))))
set_option maxRecDepth 100000 in
set_option maxHeartbeats 4000000 in
theorem ct_X10_isRule (l : Launch) (G : vr_G) (a0 : Int) (h_a0 : vr_R a0) (μ : vr_M) : vr_CI l yX10_isRule cX10_isRule 2 (some .boolean) ({ frames := 1, cells := 0, slots := 0, locals := 22 } : Room) G [.ref (vr_ad G 68), .int (vr_I a0)] μ (fX10_isRule a0 μ) := by
  refine vr_start (own := RX10) (by decide) rfl (Nat.le_of_ble_eq_true rfl) (fun p e s m args below meth c C0 => ?_)
  show vr_J p l e _ s m args below meth c 2 0 0 G (vr_Z (vr_QI G) G args s below) 0 [(0, .ref (vr_ad G 68)), (1, .int (vr_I a0))] [] μ _
  unfold fX10_isRule
  refine jr_iload_n C0 1 dX10_isRule_0 rfl rfl ?_
  refine jr_iconst C0 dX10_isRule_1 ?_
  refine jr_aload_n C0 0 dX10_isRule_2 rfl rfl ?_
  refine jr_getr C0 (by decide) kd_68 (by decide) rfl wx_X10 (i := 1) (by decide) wf_X10_9 (j := 69) rfl dX10_isRule_3 ?_
  refine jr_iconst C0 dX10_isRule_6 ?_
  refine jr_iald C0 (by decide) kd_69 kl_69 (by decide) (j := 1) rfl dX10_isRule_7 ?_
  refine jr_iconst C0 dX10_isRule_8 ?_
  refine jr_isub C0 dX10_isRule_9 ?_
  refine jr_gd (fun g1 => ?_)
  refine jr_sI C0 (ct_X10_in l G a0 h_a0 0 (⟨by decide, by decide⟩) ((μ 69 1) - 1) g1 _) mi_X10_in wm_X10_44 ⟨Nat.le_of_ble_eq_true rfl, Nat.le_of_ble_eq_true rfl⟩ ⟨rfl, rfl⟩ (As := [.int (vr_I a0), .int (vr_I 0), .int (vr_I ((μ 69 1) - 1))]) rfl (st := []) rfl (Nat.le_of_ble_eq_true rfl) dX10_isRule_10 (fun r2 hr2 => ?_)
  refine jr_gd (fun g3 => ?_)
  exact jr_zret C0 hr2 (vr_nz g3) dX10_isRule_13
theorem dX10_size_0 : decode cX10_size 0 = .ok (.iload_n 0, 1) := by decide +kernel
theorem dX10_size_1 : decode cX10_size 1 = .ok (.ifCond .ge 8, 3) := by decide +kernel
theorem dX10_size_4 : decode cX10_size 4 = .ok (.iload_n 0, 1) := by decide +kernel
theorem dX10_size_5 : decode cX10_size 5 = .ok (.ineg, 1) := by decide +kernel
theorem dX10_size_6 : decode cX10_size 6 = .ok (.goto 4, 3) := by decide +kernel
theorem dX10_size_9 : decode cX10_size 9 = .ok (.iload_n 0, 1) := by decide +kernel
theorem dX10_size_10 : decode cX10_size 10 = .ok (.ireturn, 1) := by decide +kernel
def fX10_size_B10 (y0 : Int) (μ : vr_M) : Option (Int × vr_M) :=
  some (y0, μ)
def fX10_size (a0 : Int) (μ : vr_M) : Option (Int × vr_M) :=
  if 0 ≤ a0 then fX10_size_B10 a0 μ else vr_gd (vr_R (-a0)) (fX10_size_B10 (-a0) μ)
set_option maxRecDepth 100000 in
set_option maxHeartbeats 4000000 in
theorem ct_X10_size (l : Launch) (G : vr_G) (a0 : Int) (h_a0 : vr_R a0) (μ : vr_M) : vr_CI l yX10_size cX10_size 1 (some .int) ({ frames := 0, cells := 0, slots := 0, locals := 0 } : Room) G [.int (vr_I a0)] μ (fX10_size a0 μ) := by
  refine vr_start (own := RX10) (by decide) rfl (Nat.le_of_ble_eq_true rfl) (fun p e s m args below meth c C0 => ?_)
  show vr_J p l e _ s m args below meth c 1 0 0 G (vr_Z (vr_QI G) G args s below) 0 [(0, .int (vr_I a0))] [] μ _
  have B10 : ∀ (y0 : Int) (h_y0 : vr_R y0) (μ : vr_M), vr_J p l e ({ frames := 0, cells := 0, slots := 0, locals := 0 } : Room) s m args below meth c 1 0 0 G (vr_Z (vr_QI G) G args s below) 10 [] [.int (vr_I y0)] μ (fX10_size_B10 y0 μ) := by
    intro y0 h_y0 μ
    unfold fX10_size_B10
    exact jr_iret C0 h_y0 dX10_size_10
  unfold fX10_size
  refine jr_iload_n C0 0 dX10_size_0 rfl rfl ?_
  refine jr_if_ge C0 h_a0 dX10_size_1 (tgt := 9) (by decide) ?_ ?_
  · refine jr_iload_n C0 0 dX10_size_9 rfl rfl ?_
    refine jr_sub [] rfl ?_
    exact B10 a0 h_a0 _
  refine jr_iload_n C0 0 dX10_size_4 rfl rfl ?_
  refine jr_ineg C0 dX10_size_5 ?_
  refine jr_goto C0 dX10_size_6 (tgt := 10) (by decide) ?_
  refine jr_gd (fun g1 => ?_)
  refine jr_sub [] rfl ?_
  exact B10 (-a0) g1 _
theorem dX10_count1_0 : decode cX10_count1 0 = .ok (.iconst 0, 1) := by decide +kernel
theorem dX10_count1_1 : decode cX10_count1 1 = .ok (.istore_n 1, 1) := by decide +kernel
theorem dX10_count1_2 : decode cX10_count1 2 = .ok (.iconst 0, 1) := by decide +kernel
theorem dX10_count1_3 : decode cX10_count1 3 = .ok (.istore_n 2, 1) := by decide +kernel
theorem dX10_count1_4 : decode cX10_count1 4 = .ok (.iload_n 2, 1) := by decide +kernel
theorem dX10_count1_5 : decode cX10_count1 5 = .ok (.bipush 8, 2) := by decide +kernel
theorem dX10_count1_7 : decode cX10_count1 7 = .ok (.if_icmp .ge 17, 3) := by decide +kernel
theorem dX10_count1_10 : decode cX10_count1 10 = .ok (.iload_n 1, 1) := by decide +kernel
theorem dX10_count1_11 : decode cX10_count1 11 = .ok (.iload_n 0, 1) := by decide +kernel
theorem dX10_count1_12 : decode cX10_count1 12 = .ok (.iload_n 2, 1) := by decide +kernel
theorem dX10_count1_13 : decode cX10_count1 13 = .ok (.ishr, 1) := by decide +kernel
theorem dX10_count1_14 : decode cX10_count1 14 = .ok (.iconst 1, 1) := by decide +kernel
theorem dX10_count1_15 : decode cX10_count1 15 = .ok (.iand, 1) := by decide +kernel
theorem dX10_count1_16 : decode cX10_count1 16 = .ok (.iadd, 1) := by decide +kernel
theorem dX10_count1_17 : decode cX10_count1 17 = .ok (.istore_n 1, 1) := by decide +kernel
theorem dX10_count1_18 : decode cX10_count1 18 = .ok (.iinc 2 1, 3) := by decide +kernel
theorem dX10_count1_21 : decode cX10_count1 21 = .ok (.goto (-17), 3) := by decide +kernel
theorem dX10_count1_24 : decode cX10_count1 24 = .ok (.iload_n 1, 1) := by decide +kernel
theorem dX10_count1_25 : decode cX10_count1 25 = .ok (.ireturn, 1) := by decide +kernel
def fX10_count1_L4 : Nat → Int → Int → Int → vr_M → Option (Int × vr_M)
  | 0, _, _, _, _ => none
  | n + 1, x0, x1, x2, μ => if 8 ≤ x2 then some (x1, μ) else vr_gd (vr_R (x1 + (vr_and (vr_shr x0 x2) 1))) (vr_gd (vr_R (x2 + 1)) ((fX10_count1_L4 n) x0 (x1 + (vr_and (vr_shr x0 x2) 1)) (x2 + 1) μ))
def fX10_count1 (a0 : Int) (μ : vr_M) : Option (Int × vr_M) :=
  fX10_count1_L4 9000 a0 0 0 μ
set_option maxRecDepth 100000 in
set_option maxHeartbeats 4000000 in
theorem ct_X10_count1 (l : Launch) (G : vr_G) (a0 : Int) (h_a0 : vr_R a0) (μ : vr_M) : vr_CI l yX10_count1 cX10_count1 3 (some .int) ({ frames := 0, cells := 0, slots := 0, locals := 0 } : Room) G [.int (vr_I a0)] μ (fX10_count1 a0 μ) := by
  refine vr_start (own := RX10) (by decide) rfl (Nat.le_of_ble_eq_true rfl) (fun p e s m args below meth c C0 => ?_)
  show vr_J p l e _ s m args below meth c 3 0 0 G (vr_Z (vr_QI G) G args s below) 0 [(0, .int (vr_I a0))] [] μ _
  have L4 : ∀ (n : Nat) (x0 : Int) (h_x0 : vr_R x0) (x1 : Int) (h_x1 : vr_R x1) (x2 : Int) (h_x2 : vr_R x2) (μ : vr_M), vr_J p l e ({ frames := 0, cells := 0, slots := 0, locals := 0 } : Room) s m args below meth c 3 0 0 G (vr_Z (vr_QI G) G args s below) 4 [(0, .int (vr_I x0)), (1, .int (vr_I x1)), (2, .int (vr_I x2))] [] μ (fX10_count1_L4 n x0 x1 x2 μ) := by
    intro n4
    induction n4 with
    | zero => intros; exact jr_none
    | succ n4 ih4 =>
      intro x0 h_x0 x1 h_x1 x2 h_x2 μ
      rw [fX10_count1_L4.eq_2]
      refine jr_iload_n C0 2 dX10_count1_4 rfl rfl ?_
      refine jr_bipush C0 dX10_count1_5 rfl ?_
      refine jr_icmp_ge C0 h_x2 (⟨by decide, by decide⟩) dX10_count1_7 (tgt := 24) (by decide) ?_ ?_
      · refine jr_iload_n C0 1 dX10_count1_24 rfl rfl ?_
        exact jr_iret C0 h_x1 dX10_count1_25
      refine jr_iload_n C0 1 dX10_count1_10 rfl rfl ?_
      refine jr_iload_n C0 0 dX10_count1_11 rfl rfl ?_
      refine jr_iload_n C0 2 dX10_count1_12 rfl rfl ?_
      refine jr_ishr C0 dX10_count1_13 ?_
      refine jr_iconst C0 dX10_count1_14 ?_
      refine jr_iand C0 dX10_count1_15 ?_
      refine jr_iadd C0 dX10_count1_16 ?_
      refine jr_istore_n C0 dX10_count1_17 rfl (by decide) (lv' := [(1, .int (vr_I (x1 + (vr_and (vr_shr x0 x2) 1)))), (0, .int (vr_I x0)), (2, .int (vr_I x2))]) rfl ?_
      refine jr_iinc C0 (q := 2) dX10_count1_18 rfl (by decide) (lv' := [(2, .int (vr_I (x2 + 1))), (1, .int (vr_I (x1 + (vr_and (vr_shr x0 x2) 1)))), (0, .int (vr_I x0))]) rfl ?_
      refine jr_goto C0 dX10_count1_21 (tgt := 4) (by decide) ?_
      refine jr_gd (fun g1 => ?_)
      refine jr_gd (fun g2 => ?_)
      refine jr_sub [2, 1, 0] rfl ?_
      exact ih4 x0 h_x0 (x1 + (vr_and (vr_shr x0 x2) 1)) g1 (x2 + 1) g2 _
  unfold fX10_count1
  refine jr_iconst C0 dX10_count1_0 ?_
  refine jr_istore_n C0 dX10_count1_1 rfl (by decide) (lv' := [(1, .int (vr_I 0)), (0, .int (vr_I a0))]) rfl ?_
  refine jr_iconst C0 dX10_count1_2 ?_
  refine jr_istore_n C0 dX10_count1_3 rfl (by decide) (lv' := [(2, .int (vr_I 0)), (1, .int (vr_I 0)), (0, .int (vr_I a0))]) rfl ?_
  refine jr_sub [2, 1, 0] rfl ?_
  exact L4 9000 a0 h_a0 0 (⟨by decide, by decide⟩) 0 (⟨by decide, by decide⟩) _
theorem dX10_keeps_0 : decode cX10_keeps 0 = .ok (.iconst 0, 1) := by decide +kernel
theorem dX10_keeps_1 : decode cX10_keeps 1 = .ok (.istore_n 1, 1) := by decide +kernel
theorem dX10_keeps_2 : decode cX10_keeps 2 = .ok (.iload_n 1, 1) := by decide +kernel
theorem dX10_keeps_3 : decode cX10_keeps 3 = .ok (.sipush 933, 3) := by decide +kernel
theorem dX10_keeps_6 : decode cX10_keeps 6 = .ok (.if_icmp .ge 21, 3) := by decide +kernel
theorem dX10_keeps_9 : decode cX10_keeps 9 = .ok (.aload_n 0, 1) := by decide +kernel
theorem dX10_keeps_10 : decode cX10_keeps 10 = .ok (.getfield 18, 3) := by decide +kernel
theorem dX10_keeps_13 : decode cX10_keeps 13 = .ok (.iload_n 1, 1) := by decide +kernel
theorem dX10_keeps_14 : decode cX10_keeps 14 = .ok (.aload_n 0, 1) := by decide +kernel
theorem dX10_keeps_15 : decode cX10_keeps 15 = .ok (.getfield 9, 3) := by decide +kernel
theorem dX10_keeps_18 : decode cX10_keeps 18 = .ok (.iload_n 1, 1) := by decide +kernel
theorem dX10_keeps_19 : decode cX10_keeps 19 = .ok (.iaload, 1) := by decide +kernel
theorem dX10_keeps_20 : decode cX10_keeps 20 = .ok (.iastore, 1) := by decide +kernel
theorem dX10_keeps_21 : decode cX10_keeps 21 = .ok (.iinc 1 1, 3) := by decide +kernel
theorem dX10_keeps_24 : decode cX10_keeps 24 = .ok (.goto (-22), 3) := by decide +kernel
theorem dX10_keeps_27 : decode cX10_keeps 27 = .ok (.return_, 1) := by decide +kernel
def fX10_keeps_L2 : Nat → Int → vr_M → Option (Int × vr_M)
  | 0, _, _ => none
  | n + 1, x1, μ => if 933 ≤ x1 then some (0, μ) else vr_gd (0 ≤ x1 ∧ x1 < 933) (vr_gd (vr_R (x1 + 1)) ((fX10_keeps_L2 n) (x1 + 1) (vr_u μ 71 x1.toNat (μ 69 x1.toNat))))
def fX10_keeps (μ : vr_M) : Option (Int × vr_M) :=
  fX10_keeps_L2 9000 0 μ
set_option maxRecDepth 100000 in
set_option maxHeartbeats 4000000 in
theorem ct_X10_keeps (l : Launch) (G : vr_G) (μ : vr_M) : vr_CV l yX10_keeps cX10_keeps 2 none ({ frames := 0, cells := 0, slots := 0, locals := 0 } : Room) G [.ref (vr_ad G 68)] μ (fX10_keeps μ) := by
  refine vr_start (own := RX10) (by decide) rfl (Nat.le_of_ble_eq_true rfl) (fun p e s m args below meth c C0 => ?_)
  show vr_J p l e _ s m args below meth c 2 0 0 G (vr_Z (vr_QV G) G args s below) 0 [(0, .ref (vr_ad G 68))] [] μ _
  have L2 : ∀ (n : Nat) (x1 : Int) (h_x1 : vr_R x1) (μ : vr_M), vr_J p l e ({ frames := 0, cells := 0, slots := 0, locals := 0 } : Room) s m args below meth c 2 0 0 G (vr_Z (vr_QV G) G args s below) 2 [(0, .ref (vr_ad G 68)), (1, .int (vr_I x1))] [] μ (fX10_keeps_L2 n x1 μ) := by
    intro n2
    induction n2 with
    | zero => intros; exact jr_none
    | succ n2 ih2 =>
      intro x1 h_x1 μ
      rw [fX10_keeps_L2.eq_2]
      refine jr_iload_n C0 1 dX10_keeps_2 rfl rfl ?_
      refine jr_sipush C0 dX10_keeps_3 rfl ?_
      refine jr_icmp_ge C0 h_x1 (⟨by decide, by decide⟩) dX10_keeps_6 (tgt := 27) (by decide) ?_ ?_
      · exact jr_vret C0 dX10_keeps_27
      refine jr_aload_n C0 0 dX10_keeps_9 rfl rfl ?_
      refine jr_getr C0 (by decide) kd_68 (by decide) rfl wx_X10 (i := 3) (by decide) wf_X10_18 (j := 71) rfl dX10_keeps_10 ?_
      refine jr_iload_n C0 1 dX10_keeps_13 rfl rfl ?_
      refine jr_aload_n C0 0 dX10_keeps_14 rfl rfl ?_
      refine jr_getr C0 (by decide) kd_68 (by decide) rfl wx_X10 (i := 1) (by decide) wf_X10_9 (j := 69) rfl dX10_keeps_15 ?_
      refine jr_iload_n C0 1 dX10_keeps_18 rfl rfl ?_
      refine jr_gd (fun g1 => ?_)
      refine jr_iald C0 (by decide) kd_69 kl_69 g1 (j := x1.toNat) rfl dX10_keeps_19 ?_
      refine jr_iast C0 (by decide) kd_71 kl_71 g1 (j := x1.toNat) rfl dX10_keeps_20 ?_
      refine jr_iinc C0 (q := 1) dX10_keeps_21 rfl (by decide) (lv' := [(1, .int (vr_I (x1 + 1))), (0, .ref (vr_ad G 68))]) rfl ?_
      refine jr_goto C0 dX10_keeps_24 (tgt := 2) (by decide) ?_
      refine jr_gd (fun g2 => ?_)
      refine jr_sub [1, 0] rfl ?_
      exact ih2 (x1 + 1) g2 _
  unfold fX10_keeps
  refine jr_iconst C0 dX10_keeps_0 ?_
  refine jr_istore_n C0 dX10_keeps_1 rfl (by decide) (lv' := [(1, .int (vr_I 0)), (0, .ref (vr_ad G 68))]) rfl ?_
  refine jr_sub [1, 0] rfl ?_
  exact L2 9000 0 (⟨by decide, by decide⟩) _
theorem dX10_putsBack_0 : decode cX10_putsBack 0 = .ok (.iconst 0, 1) := by decide +kernel
theorem dX10_putsBack_1 : decode cX10_putsBack 1 = .ok (.istore_n 1, 1) := by decide +kernel
theorem dX10_putsBack_2 : decode cX10_putsBack 2 = .ok (.iload_n 1, 1) := by decide +kernel
theorem dX10_putsBack_3 : decode cX10_putsBack 3 = .ok (.sipush 933, 3) := by decide +kernel
theorem dX10_putsBack_6 : decode cX10_putsBack 6 = .ok (.if_icmp .ge 21, 3) := by decide +kernel
theorem dX10_putsBack_9 : decode cX10_putsBack 9 = .ok (.aload_n 0, 1) := by decide +kernel
theorem dX10_putsBack_10 : decode cX10_putsBack 10 = .ok (.getfield 9, 3) := by decide +kernel
theorem dX10_putsBack_13 : decode cX10_putsBack 13 = .ok (.iload_n 1, 1) := by decide +kernel
theorem dX10_putsBack_14 : decode cX10_putsBack 14 = .ok (.aload_n 0, 1) := by decide +kernel
theorem dX10_putsBack_15 : decode cX10_putsBack 15 = .ok (.getfield 18, 3) := by decide +kernel
theorem dX10_putsBack_18 : decode cX10_putsBack 18 = .ok (.iload_n 1, 1) := by decide +kernel
theorem dX10_putsBack_19 : decode cX10_putsBack 19 = .ok (.iaload, 1) := by decide +kernel
theorem dX10_putsBack_20 : decode cX10_putsBack 20 = .ok (.iastore, 1) := by decide +kernel
theorem dX10_putsBack_21 : decode cX10_putsBack 21 = .ok (.iinc 1 1, 3) := by decide +kernel
theorem dX10_putsBack_24 : decode cX10_putsBack 24 = .ok (.goto (-22), 3) := by decide +kernel
theorem dX10_putsBack_27 : decode cX10_putsBack 27 = .ok (.return_, 1) := by decide +kernel
def fX10_putsBack_L2 : Nat → Int → vr_M → Option (Int × vr_M)
  | 0, _, _ => none
  | n + 1, x1, μ => if 933 ≤ x1 then some (0, μ) else vr_gd (0 ≤ x1 ∧ x1 < 933) (vr_gd (vr_R (x1 + 1)) ((fX10_putsBack_L2 n) (x1 + 1) (vr_u μ 69 x1.toNat (μ 71 x1.toNat))))
def fX10_putsBack (μ : vr_M) : Option (Int × vr_M) :=
  fX10_putsBack_L2 9000 0 μ
set_option maxRecDepth 100000 in
set_option maxHeartbeats 4000000 in
theorem ct_X10_putsBack (l : Launch) (G : vr_G) (μ : vr_M) : vr_CV l yX10_putsBack cX10_putsBack 2 none ({ frames := 0, cells := 0, slots := 0, locals := 0 } : Room) G [.ref (vr_ad G 68)] μ (fX10_putsBack μ) := by
  refine vr_start (own := RX10) (by decide) rfl (Nat.le_of_ble_eq_true rfl) (fun p e s m args below meth c C0 => ?_)
  show vr_J p l e _ s m args below meth c 2 0 0 G (vr_Z (vr_QV G) G args s below) 0 [(0, .ref (vr_ad G 68))] [] μ _
  have L2 : ∀ (n : Nat) (x1 : Int) (h_x1 : vr_R x1) (μ : vr_M), vr_J p l e ({ frames := 0, cells := 0, slots := 0, locals := 0 } : Room) s m args below meth c 2 0 0 G (vr_Z (vr_QV G) G args s below) 2 [(0, .ref (vr_ad G 68)), (1, .int (vr_I x1))] [] μ (fX10_putsBack_L2 n x1 μ) := by
    intro n2
    induction n2 with
    | zero => intros; exact jr_none
    | succ n2 ih2 =>
      intro x1 h_x1 μ
      rw [fX10_putsBack_L2.eq_2]
      refine jr_iload_n C0 1 dX10_putsBack_2 rfl rfl ?_
      refine jr_sipush C0 dX10_putsBack_3 rfl ?_
      refine jr_icmp_ge C0 h_x1 (⟨by decide, by decide⟩) dX10_putsBack_6 (tgt := 27) (by decide) ?_ ?_
      · exact jr_vret C0 dX10_putsBack_27
      refine jr_aload_n C0 0 dX10_putsBack_9 rfl rfl ?_
      refine jr_getr C0 (by decide) kd_68 (by decide) rfl wx_X10 (i := 1) (by decide) wf_X10_9 (j := 69) rfl dX10_putsBack_10 ?_
      refine jr_iload_n C0 1 dX10_putsBack_13 rfl rfl ?_
      refine jr_aload_n C0 0 dX10_putsBack_14 rfl rfl ?_
      refine jr_getr C0 (by decide) kd_68 (by decide) rfl wx_X10 (i := 3) (by decide) wf_X10_18 (j := 71) rfl dX10_putsBack_15 ?_
      refine jr_iload_n C0 1 dX10_putsBack_18 rfl rfl ?_
      refine jr_gd (fun g1 => ?_)
      refine jr_iald C0 (by decide) kd_71 kl_71 g1 (j := x1.toNat) rfl dX10_putsBack_19 ?_
      refine jr_iast C0 (by decide) kd_69 kl_69 g1 (j := x1.toNat) rfl dX10_putsBack_20 ?_
      refine jr_iinc C0 (q := 1) dX10_putsBack_21 rfl (by decide) (lv' := [(1, .int (vr_I (x1 + 1))), (0, .ref (vr_ad G 68))]) rfl ?_
      refine jr_goto C0 dX10_putsBack_24 (tgt := 2) (by decide) ?_
      refine jr_gd (fun g2 => ?_)
      refine jr_sub [1, 0] rfl ?_
      exact ih2 (x1 + 1) g2 _
  unfold fX10_putsBack
  refine jr_iconst C0 dX10_putsBack_0 ?_
  refine jr_istore_n C0 dX10_putsBack_1 rfl (by decide) (lv' := [(1, .int (vr_I 0)), (0, .ref (vr_ad G 68))]) rfl ?_
  refine jr_sub [1, 0] rfl ?_
  exact L2 9000 0 (⟨by decide, by decide⟩) _
theorem dX10_plot_0 : decode cX10_plot 0 = .ok (.iload_n 1, 1) := by decide +kernel
theorem dX10_plot_1 : decode cX10_plot 1 = .ok (.iconst 0, 1) := by decide +kernel
theorem dX10_plot_2 : decode cX10_plot 2 = .ok (.iconst 3, 1) := by decide +kernel
theorem dX10_plot_3 : decode cX10_plot 3 = .ok (.invokestatic 44, 3) := by decide +kernel
theorem dX10_plot_6 : decode cX10_plot 6 = .ok (.ifCond .eq 13, 3) := by decide +kernel
theorem dX10_plot_9 : decode cX10_plot 9 = .ok (.iload_n 2, 1) := by decide +kernel
theorem dX10_plot_10 : decode cX10_plot 10 = .ok (.iconst 0, 1) := by decide +kernel
theorem dX10_plot_11 : decode cX10_plot 11 = .ok (.bipush 40, 2) := by decide +kernel
theorem dX10_plot_13 : decode cX10_plot 13 = .ok (.invokestatic 44, 3) := by decide +kernel
theorem dX10_plot_16 : decode cX10_plot 16 = .ok (.ifCond .ne 6, 3) := by decide +kernel
theorem dX10_plot_19 : decode cX10_plot 19 = .ok (.bipush (-2), 2) := by decide +kernel
theorem dX10_plot_21 : decode cX10_plot 21 = .ok (.ireturn, 1) := by decide +kernel
theorem dX10_plot_22 : decode cX10_plot 22 = .ok (.aload_n 0, 1) := by decide +kernel
theorem dX10_plot_23 : decode cX10_plot 23 = .ok (.getfield 9, 3) := by decide +kernel
theorem dX10_plot_26 : decode cX10_plot 26 = .ok (.iconst 0, 1) := by decide +kernel
theorem dX10_plot_27 : decode cX10_plot 27 = .ok (.iaload, 1) := by decide +kernel
theorem dX10_plot_28 : decode cX10_plot 28 = .ok (.bipush 8, 2) := by decide +kernel
theorem dX10_plot_30 : decode cX10_plot 30 = .ok (.if_icmp .ne 6, 3) := by decide +kernel
theorem dX10_plot_33 : decode cX10_plot 33 = .ok (.bipush (-4), 2) := by decide +kernel
theorem dX10_plot_35 : decode cX10_plot 35 = .ok (.ireturn, 1) := by decide +kernel
theorem dX10_plot_36 : decode cX10_plot 36 = .ok (.aload_n 0, 1) := by decide +kernel
theorem dX10_plot_37 : decode cX10_plot 37 = .ok (.getfield 9, 3) := by decide +kernel
theorem dX10_plot_40 : decode cX10_plot 40 = .ok (.iconst 0, 1) := by decide +kernel
theorem dX10_plot_41 : decode cX10_plot 41 = .ok (.iaload, 1) := by decide +kernel
theorem dX10_plot_42 : decode cX10_plot 42 = .ok (.istore_n 3, 1) := by decide +kernel
theorem dX10_plot_43 : decode cX10_plot 43 = .ok (.aload_n 0, 1) := by decide +kernel
theorem dX10_plot_44 : decode cX10_plot 44 = .ok (.getfield 9, 3) := by decide +kernel
theorem dX10_plot_47 : decode cX10_plot 47 = .ok (.sipush 130, 3) := by decide +kernel
theorem dX10_plot_50 : decode cX10_plot 50 = .ok (.iload_n 3, 1) := by decide +kernel
theorem dX10_plot_51 : decode cX10_plot 51 = .ok (.iadd, 1) := by decide +kernel
theorem dX10_plot_52 : decode cX10_plot 52 = .ok (.iload_n 1, 1) := by decide +kernel
theorem dX10_plot_53 : decode cX10_plot 53 = .ok (.iastore, 1) := by decide +kernel
theorem dX10_plot_54 : decode cX10_plot 54 = .ok (.aload_n 0, 1) := by decide +kernel
theorem dX10_plot_55 : decode cX10_plot 55 = .ok (.getfield 9, 3) := by decide +kernel
theorem dX10_plot_58 : decode cX10_plot 58 = .ok (.sipush 138, 3) := by decide +kernel
theorem dX10_plot_61 : decode cX10_plot 61 = .ok (.iload_n 3, 1) := by decide +kernel
theorem dX10_plot_62 : decode cX10_plot 62 = .ok (.iadd, 1) := by decide +kernel
theorem dX10_plot_63 : decode cX10_plot 63 = .ok (.iload_n 2, 1) := by decide +kernel
theorem dX10_plot_64 : decode cX10_plot 64 = .ok (.iastore, 1) := by decide +kernel
theorem dX10_plot_65 : decode cX10_plot 65 = .ok (.aload_n 0, 1) := by decide +kernel
theorem dX10_plot_66 : decode cX10_plot 66 = .ok (.getfield 9, 3) := by decide +kernel
theorem dX10_plot_69 : decode cX10_plot 69 = .ok (.sipush 146, 3) := by decide +kernel
theorem dX10_plot_72 : decode cX10_plot 72 = .ok (.iload_n 3, 1) := by decide +kernel
theorem dX10_plot_73 : decode cX10_plot 73 = .ok (.iadd, 1) := by decide +kernel
theorem dX10_plot_74 : decode cX10_plot 74 = .ok (.iconst 0, 1) := by decide +kernel
theorem dX10_plot_75 : decode cX10_plot 75 = .ok (.iastore, 1) := by decide +kernel
theorem dX10_plot_76 : decode cX10_plot 76 = .ok (.aload_n 0, 1) := by decide +kernel
theorem dX10_plot_77 : decode cX10_plot 77 = .ok (.getfield 9, 3) := by decide +kernel
theorem dX10_plot_80 : decode cX10_plot 80 = .ok (.sipush 154, 3) := by decide +kernel
theorem dX10_plot_83 : decode cX10_plot 83 = .ok (.iload_n 3, 1) := by decide +kernel
theorem dX10_plot_84 : decode cX10_plot 84 = .ok (.iadd, 1) := by decide +kernel
theorem dX10_plot_85 : decode cX10_plot 85 = .ok (.bipush 30, 2) := by decide +kernel
theorem dX10_plot_87 : decode cX10_plot 87 = .ok (.iastore, 1) := by decide +kernel
theorem dX10_plot_88 : decode cX10_plot 88 = .ok (.aload_n 0, 1) := by decide +kernel
theorem dX10_plot_89 : decode cX10_plot 89 = .ok (.getfield 9, 3) := by decide +kernel
theorem dX10_plot_92 : decode cX10_plot 92 = .ok (.sipush 162, 3) := by decide +kernel
theorem dX10_plot_95 : decode cX10_plot 95 = .ok (.iload_n 3, 1) := by decide +kernel
theorem dX10_plot_96 : decode cX10_plot 96 = .ok (.iadd, 1) := by decide +kernel
theorem dX10_plot_97 : decode cX10_plot 97 = .ok (.iconst 0, 1) := by decide +kernel
theorem dX10_plot_98 : decode cX10_plot 98 = .ok (.iastore, 1) := by decide +kernel
theorem dX10_plot_99 : decode cX10_plot 99 = .ok (.aload_n 0, 1) := by decide +kernel
theorem dX10_plot_100 : decode cX10_plot 100 = .ok (.getfield 9, 3) := by decide +kernel
theorem dX10_plot_103 : decode cX10_plot 103 = .ok (.iconst 0, 1) := by decide +kernel
theorem dX10_plot_104 : decode cX10_plot 104 = .ok (.dup2, 1) := by decide +kernel
theorem dX10_plot_105 : decode cX10_plot 105 = .ok (.iaload, 1) := by decide +kernel
theorem dX10_plot_106 : decode cX10_plot 106 = .ok (.iconst 1, 1) := by decide +kernel
theorem dX10_plot_107 : decode cX10_plot 107 = .ok (.iadd, 1) := by decide +kernel
theorem dX10_plot_108 : decode cX10_plot 108 = .ok (.iastore, 1) := by decide +kernel
theorem dX10_plot_109 : decode cX10_plot 109 = .ok (.iload_n 3, 1) := by decide +kernel
theorem dX10_plot_110 : decode cX10_plot 110 = .ok (.ireturn, 1) := by decide +kernel
def fX10_plot_B19 (μ : vr_M) : Option (Int × vr_M) :=
  some ((-2), μ)
def fX10_plot (a0 : Int) (a1 : Int) (μ : vr_M) : Option (Int × vr_M) :=
  (fX10_in a0 0 3 μ).bind (fun r1 => if r1.1 = 0 then fX10_plot_B19 r1.2 else (fX10_in a1 0 40 r1.2).bind (fun r2 => if ¬ r2.1 = 0 then vr_gd (vr_R (r2.2 69 0)) (if ¬ (r2.2 69 0) = 8 then vr_gd (0 ≤ (130 + (r2.2 69 0)) ∧ (130 + (r2.2 69 0)) < 933) (vr_gd (0 ≤ (138 + (r2.2 69 0)) ∧ (138 + (r2.2 69 0)) < 933) (vr_gd (0 ≤ (146 + (r2.2 69 0)) ∧ (146 + (r2.2 69 0)) < 933) (vr_gd (0 ≤ (154 + (r2.2 69 0)) ∧ (154 + (r2.2 69 0)) < 933) (vr_gd (0 ≤ (162 + (r2.2 69 0)) ∧ (162 + (r2.2 69 0)) < 933) (vr_let (vr_u (vr_u (vr_u (vr_u (vr_u r2.2 69 (130 + (r2.2 69 0)).toNat a0) 69 (138 + (r2.2 69 0)).toNat a1) 69 (146 + (r2.2 69 0)).toNat 0) 69 (154 + (r2.2 69 0)).toNat 30) 69 (162 + (r2.2 69 0)).toNat 0) (fun μ9 => some (r2.2 69 0, vr_u μ9 69 0 ((μ9 69 0) + 1)))))))) else some ((-4), r2.2)) else fX10_plot_B19 r2.2))
set_option maxRecDepth 100000 in
set_option maxHeartbeats 4000000 in
theorem ct_X10_plot (l : Launch) (G : vr_G) (a0 : Int) (h_a0 : vr_R a0) (a1 : Int) (h_a1 : vr_R a1) (μ : vr_M) : vr_CI l yX10_plot cX10_plot 4 (some .int) ({ frames := 1, cells := 0, slots := 0, locals := 22 } : Room) G [.ref (vr_ad G 68), .int (vr_I a0), .int (vr_I a1)] μ (fX10_plot a0 a1 μ) := by
  refine vr_start (own := RX10) (by decide) rfl (Nat.le_of_ble_eq_true rfl) (fun p e s m args below meth c C0 => ?_)
  show vr_J p l e _ s m args below meth c 4 0 0 G (vr_Z (vr_QI G) G args s below) 0 [(0, .ref (vr_ad G 68)), (1, .int (vr_I a0)), (2, .int (vr_I a1))] [] μ _
  have B19 : ∀ (μ : vr_M), vr_J p l e ({ frames := 1, cells := 0, slots := 0, locals := 22 } : Room) s m args below meth c 4 0 0 G (vr_Z (vr_QI G) G args s below) 19 [] [] μ (fX10_plot_B19 μ) := by
    intro μ
    unfold fX10_plot_B19
    refine jr_bipush C0 dX10_plot_19 rfl ?_
    exact jr_iret C0 (⟨by decide, by decide⟩) dX10_plot_21
  unfold fX10_plot
  refine jr_iload_n C0 1 dX10_plot_0 rfl rfl ?_
  refine jr_iconst C0 dX10_plot_1 ?_
  refine jr_iconst C0 dX10_plot_2 ?_
  refine jr_sI C0 (ct_X10_in l G a0 h_a0 0 (⟨by decide, by decide⟩) 3 (⟨by decide, by decide⟩) _) mi_X10_in wm_X10_44 ⟨Nat.le_of_ble_eq_true rfl, Nat.le_of_ble_eq_true rfl⟩ ⟨rfl, rfl⟩ (As := [.int (vr_I a0), .int (vr_I 0), .int (vr_I 3)]) rfl (st := []) rfl (Nat.le_of_ble_eq_true rfl) dX10_plot_3 (fun r1 hr1 => ?_)
  refine jr_if_eq C0 hr1 dX10_plot_6 (tgt := 19) (by decide) ?_ ?_
  · refine jr_sub [] rfl ?_
    exact B19 _
  refine jr_iload_n C0 2 dX10_plot_9 rfl rfl ?_
  refine jr_iconst C0 dX10_plot_10 ?_
  refine jr_bipush C0 dX10_plot_11 rfl ?_
  refine jr_sI C0 (ct_X10_in l G a1 h_a1 0 (⟨by decide, by decide⟩) 40 (⟨by decide, by decide⟩) _) mi_X10_in wm_X10_44 ⟨Nat.le_of_ble_eq_true rfl, Nat.le_of_ble_eq_true rfl⟩ ⟨rfl, rfl⟩ (As := [.int (vr_I a1), .int (vr_I 0), .int (vr_I 40)]) rfl (st := []) rfl (Nat.le_of_ble_eq_true rfl) dX10_plot_13 (fun r2 hr2 => ?_)
  refine jr_if_ne C0 hr2 dX10_plot_16 (tgt := 22) (by decide) ?_ ?_
  · refine jr_aload_n C0 0 dX10_plot_22 rfl rfl ?_
    refine jr_getr C0 (by decide) kd_68 (by decide) rfl wx_X10 (i := 1) (by decide) wf_X10_9 (j := 69) rfl dX10_plot_23 ?_
    refine jr_iconst C0 dX10_plot_26 ?_
    refine jr_iald C0 (by decide) kd_69 kl_69 (by decide) (j := 0) rfl dX10_plot_27 ?_
    refine jr_bipush C0 dX10_plot_28 rfl ?_
    refine jr_gd (fun g3 => ?_)
    refine jr_icmp_ne C0 g3 (⟨by decide, by decide⟩) dX10_plot_30 (tgt := 36) (by decide) ?_ ?_
    · refine jr_aload_n C0 0 dX10_plot_36 rfl rfl ?_
      refine jr_getr C0 (by decide) kd_68 (by decide) rfl wx_X10 (i := 1) (by decide) wf_X10_9 (j := 69) rfl dX10_plot_37 ?_
      refine jr_iconst C0 dX10_plot_40 ?_
      refine jr_iald C0 (by decide) kd_69 kl_69 (by decide) (j := 0) rfl dX10_plot_41 ?_
      refine jr_istore_n C0 dX10_plot_42 rfl (by decide) (lv' := [(3, .int (vr_I (r2.2 69 0))), (0, .ref (vr_ad G 68)), (1, .int (vr_I a0)), (2, .int (vr_I a1))]) rfl ?_
      refine jr_aload_n C0 1 dX10_plot_43 rfl rfl ?_
      refine jr_getr C0 (by decide) kd_68 (by decide) rfl wx_X10 (i := 1) (by decide) wf_X10_9 (j := 69) rfl dX10_plot_44 ?_
      refine jr_sipush C0 dX10_plot_47 rfl ?_
      refine jr_iload_n C0 0 dX10_plot_50 rfl rfl ?_
      refine jr_iadd C0 dX10_plot_51 ?_
      refine jr_iload_n C0 2 dX10_plot_52 rfl rfl ?_
      refine jr_gd (fun g4 => ?_)
      refine jr_iast C0 (by decide) kd_69 kl_69 g4 (j := (130 + (r2.2 69 0)).toNat) rfl dX10_plot_53 ?_
      refine jr_aload_n C0 1 dX10_plot_54 rfl rfl ?_
      refine jr_getr C0 (by decide) kd_68 (by decide) rfl wx_X10 (i := 1) (by decide) wf_X10_9 (j := 69) rfl dX10_plot_55 ?_
      refine jr_sipush C0 dX10_plot_58 rfl ?_
      refine jr_iload_n C0 0 dX10_plot_61 rfl rfl ?_
      refine jr_iadd C0 dX10_plot_62 ?_
      refine jr_iload_n C0 3 dX10_plot_63 rfl rfl ?_
      refine jr_gd (fun g5 => ?_)
      refine jr_iast C0 (by decide) kd_69 kl_69 g5 (j := (138 + (r2.2 69 0)).toNat) rfl dX10_plot_64 ?_
      refine jr_aload_n C0 1 dX10_plot_65 rfl rfl ?_
      refine jr_getr C0 (by decide) kd_68 (by decide) rfl wx_X10 (i := 1) (by decide) wf_X10_9 (j := 69) rfl dX10_plot_66 ?_
      refine jr_sipush C0 dX10_plot_69 rfl ?_
      refine jr_iload_n C0 0 dX10_plot_72 rfl rfl ?_
      refine jr_iadd C0 dX10_plot_73 ?_
      refine jr_iconst C0 dX10_plot_74 ?_
      refine jr_gd (fun g6 => ?_)
      refine jr_iast C0 (by decide) kd_69 kl_69 g6 (j := (146 + (r2.2 69 0)).toNat) rfl dX10_plot_75 ?_
      refine jr_aload_n C0 1 dX10_plot_76 rfl rfl ?_
      refine jr_getr C0 (by decide) kd_68 (by decide) rfl wx_X10 (i := 1) (by decide) wf_X10_9 (j := 69) rfl dX10_plot_77 ?_
      refine jr_sipush C0 dX10_plot_80 rfl ?_
      refine jr_iload_n C0 0 dX10_plot_83 rfl rfl ?_
      refine jr_iadd C0 dX10_plot_84 ?_
      refine jr_bipush C0 dX10_plot_85 rfl ?_
      refine jr_gd (fun g7 => ?_)
      refine jr_iast C0 (by decide) kd_69 kl_69 g7 (j := (154 + (r2.2 69 0)).toNat) rfl dX10_plot_87 ?_
      refine jr_aload_n C0 1 dX10_plot_88 rfl rfl ?_
      refine jr_getr C0 (by decide) kd_68 (by decide) rfl wx_X10 (i := 1) (by decide) wf_X10_9 (j := 69) rfl dX10_plot_89 ?_
      refine jr_sipush C0 dX10_plot_92 rfl ?_
      refine jr_iload_n C0 0 dX10_plot_95 rfl rfl ?_
      refine jr_iadd C0 dX10_plot_96 ?_
      refine jr_iconst C0 dX10_plot_97 ?_
      refine jr_gd (fun g8 => ?_)
      refine jr_iast C0 (by decide) kd_69 kl_69 g8 (j := (162 + (r2.2 69 0)).toNat) rfl dX10_plot_98 ?_
      refine jr_aload_n C0 1 dX10_plot_99 rfl rfl ?_
      refine jr_getr C0 (by decide) kd_68 (by decide) rfl wx_X10 (i := 1) (by decide) wf_X10_9 (j := 69) rfl dX10_plot_100 ?_
      refine jr_iconst C0 dX10_plot_103 ?_
      refine jr_dup2 C0 rfl rfl dX10_plot_104 ?_
      refine jr_let (fun μ9 => ?_)
      refine jr_iald C0 (by decide) kd_69 kl_69 (by decide) (j := 0) rfl dX10_plot_105 ?_
      refine jr_iconst C0 dX10_plot_106 ?_
      refine jr_iadd C0 dX10_plot_107 ?_
      refine jr_iast C0 (by decide) kd_69 kl_69 (by decide) (j := 0) rfl dX10_plot_108 ?_
      refine jr_iload_n C0 0 dX10_plot_109 rfl rfl ?_
      exact jr_iret C0 g3 dX10_plot_110
    refine jr_bipush C0 dX10_plot_33 rfl ?_
    exact jr_iret C0 (⟨by decide, by decide⟩) dX10_plot_35
  refine jr_sub [] rfl ?_
  exact B19 _
theorem dX10_of_0 : decode cX10_of 0 = .ok (.aload_n 0, 1) := by decide +kernel
theorem dX10_of_1 : decode cX10_of 1 = .ok (.iload_n 1, 1) := by decide +kernel
theorem dX10_of_2 : decode cX10_of 2 = .ok (.invokevirtual 48, 3) := by decide +kernel
theorem dX10_of_5 : decode cX10_of 5 = .ok (.ifCond .eq 30, 3) := by decide +kernel
theorem dX10_of_8 : decode cX10_of 8 = .ok (.iload_n 2, 1) := by decide +kernel
theorem dX10_of_9 : decode cX10_of 9 = .ok (.iconst 0, 1) := by decide +kernel
theorem dX10_of_10 : decode cX10_of 10 = .ok (.iconst 4, 1) := by decide +kernel
theorem dX10_of_11 : decode cX10_of 11 = .ok (.invokestatic 44, 3) := by decide +kernel
theorem dX10_of_14 : decode cX10_of 14 = .ok (.ifCond .eq 21, 3) := by decide +kernel
theorem dX10_of_17 : decode cX10_of 17 = .ok (.aload_n 0, 1) := by decide +kernel
theorem dX10_of_18 : decode cX10_of 18 = .ok (.getfield 9, 3) := by decide +kernel
theorem dX10_of_21 : decode cX10_of 21 = .ok (.sipush 130, 3) := by decide +kernel
theorem dX10_of_24 : decode cX10_of 24 = .ok (.bipush 8, 2) := by decide +kernel
theorem dX10_of_26 : decode cX10_of 26 = .ok (.iload_n 2, 1) := by decide +kernel
theorem dX10_of_27 : decode cX10_of 27 = .ok (.imul, 1) := by decide +kernel
theorem dX10_of_28 : decode cX10_of 28 = .ok (.iadd, 1) := by decide +kernel
theorem dX10_of_29 : decode cX10_of 29 = .ok (.iload_n 1, 1) := by decide +kernel
theorem dX10_of_30 : decode cX10_of 30 = .ok (.iadd, 1) := by decide +kernel
theorem dX10_of_31 : decode cX10_of 31 = .ok (.iaload, 1) := by decide +kernel
theorem dX10_of_32 : decode cX10_of 32 = .ok (.goto 4, 3) := by decide +kernel
theorem dX10_of_35 : decode cX10_of 35 = .ok (.iconst (-1), 1) := by decide +kernel
theorem dX10_of_36 : decode cX10_of 36 = .ok (.ireturn, 1) := by decide +kernel
def fX10_of_B36 (y0 : Int) (μ : vr_M) : Option (Int × vr_M) :=
  some (y0, μ)
def fX10_of_B35 (μ : vr_M) : Option (Int × vr_M) :=
  fX10_of_B36 (-1) μ
def fX10_of (a0 : Int) (a1 : Int) (μ : vr_M) : Option (Int × vr_M) :=
  (fX10_isPlot a0 μ).bind (fun r1 => if r1.1 = 0 then fX10_of_B35 r1.2 else (fX10_in a1 0 4 r1.2).bind (fun r2 => if r2.1 = 0 then fX10_of_B35 r2.2 else vr_gd (0 ≤ ((130 + (8 * a1)) + a0) ∧ ((130 + (8 * a1)) + a0) < 933) (vr_gd (vr_R (r2.2 69 ((130 + (8 * a1)) + a0).toNat)) (fX10_of_B36 (r2.2 69 ((130 + (8 * a1)) + a0).toNat) r2.2))))
set_option maxRecDepth 100000 in
set_option maxHeartbeats 4000000 in
theorem ct_X10_of (l : Launch) (G : vr_G) (a0 : Int) (h_a0 : vr_R a0) (a1 : Int) (h_a1 : vr_R a1) (μ : vr_M) : vr_CI l yX10_of cX10_of 3 (some .int) ({ frames := 2, cells := 0, slots := 0, locals := 43 } : Room) G [.ref (vr_ad G 68), .int (vr_I a0), .int (vr_I a1)] μ (fX10_of a0 a1 μ) := by
  refine vr_start (own := RX10) (by decide) rfl (Nat.le_of_ble_eq_true rfl) (fun p e s m args below meth c C0 => ?_)
  show vr_J p l e _ s m args below meth c 3 0 0 G (vr_Z (vr_QI G) G args s below) 0 [(0, .ref (vr_ad G 68)), (1, .int (vr_I a0)), (2, .int (vr_I a1))] [] μ _
  have B36 : ∀ (y0 : Int) (h_y0 : vr_R y0) (μ : vr_M), vr_J p l e ({ frames := 2, cells := 0, slots := 0, locals := 43 } : Room) s m args below meth c 3 0 0 G (vr_Z (vr_QI G) G args s below) 36 [] [.int (vr_I y0)] μ (fX10_of_B36 y0 μ) := by
    intro y0 h_y0 μ
    unfold fX10_of_B36
    exact jr_iret C0 h_y0 dX10_of_36
  have B35 : ∀ (μ : vr_M), vr_J p l e ({ frames := 2, cells := 0, slots := 0, locals := 43 } : Room) s m args below meth c 3 0 0 G (vr_Z (vr_QI G) G args s below) 35 [] [] μ (fX10_of_B35 μ) := by
    intro μ
    unfold fX10_of_B35
    refine jr_iconst C0 dX10_of_35 ?_
    exact B36 (-1) (⟨by decide, by decide⟩) _
  unfold fX10_of
  refine jr_aload_n C0 0 dX10_of_0 rfl rfl ?_
  refine jr_iload_n C0 1 dX10_of_1 rfl rfl ?_
  refine jr_vI C0 (by decide) kd_68 (by decide) rfl (ct_X10_isPlot l G a0 h_a0 _) mi_X10_isPlot wm_X10_48 ⟨Nat.le_of_ble_eq_true rfl, Nat.le_of_ble_eq_true rfl⟩ ⟨rfl, rfl⟩ (As := [.int (vr_I a0)]) rfl (st := []) rfl (Nat.le_of_ble_eq_true rfl) dX10_of_2 (fun r1 hr1 => ?_)
  refine jr_if_eq C0 hr1 dX10_of_5 (tgt := 35) (by decide) ?_ ?_
  · refine jr_sub [] rfl ?_
    exact B35 _
  refine jr_iload_n C0 2 dX10_of_8 rfl rfl ?_
  refine jr_iconst C0 dX10_of_9 ?_
  refine jr_iconst C0 dX10_of_10 ?_
  refine jr_sI C0 (ct_X10_in l G a1 h_a1 0 (⟨by decide, by decide⟩) 4 (⟨by decide, by decide⟩) _) mi_X10_in wm_X10_44 ⟨Nat.le_of_ble_eq_true rfl, Nat.le_of_ble_eq_true rfl⟩ ⟨rfl, rfl⟩ (As := [.int (vr_I a1), .int (vr_I 0), .int (vr_I 4)]) rfl (st := []) rfl (Nat.le_of_ble_eq_true rfl) dX10_of_11 (fun r2 hr2 => ?_)
  refine jr_if_eq C0 hr2 dX10_of_14 (tgt := 35) (by decide) ?_ ?_
  · refine jr_sub [] rfl ?_
    exact B35 _
  refine jr_aload_n C0 0 dX10_of_17 rfl rfl ?_
  refine jr_getr C0 (by decide) kd_68 (by decide) rfl wx_X10 (i := 1) (by decide) wf_X10_9 (j := 69) rfl dX10_of_18 ?_
  refine jr_sipush C0 dX10_of_21 rfl ?_
  refine jr_bipush C0 dX10_of_24 rfl ?_
  refine jr_iload_n C0 2 dX10_of_26 rfl rfl ?_
  refine jr_imul C0 dX10_of_27 ?_
  refine jr_iadd C0 dX10_of_28 ?_
  refine jr_iload_n C0 1 dX10_of_29 rfl rfl ?_
  refine jr_iadd C0 dX10_of_30 ?_
  refine jr_gd (fun g3 => ?_)
  refine jr_iald C0 (by decide) kd_69 kl_69 g3 (j := ((130 + (8 * a1)) + a0).toNat) rfl dX10_of_31 ?_
  refine jr_goto C0 dX10_of_32 (tgt := 36) (by decide) ?_
  refine jr_gd (fun g4 => ?_)
  refine jr_sub [] rfl ?_
  exact B36 (r2.2 69 ((130 + (8 * a1)) + a0).toNat) g4 _
theorem dX10_lies_0 : decode cX10_lies 0 = .ok (.aload_n 0, 1) := by decide +kernel
theorem dX10_lies_1 : decode cX10_lies 1 = .ok (.iload_n 1, 1) := by decide +kernel
theorem dX10_lies_2 : decode cX10_lies 2 = .ok (.invokevirtual 48, 3) := by decide +kernel
theorem dX10_lies_5 : decode cX10_lies 5 = .ok (.ifCond .ne 5, 3) := by decide +kernel
theorem dX10_lies_8 : decode cX10_lies 8 = .ok (.iconst (-1), 1) := by decide +kernel
theorem dX10_lies_9 : decode cX10_lies 9 = .ok (.ireturn, 1) := by decide +kernel
theorem dX10_lies_10 : decode cX10_lies 10 = .ok (.iload_n 2, 1) := by decide +kernel
theorem dX10_lies_11 : decode cX10_lies 11 = .ok (.iconst 0, 1) := by decide +kernel
theorem dX10_lies_12 : decode cX10_lies 12 = .ok (.bipush 30, 2) := by decide +kernel
theorem dX10_lies_14 : decode cX10_lies 14 = .ok (.invokestatic 44, 3) := by decide +kernel
theorem dX10_lies_17 : decode cX10_lies 17 = .ok (.ifCond .ne 6, 3) := by decide +kernel
theorem dX10_lies_20 : decode cX10_lies 20 = .ok (.bipush (-2), 2) := by decide +kernel
theorem dX10_lies_22 : decode cX10_lies 22 = .ok (.ireturn, 1) := by decide +kernel
theorem dX10_lies_23 : decode cX10_lies 23 = .ok (.aload_n 0, 1) := by decide +kernel
theorem dX10_lies_24 : decode cX10_lies 24 = .ok (.getfield 9, 3) := by decide +kernel
theorem dX10_lies_27 : decode cX10_lies 27 = .ok (.sipush 154, 3) := by decide +kernel
theorem dX10_lies_30 : decode cX10_lies 30 = .ok (.iload_n 1, 1) := by decide +kernel
theorem dX10_lies_31 : decode cX10_lies 31 = .ok (.iadd, 1) := by decide +kernel
theorem dX10_lies_32 : decode cX10_lies 32 = .ok (.iaload, 1) := by decide +kernel
theorem dX10_lies_33 : decode cX10_lies 33 = .ok (.istore_n 3, 1) := by decide +kernel
theorem dX10_lies_34 : decode cX10_lies 34 = .ok (.aload_n 0, 1) := by decide +kernel
theorem dX10_lies_35 : decode cX10_lies 35 = .ok (.getfield 9, 3) := by decide +kernel
theorem dX10_lies_38 : decode cX10_lies 38 = .ok (.sipush 154, 3) := by decide +kernel
theorem dX10_lies_41 : decode cX10_lies 41 = .ok (.iload_n 1, 1) := by decide +kernel
theorem dX10_lies_42 : decode cX10_lies 42 = .ok (.iadd, 1) := by decide +kernel
theorem dX10_lies_43 : decode cX10_lies 43 = .ok (.iload_n 2, 1) := by decide +kernel
theorem dX10_lies_44 : decode cX10_lies 44 = .ok (.iastore, 1) := by decide +kernel
theorem dX10_lies_45 : decode cX10_lies 45 = .ok (.aload_n 0, 1) := by decide +kernel
theorem dX10_lies_46 : decode cX10_lies 46 = .ok (.getfield 9, 3) := by decide +kernel
theorem dX10_lies_49 : decode cX10_lies 49 = .ok (.sipush 146, 3) := by decide +kernel
theorem dX10_lies_52 : decode cX10_lies 52 = .ok (.iload_n 1, 1) := by decide +kernel
theorem dX10_lies_53 : decode cX10_lies 53 = .ok (.iadd, 1) := by decide +kernel
theorem dX10_lies_54 : decode cX10_lies 54 = .ok (.iconst 0, 1) := by decide +kernel
theorem dX10_lies_55 : decode cX10_lies 55 = .ok (.iastore, 1) := by decide +kernel
theorem dX10_lies_56 : decode cX10_lies 56 = .ok (.iload_n 3, 1) := by decide +kernel
theorem dX10_lies_57 : decode cX10_lies 57 = .ok (.ireturn, 1) := by decide +kernel
def fX10_lies (a0 : Int) (a1 : Int) (μ : vr_M) : Option (Int × vr_M) :=
  (fX10_isPlot a0 μ).bind (fun r1 => if ¬ r1.1 = 0 then (fX10_in a1 0 30 r1.2).bind (fun r2 => if ¬ r2.1 = 0 then vr_gd (0 ≤ (154 + a0) ∧ (154 + a0) < 933) (vr_gd (0 ≤ (146 + a0) ∧ (146 + a0) < 933) (vr_gd (vr_R (r2.2 69 (154 + a0).toNat)) (some (r2.2 69 (154 + a0).toNat, vr_u (vr_u r2.2 69 (154 + a0).toNat a1) 69 (146 + a0).toNat 0)))) else some ((-2), r2.2)) else some ((-1), r1.2))
set_option maxRecDepth 100000 in
set_option maxHeartbeats 4000000 in
theorem ct_X10_lies (l : Launch) (G : vr_G) (a0 : Int) (h_a0 : vr_R a0) (a1 : Int) (h_a1 : vr_R a1) (μ : vr_M) : vr_CI l yX10_lies cX10_lies 4 (some .int) ({ frames := 2, cells := 0, slots := 0, locals := 43 } : Room) G [.ref (vr_ad G 68), .int (vr_I a0), .int (vr_I a1)] μ (fX10_lies a0 a1 μ) := by
  refine vr_start (own := RX10) (by decide) rfl (Nat.le_of_ble_eq_true rfl) (fun p e s m args below meth c C0 => ?_)
  show vr_J p l e _ s m args below meth c 4 0 0 G (vr_Z (vr_QI G) G args s below) 0 [(0, .ref (vr_ad G 68)), (1, .int (vr_I a0)), (2, .int (vr_I a1))] [] μ _
  unfold fX10_lies
  refine jr_aload_n C0 0 dX10_lies_0 rfl rfl ?_
  refine jr_iload_n C0 1 dX10_lies_1 rfl rfl ?_
  refine jr_vI C0 (by decide) kd_68 (by decide) rfl (ct_X10_isPlot l G a0 h_a0 _) mi_X10_isPlot wm_X10_48 ⟨Nat.le_of_ble_eq_true rfl, Nat.le_of_ble_eq_true rfl⟩ ⟨rfl, rfl⟩ (As := [.int (vr_I a0)]) rfl (st := []) rfl (Nat.le_of_ble_eq_true rfl) dX10_lies_2 (fun r1 hr1 => ?_)
  refine jr_if_ne C0 hr1 dX10_lies_5 (tgt := 10) (by decide) ?_ ?_
  · refine jr_iload_n C0 2 dX10_lies_10 rfl rfl ?_
    refine jr_iconst C0 dX10_lies_11 ?_
    refine jr_bipush C0 dX10_lies_12 rfl ?_
    refine jr_sI C0 (ct_X10_in l G a1 h_a1 0 (⟨by decide, by decide⟩) 30 (⟨by decide, by decide⟩) _) mi_X10_in wm_X10_44 ⟨Nat.le_of_ble_eq_true rfl, Nat.le_of_ble_eq_true rfl⟩ ⟨rfl, rfl⟩ (As := [.int (vr_I a1), .int (vr_I 0), .int (vr_I 30)]) rfl (st := []) rfl (Nat.le_of_ble_eq_true rfl) dX10_lies_14 (fun r2 hr2 => ?_)
    refine jr_if_ne C0 hr2 dX10_lies_17 (tgt := 23) (by decide) ?_ ?_
    · refine jr_aload_n C0 0 dX10_lies_23 rfl rfl ?_
      refine jr_getr C0 (by decide) kd_68 (by decide) rfl wx_X10 (i := 1) (by decide) wf_X10_9 (j := 69) rfl dX10_lies_24 ?_
      refine jr_sipush C0 dX10_lies_27 rfl ?_
      refine jr_iload_n C0 1 dX10_lies_30 rfl rfl ?_
      refine jr_iadd C0 dX10_lies_31 ?_
      refine jr_gd (fun g3 => ?_)
      refine jr_iald C0 (by decide) kd_69 kl_69 g3 (j := (154 + a0).toNat) rfl dX10_lies_32 ?_
      refine jr_istore_n C0 dX10_lies_33 rfl (by decide) (lv' := [(3, .int (vr_I (r2.2 69 (154 + a0).toNat))), (0, .ref (vr_ad G 68)), (1, .int (vr_I a0)), (2, .int (vr_I a1))]) rfl ?_
      refine jr_aload_n C0 1 dX10_lies_34 rfl rfl ?_
      refine jr_getr C0 (by decide) kd_68 (by decide) rfl wx_X10 (i := 1) (by decide) wf_X10_9 (j := 69) rfl dX10_lies_35 ?_
      refine jr_sipush C0 dX10_lies_38 rfl ?_
      refine jr_iload_n C0 2 dX10_lies_41 rfl rfl ?_
      refine jr_iadd C0 dX10_lies_42 ?_
      refine jr_iload_n C0 3 dX10_lies_43 rfl rfl ?_
      refine jr_iast C0 (by decide) kd_69 kl_69 g3 (j := (154 + a0).toNat) rfl dX10_lies_44 ?_
      refine jr_aload_n C0 1 dX10_lies_45 rfl rfl ?_
      refine jr_getr C0 (by decide) kd_68 (by decide) rfl wx_X10 (i := 1) (by decide) wf_X10_9 (j := 69) rfl dX10_lies_46 ?_
      refine jr_sipush C0 dX10_lies_49 rfl ?_
      refine jr_iload_n C0 2 dX10_lies_52 rfl rfl ?_
      refine jr_iadd C0 dX10_lies_53 ?_
      refine jr_iconst C0 dX10_lies_54 ?_
      refine jr_gd (fun g4 => ?_)
      refine jr_iast C0 (by decide) kd_69 kl_69 g4 (j := (146 + a0).toNat) rfl dX10_lies_55 ?_
      refine jr_iload_n C0 0 dX10_lies_56 rfl rfl ?_
      refine jr_gd (fun g5 => ?_)
      exact jr_iret C0 g5 dX10_lies_57
    refine jr_bipush C0 dX10_lies_20 rfl ?_
    exact jr_iret C0 (⟨by decide, by decide⟩) dX10_lies_22
  refine jr_iconst C0 dX10_lies_8 ?_
  exact jr_iret C0 (⟨by decide, by decide⟩) dX10_lies_9
theorem dX10_set_0 : decode cX10_set 0 = .ok (.iload_n 1, 1) := by decide +kernel
theorem dX10_set_1 : decode cX10_set 1 = .ok (.iconst 0, 1) := by decide +kernel
theorem dX10_set_2 : decode cX10_set 2 = .ok (.iconst 1, 1) := by decide +kernel
theorem dX10_set_3 : decode cX10_set 3 = .ok (.invokestatic 44, 3) := by decide +kernel
theorem dX10_set_6 : decode cX10_set 6 = .ok (.ifCond .ne 5, 3) := by decide +kernel
theorem dX10_set_9 : decode cX10_set 9 = .ok (.iconst (-1), 1) := by decide +kernel
theorem dX10_set_10 : decode cX10_set 10 = .ok (.ireturn, 1) := by decide +kernel
theorem dX10_set_11 : decode cX10_set 11 = .ok (.iload_n 1, 1) := by decide +kernel
theorem dX10_set_12 : decode cX10_set 12 = .ok (.ifCond .ne 16, 3) := by decide +kernel
theorem dX10_set_15 : decode cX10_set 15 = .ok (.iload_n 2, 1) := by decide +kernel
theorem dX10_set_16 : decode cX10_set 16 = .ok (.iconst 0, 1) := by decide +kernel
theorem dX10_set_17 : decode cX10_set 17 = .ok (.bipush 40, 2) := by decide +kernel
theorem dX10_set_19 : decode cX10_set 19 = .ok (.invokestatic 44, 3) := by decide +kernel
theorem dX10_set_22 : decode cX10_set 22 = .ok (.ifCond .ne 19, 3) := by decide +kernel
theorem dX10_set_25 : decode cX10_set 25 = .ok (.goto 13, 3) := by decide +kernel
theorem dX10_set_28 : decode cX10_set 28 = .ok (.iload_n 2, 1) := by decide +kernel
theorem dX10_set_29 : decode cX10_set 29 = .ok (.iconst 1, 1) := by decide +kernel
theorem dX10_set_30 : decode cX10_set 30 = .ok (.bipush 99, 2) := by decide +kernel
theorem dX10_set_32 : decode cX10_set 32 = .ok (.invokestatic 44, 3) := by decide +kernel
theorem dX10_set_35 : decode cX10_set 35 = .ok (.ifCond .ne 6, 3) := by decide +kernel
theorem dX10_set_38 : decode cX10_set 38 = .ok (.bipush (-2), 2) := by decide +kernel
theorem dX10_set_40 : decode cX10_set 40 = .ok (.ireturn, 1) := by decide +kernel
theorem dX10_set_41 : decode cX10_set 41 = .ok (.aload_n 0, 1) := by decide +kernel
theorem dX10_set_42 : decode cX10_set 42 = .ok (.getfield 9, 3) := by decide +kernel
theorem dX10_set_45 : decode cX10_set 45 = .ok (.bipush 7, 2) := by decide +kernel
theorem dX10_set_47 : decode cX10_set 47 = .ok (.iload_n 1, 1) := by decide +kernel
theorem dX10_set_48 : decode cX10_set 48 = .ok (.iadd, 1) := by decide +kernel
theorem dX10_set_49 : decode cX10_set 49 = .ok (.iaload, 1) := by decide +kernel
theorem dX10_set_50 : decode cX10_set 50 = .ok (.istore_n 3, 1) := by decide +kernel
theorem dX10_set_51 : decode cX10_set 51 = .ok (.aload_n 0, 1) := by decide +kernel
theorem dX10_set_52 : decode cX10_set 52 = .ok (.getfield 9, 3) := by decide +kernel
theorem dX10_set_55 : decode cX10_set 55 = .ok (.bipush 7, 2) := by decide +kernel
theorem dX10_set_57 : decode cX10_set 57 = .ok (.iload_n 1, 1) := by decide +kernel
theorem dX10_set_58 : decode cX10_set 58 = .ok (.iadd, 1) := by decide +kernel
theorem dX10_set_59 : decode cX10_set 59 = .ok (.iload_n 2, 1) := by decide +kernel
theorem dX10_set_60 : decode cX10_set 60 = .ok (.iastore, 1) := by decide +kernel
theorem dX10_set_61 : decode cX10_set 61 = .ok (.iload_n 3, 1) := by decide +kernel
theorem dX10_set_62 : decode cX10_set 62 = .ok (.ireturn, 1) := by decide +kernel
def fX10_set_B38 (μ : vr_M) : Option (Int × vr_M) :=
  some ((-2), μ)
def fX10_set_B41 (x1 : Int) (x2 : Int) (μ : vr_M) : Option (Int × vr_M) :=
  vr_gd (0 ≤ (7 + x1) ∧ (7 + x1) < 933) (vr_gd (vr_R (μ 69 (7 + x1).toNat)) (some (μ 69 (7 + x1).toNat, vr_u μ 69 (7 + x1).toNat x2)))
def fX10_set (a0 : Int) (a1 : Int) (μ : vr_M) : Option (Int × vr_M) :=
  (fX10_in a0 0 1 μ).bind (fun r3 => if ¬ r3.1 = 0 then if ¬ a0 = 0 then (fX10_in a1 1 99 r3.2).bind (fun r4 => if ¬ r4.1 = 0 then fX10_set_B41 a0 a1 r4.2 else fX10_set_B38 r4.2) else (fX10_in a1 0 40 r3.2).bind (fun r5 => if ¬ r5.1 = 0 then fX10_set_B41 a0 a1 r5.2 else fX10_set_B38 r5.2) else some ((-1), r3.2))
set_option maxRecDepth 100000 in
set_option maxHeartbeats 4000000 in
theorem ct_X10_set (l : Launch) (G : vr_G) (a0 : Int) (h_a0 : vr_R a0) (a1 : Int) (h_a1 : vr_R a1) (μ : vr_M) : vr_CI l yX10_set cX10_set 4 (some .int) ({ frames := 1, cells := 0, slots := 0, locals := 22 } : Room) G [.ref (vr_ad G 68), .int (vr_I a0), .int (vr_I a1)] μ (fX10_set a0 a1 μ) := by
  refine vr_start (own := RX10) (by decide) rfl (Nat.le_of_ble_eq_true rfl) (fun p e s m args below meth c C0 => ?_)
  show vr_J p l e _ s m args below meth c 4 0 0 G (vr_Z (vr_QI G) G args s below) 0 [(0, .ref (vr_ad G 68)), (1, .int (vr_I a0)), (2, .int (vr_I a1))] [] μ _
  have B38 : ∀ (μ : vr_M), vr_J p l e ({ frames := 1, cells := 0, slots := 0, locals := 22 } : Room) s m args below meth c 4 0 0 G (vr_Z (vr_QI G) G args s below) 38 [] [] μ (fX10_set_B38 μ) := by
    intro μ
    unfold fX10_set_B38
    refine jr_bipush C0 dX10_set_38 rfl ?_
    exact jr_iret C0 (⟨by decide, by decide⟩) dX10_set_40
  have B41 : ∀ (x1 : Int) (h_x1 : vr_R x1) (x2 : Int) (h_x2 : vr_R x2) (μ : vr_M), vr_J p l e ({ frames := 1, cells := 0, slots := 0, locals := 22 } : Room) s m args below meth c 4 0 0 G (vr_Z (vr_QI G) G args s below) 41 [(0, .ref (vr_ad G 68)), (1, .int (vr_I x1)), (2, .int (vr_I x2))] [] μ (fX10_set_B41 x1 x2 μ) := by
    intro x1 h_x1 x2 h_x2 μ
    unfold fX10_set_B41
    refine jr_aload_n C0 0 dX10_set_41 rfl rfl ?_
    refine jr_getr C0 (by decide) kd_68 (by decide) rfl wx_X10 (i := 1) (by decide) wf_X10_9 (j := 69) rfl dX10_set_42 ?_
    refine jr_bipush C0 dX10_set_45 rfl ?_
    refine jr_iload_n C0 1 dX10_set_47 rfl rfl ?_
    refine jr_iadd C0 dX10_set_48 ?_
    refine jr_gd (fun g1 => ?_)
    refine jr_iald C0 (by decide) kd_69 kl_69 g1 (j := (7 + x1).toNat) rfl dX10_set_49 ?_
    refine jr_istore_n C0 dX10_set_50 rfl (by decide) (lv' := [(3, .int (vr_I (μ 69 (7 + x1).toNat))), (0, .ref (vr_ad G 68)), (1, .int (vr_I x1)), (2, .int (vr_I x2))]) rfl ?_
    refine jr_aload_n C0 1 dX10_set_51 rfl rfl ?_
    refine jr_getr C0 (by decide) kd_68 (by decide) rfl wx_X10 (i := 1) (by decide) wf_X10_9 (j := 69) rfl dX10_set_52 ?_
    refine jr_bipush C0 dX10_set_55 rfl ?_
    refine jr_iload_n C0 2 dX10_set_57 rfl rfl ?_
    refine jr_iadd C0 dX10_set_58 ?_
    refine jr_iload_n C0 3 dX10_set_59 rfl rfl ?_
    refine jr_iast C0 (by decide) kd_69 kl_69 g1 (j := (7 + x1).toNat) rfl dX10_set_60 ?_
    refine jr_iload_n C0 0 dX10_set_61 rfl rfl ?_
    refine jr_gd (fun g2 => ?_)
    exact jr_iret C0 g2 dX10_set_62
  unfold fX10_set
  refine jr_iload_n C0 1 dX10_set_0 rfl rfl ?_
  refine jr_iconst C0 dX10_set_1 ?_
  refine jr_iconst C0 dX10_set_2 ?_
  refine jr_sI C0 (ct_X10_in l G a0 h_a0 0 (⟨by decide, by decide⟩) 1 (⟨by decide, by decide⟩) _) mi_X10_in wm_X10_44 ⟨Nat.le_of_ble_eq_true rfl, Nat.le_of_ble_eq_true rfl⟩ ⟨rfl, rfl⟩ (As := [.int (vr_I a0), .int (vr_I 0), .int (vr_I 1)]) rfl (st := []) rfl (Nat.le_of_ble_eq_true rfl) dX10_set_3 (fun r3 hr3 => ?_)
  refine jr_if_ne C0 hr3 dX10_set_6 (tgt := 11) (by decide) ?_ ?_
  · refine jr_iload_n C0 1 dX10_set_11 rfl rfl ?_
    refine jr_if_ne C0 h_a0 dX10_set_12 (tgt := 28) (by decide) ?_ ?_
    · refine jr_iload_n C0 2 dX10_set_28 rfl rfl ?_
      refine jr_iconst C0 dX10_set_29 ?_
      refine jr_bipush C0 dX10_set_30 rfl ?_
      refine jr_sI C0 (ct_X10_in l G a1 h_a1 1 (⟨by decide, by decide⟩) 99 (⟨by decide, by decide⟩) _) mi_X10_in wm_X10_44 ⟨Nat.le_of_ble_eq_true rfl, Nat.le_of_ble_eq_true rfl⟩ ⟨rfl, rfl⟩ (As := [.int (vr_I a1), .int (vr_I 1), .int (vr_I 99)]) rfl (st := []) rfl (Nat.le_of_ble_eq_true rfl) dX10_set_32 (fun r4 hr4 => ?_)
      refine jr_if_ne C0 hr4 dX10_set_35 (tgt := 41) (by decide) ?_ ?_
      · exact B41 a0 h_a0 a1 h_a1 _
      refine jr_sub [] rfl ?_
      exact B38 _
    refine jr_iload_n C0 2 dX10_set_15 rfl rfl ?_
    refine jr_iconst C0 dX10_set_16 ?_
    refine jr_bipush C0 dX10_set_17 rfl ?_
    refine jr_sI C0 (ct_X10_in l G a1 h_a1 0 (⟨by decide, by decide⟩) 40 (⟨by decide, by decide⟩) _) mi_X10_in wm_X10_44 ⟨Nat.le_of_ble_eq_true rfl, Nat.le_of_ble_eq_true rfl⟩ ⟨rfl, rfl⟩ (As := [.int (vr_I a1), .int (vr_I 0), .int (vr_I 40)]) rfl (st := []) rfl (Nat.le_of_ble_eq_true rfl) dX10_set_19 (fun r5 hr5 => ?_)
    refine jr_if_ne C0 hr5 dX10_set_22 (tgt := 41) (by decide) ?_ ?_
    · exact B41 a0 h_a0 a1 h_a1 _
    refine jr_goto C0 dX10_set_25 (tgt := 38) (by decide) ?_
    refine jr_sub [] rfl ?_
    exact B38 _
  refine jr_iconst C0 dX10_set_9 ?_
  exact jr_iret C0 (⟨by decide, by decide⟩) dX10_set_10
theorem dX10_feed_0 : decode cX10_feed 0 = .ok (.iload_n 3, 1) := by decide +kernel
theorem dX10_feed_1 : decode cX10_feed 1 = .ok (.iconst 1, 1) := by decide +kernel
theorem dX10_feed_2 : decode cX10_feed 2 = .ok (.bipush 8, 2) := by decide +kernel
theorem dX10_feed_4 : decode cX10_feed 4 = .ok (.invokestatic 44, 3) := by decide +kernel
theorem dX10_feed_7 : decode cX10_feed 7 = .ok (.ifCond .ne 6, 3) := by decide +kernel
theorem dX10_feed_10 : decode cX10_feed 10 = .ok (.bipush (-2), 2) := by decide +kernel
theorem dX10_feed_12 : decode cX10_feed 12 = .ok (.ireturn, 1) := by decide +kernel
theorem dX10_feed_13 : decode cX10_feed 13 = .ok (.aload_n 0, 1) := by decide +kernel
theorem dX10_feed_14 : decode cX10_feed 14 = .ok (.getfield 9, 3) := by decide +kernel
theorem dX10_feed_17 : decode cX10_feed 17 = .ok (.iconst 4, 1) := by decide +kernel
theorem dX10_feed_18 : decode cX10_feed 18 = .ok (.iaload, 1) := by decide +kernel
theorem dX10_feed_19 : decode cX10_feed 19 = .ok (.iload_n 3, 1) := by decide +kernel
theorem dX10_feed_20 : decode cX10_feed 20 = .ok (.iadd, 1) := by decide +kernel
theorem dX10_feed_21 : decode cX10_feed 21 = .ok (.bipush 120, 2) := by decide +kernel
theorem dX10_feed_23 : decode cX10_feed 23 = .ok (.if_icmp .le 6, 3) := by decide +kernel
theorem dX10_feed_26 : decode cX10_feed 26 = .ok (.bipush (-4), 2) := by decide +kernel
theorem dX10_feed_28 : decode cX10_feed 28 = .ok (.ireturn, 1) := by decide +kernel
theorem dX10_feed_29 : decode cX10_feed 29 = .ok (.iload_n 3, 1) := by decide +kernel
theorem dX10_feed_30 : decode cX10_feed 30 = .ok (.iconst 1, 1) := by decide +kernel
theorem dX10_feed_31 : decode cX10_feed 31 = .ok (.isub, 1) := by decide +kernel
theorem dX10_feed_32 : decode cX10_feed 32 = .ok (.istore 4, 2) := by decide +kernel
theorem dX10_feed_34 : decode cX10_feed 34 = .ok (.iload 4, 2) := by decide +kernel
theorem dX10_feed_36 : decode cX10_feed 36 = .ok (.ifCond .lt 45, 3) := by decide +kernel
theorem dX10_feed_39 : decode cX10_feed 39 = .ok (.aload_n 0, 1) := by decide +kernel
theorem dX10_feed_40 : decode cX10_feed 40 = .ok (.getfield 9, 3) := by decide +kernel
theorem dX10_feed_43 : decode cX10_feed 43 = .ok (.bipush 10, 2) := by decide +kernel
theorem dX10_feed_45 : decode cX10_feed 45 = .ok (.aload_n 0, 1) := by decide +kernel
theorem dX10_feed_46 : decode cX10_feed 46 = .ok (.getfield 9, 3) := by decide +kernel
theorem dX10_feed_49 : decode cX10_feed 49 = .ok (.iconst 4, 1) := by decide +kernel
theorem dX10_feed_50 : decode cX10_feed 50 = .ok (.iaload, 1) := by decide +kernel
theorem dX10_feed_51 : decode cX10_feed 51 = .ok (.iadd, 1) := by decide +kernel
theorem dX10_feed_52 : decode cX10_feed 52 = .ok (.lload_n 1, 1) := by decide +kernel
theorem dX10_feed_53 : decode cX10_feed 53 = .ok (.bipush 8, 2) := by decide +kernel
theorem dX10_feed_55 : decode cX10_feed 55 = .ok (.iload 4, 2) := by decide +kernel
theorem dX10_feed_57 : decode cX10_feed 57 = .ok (.imul, 1) := by decide +kernel
theorem dX10_feed_58 : decode cX10_feed 58 = .ok (.lshr, 1) := by decide +kernel
theorem dX10_feed_59 : decode cX10_feed 59 = .ok (.ldc2_w 52, 3) := by decide +kernel
theorem dX10_feed_62 : decode cX10_feed 62 = .ok (.land, 1) := by decide +kernel
theorem dX10_feed_63 : decode cX10_feed 63 = .ok (.l2i, 1) := by decide +kernel
theorem dX10_feed_64 : decode cX10_feed 64 = .ok (.iastore, 1) := by decide +kernel
theorem dX10_feed_65 : decode cX10_feed 65 = .ok (.aload_n 0, 1) := by decide +kernel
theorem dX10_feed_66 : decode cX10_feed 66 = .ok (.getfield 9, 3) := by decide +kernel
theorem dX10_feed_69 : decode cX10_feed 69 = .ok (.iconst 4, 1) := by decide +kernel
theorem dX10_feed_70 : decode cX10_feed 70 = .ok (.dup2, 1) := by decide +kernel
theorem dX10_feed_71 : decode cX10_feed 71 = .ok (.iaload, 1) := by decide +kernel
theorem dX10_feed_72 : decode cX10_feed 72 = .ok (.iconst 1, 1) := by decide +kernel
theorem dX10_feed_73 : decode cX10_feed 73 = .ok (.iadd, 1) := by decide +kernel
theorem dX10_feed_74 : decode cX10_feed 74 = .ok (.iastore, 1) := by decide +kernel
theorem dX10_feed_75 : decode cX10_feed 75 = .ok (.iinc 4 (-1), 3) := by decide +kernel
theorem dX10_feed_78 : decode cX10_feed 78 = .ok (.goto (-44), 3) := by decide +kernel
theorem dX10_feed_81 : decode cX10_feed 81 = .ok (.aload_n 0, 1) := by decide +kernel
theorem dX10_feed_82 : decode cX10_feed 82 = .ok (.getfield 9, 3) := by decide +kernel
theorem dX10_feed_85 : decode cX10_feed 85 = .ok (.iconst 4, 1) := by decide +kernel
theorem dX10_feed_86 : decode cX10_feed 86 = .ok (.iaload, 1) := by decide +kernel
theorem dX10_feed_87 : decode cX10_feed 87 = .ok (.ireturn, 1) := by decide +kernel
def fX10_feed_L34 : Nat → Int64 → Int → vr_M → Option (Int × vr_M)
  | 0, _, _, _ => none
  | n + 1, x1, x4, μ => if x4 < 0 then vr_gd (vr_R (μ 69 4)) (some (μ 69 4, μ)) else vr_gd (0 ≤ (10 + (μ 69 4)) ∧ (10 + (μ 69 4)) < 933) (vr_let (vr_u μ 69 (10 + (μ 69 4)).toNat (vr_l2i ((vr_lshr x1 (8 * x4)) &&& (255 : Int64)))) (fun μ3 => vr_gd (vr_R (x4 + (-1))) ((fX10_feed_L34 n) x1 (x4 + (-1)) (vr_u μ3 69 4 ((μ3 69 4) + 1)))))
def fX10_feed (a0 : Int64) (a1 : Int) (μ : vr_M) : Option (Int × vr_M) :=
  (fX10_in a1 1 8 μ).bind (fun r5 => if ¬ r5.1 = 0 then vr_gd (vr_R ((r5.2 69 4) + a1)) (if ((r5.2 69 4) + a1) ≤ 120 then vr_gd (vr_R (a1 - 1)) (fX10_feed_L34 9000 a0 (a1 - 1) r5.2) else some ((-4), r5.2)) else some ((-2), r5.2))
set_option maxRecDepth 100000 in
set_option maxHeartbeats 4000000 in
theorem ct_X10_feed (l : Launch) (G : vr_G) (a0 : Int64) (a1 : Int) (h_a1 : vr_R a1) (μ : vr_M) : vr_CI l yX10_feed cX10_feed 5 (some .int) ({ frames := 1, cells := 0, slots := 0, locals := 22 } : Room) G [.ref (vr_ad G 68), .long a0, .int (vr_I a1)] μ (fX10_feed a0 a1 μ) := by
  refine vr_start (own := RX10) (by decide) rfl (Nat.le_of_ble_eq_true rfl) (fun p e s m args below meth c C0 => ?_)
  show vr_J p l e _ s m args below meth c 5 0 0 G (vr_Z (vr_QI G) G args s below) 0 [(0, .ref (vr_ad G 68)), (1, .long a0), (3, .int (vr_I a1))] [] μ _
  have L34 : ∀ (n : Nat) (x1 : Int64) (x4 : Int) (h_x4 : vr_R x4) (μ : vr_M), vr_J p l e ({ frames := 1, cells := 0, slots := 0, locals := 22 } : Room) s m args below meth c 5 0 0 G (vr_Z (vr_QI G) G args s below) 34 [(0, .ref (vr_ad G 68)), (1, .long x1), (4, .int (vr_I x4))] [] μ (fX10_feed_L34 n x1 x4 μ) := by
    intro n34
    induction n34 with
    | zero => intros; exact jr_none
    | succ n34 ih34 =>
      intro x1 x4 h_x4 μ
      rw [fX10_feed_L34.eq_2]
      refine jr_iload C0 2 dX10_feed_34 rfl ?_
      refine jr_if_lt C0 h_x4 dX10_feed_36 (tgt := 81) (by decide) ?_ ?_
      · refine jr_aload_n C0 0 dX10_feed_81 rfl rfl ?_
        refine jr_getr C0 (by decide) kd_68 (by decide) rfl wx_X10 (i := 1) (by decide) wf_X10_9 (j := 69) rfl dX10_feed_82 ?_
        refine jr_iconst C0 dX10_feed_85 ?_
        refine jr_iald C0 (by decide) kd_69 kl_69 (by decide) (j := 4) rfl dX10_feed_86 ?_
        refine jr_gd (fun g1 => ?_)
        exact jr_iret C0 g1 dX10_feed_87
      refine jr_aload_n C0 0 dX10_feed_39 rfl rfl ?_
      refine jr_getr C0 (by decide) kd_68 (by decide) rfl wx_X10 (i := 1) (by decide) wf_X10_9 (j := 69) rfl dX10_feed_40 ?_
      refine jr_bipush C0 dX10_feed_43 rfl ?_
      refine jr_aload_n C0 0 dX10_feed_45 rfl rfl ?_
      refine jr_getr C0 (by decide) kd_68 (by decide) rfl wx_X10 (i := 1) (by decide) wf_X10_9 (j := 69) rfl dX10_feed_46 ?_
      refine jr_iconst C0 dX10_feed_49 ?_
      refine jr_iald C0 (by decide) kd_69 kl_69 (by decide) (j := 4) rfl dX10_feed_50 ?_
      refine jr_iadd C0 dX10_feed_51 ?_
      refine jr_lload_n C0 1 dX10_feed_52 rfl rfl ?_
      refine jr_bipush C0 dX10_feed_53 rfl ?_
      refine jr_iload C0 2 dX10_feed_55 rfl ?_
      refine jr_imul C0 dX10_feed_57 ?_
      refine jr_lshr C0 dX10_feed_58 ?_
      refine jr_ldc2 C0 wk_X10_52 dX10_feed_59 ?_
      refine jr_land C0 dX10_feed_62 ?_
      refine jr_l2i C0 dX10_feed_63 ?_
      refine jr_gd (fun g2 => ?_)
      refine jr_iast C0 (by decide) kd_69 kl_69 g2 (j := (10 + (μ 69 4)).toNat) rfl dX10_feed_64 ?_
      refine jr_aload_n C0 0 dX10_feed_65 rfl rfl ?_
      refine jr_getr C0 (by decide) kd_68 (by decide) rfl wx_X10 (i := 1) (by decide) wf_X10_9 (j := 69) rfl dX10_feed_66 ?_
      refine jr_iconst C0 dX10_feed_69 ?_
      refine jr_dup2 C0 rfl rfl dX10_feed_70 ?_
      refine jr_let (fun μ3 => ?_)
      refine jr_iald C0 (by decide) kd_69 kl_69 (by decide) (j := 4) rfl dX10_feed_71 ?_
      refine jr_iconst C0 dX10_feed_72 ?_
      refine jr_iadd C0 dX10_feed_73 ?_
      refine jr_iast C0 (by decide) kd_69 kl_69 (by decide) (j := 4) rfl dX10_feed_74 ?_
      refine jr_iinc C0 (q := 2) dX10_feed_75 rfl (by decide) (lv' := [(4, .int (vr_I (x4 + (-1)))), (0, .ref (vr_ad G 68)), (1, .long x1)]) rfl ?_
      refine jr_goto C0 dX10_feed_78 (tgt := 34) (by decide) ?_
      refine jr_gd (fun g4 => ?_)
      refine jr_sub [1, 2, 0] rfl ?_
      exact ih34 x1 (x4 + (-1)) g4 _
  unfold fX10_feed
  refine jr_iload_n C0 2 dX10_feed_0 rfl rfl ?_
  refine jr_iconst C0 dX10_feed_1 ?_
  refine jr_bipush C0 dX10_feed_2 rfl ?_
  refine jr_sI C0 (ct_X10_in l G a1 h_a1 1 (⟨by decide, by decide⟩) 8 (⟨by decide, by decide⟩) _) mi_X10_in wm_X10_44 ⟨Nat.le_of_ble_eq_true rfl, Nat.le_of_ble_eq_true rfl⟩ ⟨rfl, rfl⟩ (As := [.int (vr_I a1), .int (vr_I 1), .int (vr_I 8)]) rfl (st := []) rfl (Nat.le_of_ble_eq_true rfl) dX10_feed_4 (fun r5 hr5 => ?_)
  refine jr_if_ne C0 hr5 dX10_feed_7 (tgt := 13) (by decide) ?_ ?_
  · refine jr_aload_n C0 0 dX10_feed_13 rfl rfl ?_
    refine jr_getr C0 (by decide) kd_68 (by decide) rfl wx_X10 (i := 1) (by decide) wf_X10_9 (j := 69) rfl dX10_feed_14 ?_
    refine jr_iconst C0 dX10_feed_17 ?_
    refine jr_iald C0 (by decide) kd_69 kl_69 (by decide) (j := 4) rfl dX10_feed_18 ?_
    refine jr_iload_n C0 2 dX10_feed_19 rfl rfl ?_
    refine jr_iadd C0 dX10_feed_20 ?_
    refine jr_bipush C0 dX10_feed_21 rfl ?_
    refine jr_gd (fun g6 => ?_)
    refine jr_icmp_le C0 g6 (⟨by decide, by decide⟩) dX10_feed_23 (tgt := 29) (by decide) ?_ ?_
    · refine jr_iload_n C0 2 dX10_feed_29 rfl rfl ?_
      refine jr_iconst C0 dX10_feed_30 ?_
      refine jr_isub C0 dX10_feed_31 ?_
      refine jr_istore C0 dX10_feed_32 (by decide) (lv' := [(4, .int (vr_I (a1 - 1))), (0, .ref (vr_ad G 68)), (1, .long a0), (3, .int (vr_I a1))]) rfl ?_
      refine jr_gd (fun g7 => ?_)
      refine jr_sub [1, 2, 0] rfl ?_
      exact L34 9000 a0 (a1 - 1) g7 _
    refine jr_bipush C0 dX10_feed_26 rfl ?_
    exact jr_iret C0 (⟨by decide, by decide⟩) dX10_feed_28
  refine jr_bipush C0 dX10_feed_10 rfl ?_
  exact jr_iret C0 (⟨by decide, by decide⟩) dX10_feed_12
