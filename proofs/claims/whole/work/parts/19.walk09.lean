theorem dX10_mostMouths_0 : decode cX10_mostMouths 0 = .ok (.bipush 99, 2) := by decide +kernel
theorem dX10_mostMouths_2 : decode cX10_mostMouths 2 = .ok (.istore 4, 2) := by decide +kernel
theorem dX10_mostMouths_4 : decode cX10_mostMouths 4 = .ok (.iload 4, 2) := by decide +kernel
theorem dX10_mostMouths_6 : decode cX10_mostMouths 6 = .ok (.ifCond .le 50, 3) := by decide +kernel
theorem dX10_mostMouths_9 : decode cX10_mostMouths 9 = .ok (.aload_n 0, 1) := by decide +kernel
theorem dX10_mostMouths_10 : decode cX10_mostMouths 10 = .ok (.getfield 9, 3) := by decide +kernel
theorem dX10_mostMouths_13 : decode cX10_mostMouths 13 = .ok (.bipush 8, 2) := by decide +kernel
theorem dX10_mostMouths_15 : decode cX10_mostMouths 15 = .ok (.iload 4, 2) := by decide +kernel
theorem dX10_mostMouths_17 : decode cX10_mostMouths 17 = .ok (.iastore, 1) := by decide +kernel
theorem dX10_mostMouths_18 : decode cX10_mostMouths 18 = .ok (.aload_n 0, 1) := by decide +kernel
theorem dX10_mostMouths_19 : decode cX10_mostMouths 19 = .ok (.iload_n 1, 1) := by decide +kernel
theorem dX10_mostMouths_20 : decode cX10_mostMouths 20 = .ok (.iload_n 2, 1) := by decide +kernel
theorem dX10_mostMouths_21 : decode cX10_mostMouths 21 = .ok (.iload_n 3, 1) := by decide +kernel
theorem dX10_mostMouths_22 : decode cX10_mostMouths 22 = .ok (.iconst 0, 1) := by decide +kernel
theorem dX10_mostMouths_23 : decode cX10_mostMouths 23 = .ok (.invokevirtual 223, 3) := by decide +kernel
theorem dX10_mostMouths_26 : decode cX10_mostMouths 26 = .ok (.bipush (-5), 2) := by decide +kernel
theorem dX10_mostMouths_28 : decode cX10_mostMouths 28 = .ok (.if_icmp .ne 7, 3) := by decide +kernel
theorem dX10_mostMouths_31 : decode cX10_mostMouths 31 = .ok (.iconst 1, 1) := by decide +kernel
theorem dX10_mostMouths_32 : decode cX10_mostMouths 32 = .ok (.goto 4, 3) := by decide +kernel
theorem dX10_mostMouths_35 : decode cX10_mostMouths 35 = .ok (.iconst 0, 1) := by decide +kernel
theorem dX10_mostMouths_36 : decode cX10_mostMouths 36 = .ok (.istore 5, 2) := by decide +kernel
theorem dX10_mostMouths_38 : decode cX10_mostMouths 38 = .ok (.aload_n 0, 1) := by decide +kernel
theorem dX10_mostMouths_39 : decode cX10_mostMouths 39 = .ok (.invokevirtual 220, 3) := by decide +kernel
theorem dX10_mostMouths_42 : decode cX10_mostMouths 42 = .ok (.iload 5, 2) := by decide +kernel
theorem dX10_mostMouths_44 : decode cX10_mostMouths 44 = .ok (.ifCond .eq 6, 3) := by decide +kernel
theorem dX10_mostMouths_47 : decode cX10_mostMouths 47 = .ok (.iload 4, 2) := by decide +kernel
theorem dX10_mostMouths_49 : decode cX10_mostMouths 49 = .ok (.ireturn, 1) := by decide +kernel
theorem dX10_mostMouths_50 : decode cX10_mostMouths 50 = .ok (.iinc 4 (-1), 3) := by decide +kernel
theorem dX10_mostMouths_53 : decode cX10_mostMouths 53 = .ok (.goto (-49), 3) := by decide +kernel
theorem dX10_mostMouths_56 : decode cX10_mostMouths 56 = .ok (.iconst 0, 1) := by decide +kernel
theorem dX10_mostMouths_57 : decode cX10_mostMouths 57 = .ok (.ireturn, 1) := by decide +kernel
def fX10_mostMouths_B36 (rc4 : Int → Int → Int → Int → vr_M → Option (Int × vr_M)) (x1 : Int) (x2 : Int) (x3 : Int) (x4 : Int) (y0 : Int) (μ : vr_M) : Option (Int × vr_M) :=
  (fX10_putsBack  μ).bind (fun r1 => if y0 = 0 then vr_gd (vr_R (x4 + (-1))) (rc4 x1 x2 x3 (x4 + (-1)) r1.2) else some (x4, r1.2))
def fX10_mostMouths_L4 : Nat → Int → Int → Int → Int → vr_M → Option (Int × vr_M)
  | 0, _, _, _, _, _ => none
  | n + 1, x1, x2, x3, x4, μ => if x4 ≤ 0 then some (0, μ) else (fX10_firstHungry x1 x2 x3 0 (vr_u μ 69 8 x4)).bind (fun r3 => if ¬ r3.1 = (-5) then fX10_mostMouths_B36 (fX10_mostMouths_L4 n) x1 x2 x3 x4 0 r3.2 else fX10_mostMouths_B36 (fX10_mostMouths_L4 n) x1 x2 x3 x4 1 r3.2)
def fX10_mostMouths (a0 : Int) (a1 : Int) (a2 : Int) (μ : vr_M) : Option (Int × vr_M) :=
  fX10_mostMouths_L4 9000 a0 a1 a2 99 μ
set_option maxRecDepth 100000 in
set_option maxHeartbeats 4000000 in
theorem ct_X10_mostMouths (l : Launch) (G : vr_G) (a0 : Int) (h_a0 : vr_R a0) (a1 : Int) (h_a1 : vr_R a1) (a2 : Int) (h_a2 : vr_R a2) (μ : vr_M) : vr_CI l yX10_mostMouths cX10_mostMouths 6 (some .int) ({ frames := 10, cells := 0, slots := 0, locals := 248 } : Room) G [.ref (vr_ad G 68), .int (vr_I a0), .int (vr_I a1), .int (vr_I a2)] μ (fX10_mostMouths a0 a1 a2 μ) := by
  refine vr_start (own := RX10) (by decide) rfl (Nat.le_of_ble_eq_true rfl) (fun p e s m args below meth c C0 => ?_)
  show vr_J p l e _ s m args below meth c 6 0 0 G (vr_Z (vr_QI G) G args s below) 0 [(0, .ref (vr_ad G 68)), (1, .int (vr_I a0)), (2, .int (vr_I a1)), (3, .int (vr_I a2))] [] μ _
  have L4 : ∀ (n : Nat) (x1 : Int) (h_x1 : vr_R x1) (x2 : Int) (h_x2 : vr_R x2) (x3 : Int) (h_x3 : vr_R x3) (x4 : Int) (h_x4 : vr_R x4) (μ : vr_M), vr_J p l e ({ frames := 10, cells := 0, slots := 0, locals := 248 } : Room) s m args below meth c 6 0 0 G (vr_Z (vr_QI G) G args s below) 4 [(0, .ref (vr_ad G 68)), (1, .int (vr_I x1)), (2, .int (vr_I x2)), (3, .int (vr_I x3)), (4, .int (vr_I x4))] [] μ (fX10_mostMouths_L4 n x1 x2 x3 x4 μ) := by
    intro n4
    induction n4 with
    | zero => intros; exact jr_none
    | succ n4 ih4 =>
      have B36 : ∀ (x1 : Int) (h_x1 : vr_R x1) (x2 : Int) (h_x2 : vr_R x2) (x3 : Int) (h_x3 : vr_R x3) (x4 : Int) (h_x4 : vr_R x4) (y0 : Int) (h_y0 : vr_R y0) (μ : vr_M), vr_J p l e ({ frames := 10, cells := 0, slots := 0, locals := 248 } : Room) s m args below meth c 6 0 0 G (vr_Z (vr_QI G) G args s below) 36 [(0, .ref (vr_ad G 68)), (1, .int (vr_I x1)), (2, .int (vr_I x2)), (3, .int (vr_I x3)), (4, .int (vr_I x4))] [.int (vr_I y0)] μ (fX10_mostMouths_B36 (fX10_mostMouths_L4 n4) x1 x2 x3 x4 y0 μ) := by
        intro x1 h_x1 x2 h_x2 x3 h_x3 x4 h_x4 y0 h_y0 μ
        unfold fX10_mostMouths_B36
        refine jr_istore C0 dX10_mostMouths_36 (by decide) (lv' := [(5, .int (vr_I y0)), (0, .ref (vr_ad G 68)), (1, .int (vr_I x1)), (2, .int (vr_I x2)), (3, .int (vr_I x3)), (4, .int (vr_I x4))]) rfl ?_
        refine jr_aload_n C0 1 dX10_mostMouths_38 rfl rfl ?_
        refine jr_vV0 C0 (by decide) kd_68 (by decide) rfl (ct_X10_putsBack l G  _) mi_X10_putsBack wm_X10_220 ⟨Nat.le_of_ble_eq_true rfl, Nat.le_of_ble_eq_true rfl⟩ ⟨rfl, rfl⟩ (As := []) rfl (st := []) rfl (Nat.le_of_ble_eq_true rfl) dX10_mostMouths_39 (fun r1 => ?_)
        refine jr_iload C0 0 dX10_mostMouths_42 rfl ?_
        refine jr_if_eq C0 h_y0 dX10_mostMouths_44 (tgt := 50) (by decide) ?_ ?_
        · refine jr_iinc C0 (q := 5) dX10_mostMouths_50 rfl (by decide) (lv' := [(4, .int (vr_I (x4 + (-1)))), (5, .int (vr_I y0)), (0, .ref (vr_ad G 68)), (1, .int (vr_I x1)), (2, .int (vr_I x2)), (3, .int (vr_I x3))]) rfl ?_
          refine jr_goto C0 dX10_mostMouths_53 (tgt := 4) (by decide) ?_
          refine jr_gd (fun g2 => ?_)
          refine jr_sub [2, 3, 4, 5, 0] rfl ?_
          exact ih4 x1 h_x1 x2 h_x2 x3 h_x3 (x4 + (-1)) g2 _
        refine jr_iload C0 5 dX10_mostMouths_47 rfl ?_
        exact jr_iret C0 h_x4 dX10_mostMouths_49
      intro x1 h_x1 x2 h_x2 x3 h_x3 x4 h_x4 μ
      rw [fX10_mostMouths_L4.eq_2]
      refine jr_iload C0 4 dX10_mostMouths_4 rfl ?_
      refine jr_if_le C0 h_x4 dX10_mostMouths_6 (tgt := 56) (by decide) ?_ ?_
      · refine jr_iconst C0 dX10_mostMouths_56 ?_
        exact jr_iret C0 (⟨by decide, by decide⟩) dX10_mostMouths_57
      refine jr_aload_n C0 0 dX10_mostMouths_9 rfl rfl ?_
      refine jr_getr C0 (by decide) kd_68 (by decide) rfl wx_X10 (i := 1) (by decide) wf_X10_9 (j := 69) rfl dX10_mostMouths_10 ?_
      refine jr_bipush C0 dX10_mostMouths_13 rfl ?_
      refine jr_iload C0 4 dX10_mostMouths_15 rfl ?_
      refine jr_iast C0 (by decide) kd_69 kl_69 (by decide) (j := 8) rfl dX10_mostMouths_17 ?_
      refine jr_aload_n C0 0 dX10_mostMouths_18 rfl rfl ?_
      refine jr_iload_n C0 1 dX10_mostMouths_19 rfl rfl ?_
      refine jr_iload_n C0 2 dX10_mostMouths_20 rfl rfl ?_
      refine jr_iload_n C0 3 dX10_mostMouths_21 rfl rfl ?_
      refine jr_iconst C0 dX10_mostMouths_22 ?_
      refine jr_vI C0 (by decide) kd_68 (by decide) rfl (ct_X10_firstHungry l G x1 h_x1 x2 h_x2 x3 h_x3 0 (⟨by decide, by decide⟩) _) mi_X10_firstHungry wm_X10_223 ⟨Nat.le_of_ble_eq_true rfl, Nat.le_of_ble_eq_true rfl⟩ ⟨rfl, rfl⟩ (As := [.int (vr_I x1), .int (vr_I x2), .int (vr_I x3), .int (vr_I 0)]) rfl (st := []) rfl (Nat.le_of_ble_eq_true rfl) dX10_mostMouths_23 (fun r3 hr3 => ?_)
      refine jr_bipush C0 dX10_mostMouths_26 rfl ?_
      refine jr_icmp_ne C0 hr3 (⟨by decide, by decide⟩) dX10_mostMouths_28 (tgt := 35) (by decide) ?_ ?_
      · refine jr_iconst C0 dX10_mostMouths_35 ?_
        exact B36 x1 h_x1 x2 h_x2 x3 h_x3 x4 h_x4 0 (⟨by decide, by decide⟩) _
      refine jr_iconst C0 dX10_mostMouths_31 ?_
      refine jr_goto C0 dX10_mostMouths_32 (tgt := 36) (by decide) ?_
      exact B36 x1 h_x1 x2 h_x2 x3 h_x3 x4 h_x4 1 (⟨by decide, by decide⟩) _
  unfold fX10_mostMouths
  refine jr_bipush C0 dX10_mostMouths_0 rfl ?_
  refine jr_istore C0 dX10_mostMouths_2 (by decide) (lv' := [(4, .int (vr_I 99)), (0, .ref (vr_ad G 68)), (1, .int (vr_I a0)), (2, .int (vr_I a1)), (3, .int (vr_I a2))]) rfl ?_
  refine jr_sub [1, 2, 3, 4, 0] rfl ?_
  exact L4 9000 a0 h_a0 a1 h_a1 a2 h_a2 99 (⟨by decide, by decide⟩) _
theorem dX10_proof_0 : decode cX10_proof 0 = .ok (.aload_n 0, 1) := by decide +kernel
theorem dX10_proof_1 : decode cX10_proof 1 = .ok (.iload_n 1, 1) := by decide +kernel
theorem dX10_proof_2 : decode cX10_proof 2 = .ok (.invokevirtual 190, 3) := by decide +kernel
theorem dX10_proof_5 : decode cX10_proof 5 = .ok (.ifCond .eq 12, 3) := by decide +kernel
theorem dX10_proof_8 : decode cX10_proof 8 = .ok (.iload_n 3, 1) := by decide +kernel
theorem dX10_proof_9 : decode cX10_proof 9 = .ok (.iconst 0, 1) := by decide +kernel
theorem dX10_proof_10 : decode cX10_proof 10 = .ok (.iconst 2, 1) := by decide +kernel
theorem dX10_proof_11 : decode cX10_proof 11 = .ok (.invokestatic 44, 3) := by decide +kernel
theorem dX10_proof_14 : decode cX10_proof 14 = .ok (.ifCond .ne 5, 3) := by decide +kernel
theorem dX10_proof_17 : decode cX10_proof 17 = .ok (.iconst (-1), 1) := by decide +kernel
theorem dX10_proof_18 : decode cX10_proof 18 = .ok (.ireturn, 1) := by decide +kernel
theorem dX10_proof_19 : decode cX10_proof 19 = .ok (.iload_n 2, 1) := by decide +kernel
theorem dX10_proof_20 : decode cX10_proof 20 = .ok (.iconst 1, 1) := by decide +kernel
theorem dX10_proof_21 : decode cX10_proof 21 = .ok (.bipush 30, 2) := by decide +kernel
theorem dX10_proof_23 : decode cX10_proof 23 = .ok (.invokestatic 44, 3) := by decide +kernel
theorem dX10_proof_26 : decode cX10_proof 26 = .ok (.ifCond .ne 6, 3) := by decide +kernel
theorem dX10_proof_29 : decode cX10_proof 29 = .ok (.bipush (-2), 2) := by decide +kernel
theorem dX10_proof_31 : decode cX10_proof 31 = .ok (.ireturn, 1) := by decide +kernel
theorem dX10_proof_32 : decode cX10_proof 32 = .ok (.aload_n 0, 1) := by decide +kernel
theorem dX10_proof_33 : decode cX10_proof 33 = .ok (.getfield 9, 3) := by decide +kernel
theorem dX10_proof_36 : decode cX10_proof 36 = .ok (.sipush 170, 3) := by decide +kernel
theorem dX10_proof_39 : decode cX10_proof 39 = .ok (.iload_n 1, 1) := by decide +kernel
theorem dX10_proof_40 : decode cX10_proof 40 = .ok (.iadd, 1) := by decide +kernel
theorem dX10_proof_41 : decode cX10_proof 41 = .ok (.iaload, 1) := by decide +kernel
theorem dX10_proof_42 : decode cX10_proof 42 = .ok (.istore 4, 2) := by decide +kernel
theorem dX10_proof_44 : decode cX10_proof 44 = .ok (.aload_n 0, 1) := by decide +kernel
theorem dX10_proof_45 : decode cX10_proof 45 = .ok (.getfield 9, 3) := by decide +kernel
theorem dX10_proof_48 : decode cX10_proof 48 = .ok (.sipush 178, 3) := by decide +kernel
theorem dX10_proof_51 : decode cX10_proof 51 = .ok (.iload_n 1, 1) := by decide +kernel
theorem dX10_proof_52 : decode cX10_proof 52 = .ok (.iadd, 1) := by decide +kernel
theorem dX10_proof_53 : decode cX10_proof 53 = .ok (.iaload, 1) := by decide +kernel
theorem dX10_proof_54 : decode cX10_proof 54 = .ok (.istore 5, 2) := by decide +kernel
theorem dX10_proof_56 : decode cX10_proof 56 = .ok (.aload_n 0, 1) := by decide +kernel
theorem dX10_proof_57 : decode cX10_proof 57 = .ok (.invokevirtual 217, 3) := by decide +kernel
theorem dX10_proof_60 : decode cX10_proof 60 = .ok (.iload_n 3, 1) := by decide +kernel
theorem dX10_proof_61 : decode cX10_proof 61 = .ok (.iconst 2, 1) := by decide +kernel
theorem dX10_proof_62 : decode cX10_proof 62 = .ok (.if_icmp .ne 13, 3) := by decide +kernel
theorem dX10_proof_65 : decode cX10_proof 65 = .ok (.aload_n 0, 1) := by decide +kernel
theorem dX10_proof_66 : decode cX10_proof 66 = .ok (.iload 4, 2) := by decide +kernel
theorem dX10_proof_68 : decode cX10_proof 68 = .ok (.iload 5, 2) := by decide +kernel
theorem dX10_proof_70 : decode cX10_proof 70 = .ok (.iload_n 2, 1) := by decide +kernel
theorem dX10_proof_71 : decode cX10_proof 71 = .ok (.invokevirtual 227, 3) := by decide +kernel
theorem dX10_proof_74 : decode cX10_proof 74 = .ok (.ireturn, 1) := by decide +kernel
theorem dX10_proof_75 : decode cX10_proof 75 = .ok (.bipush (-5), 2) := by decide +kernel
theorem dX10_proof_77 : decode cX10_proof 77 = .ok (.istore 6, 2) := by decide +kernel
theorem dX10_proof_79 : decode cX10_proof 79 = .ok (.iconst 0, 1) := by decide +kernel
theorem dX10_proof_80 : decode cX10_proof 80 = .ok (.istore 7, 2) := by decide +kernel
theorem dX10_proof_82 : decode cX10_proof 82 = .ok (.iconst 0, 1) := by decide +kernel
theorem dX10_proof_83 : decode cX10_proof 83 = .ok (.istore 8, 2) := by decide +kernel
theorem dX10_proof_85 : decode cX10_proof 85 = .ok (.iload 8, 2) := by decide +kernel
theorem dX10_proof_87 : decode cX10_proof 87 = .ok (.iload_n 2, 1) := by decide +kernel
theorem dX10_proof_88 : decode cX10_proof 88 = .ok (.if_icmp .ge 60, 3) := by decide +kernel
theorem dX10_proof_91 : decode cX10_proof 91 = .ok (.aload_n 0, 1) := by decide +kernel
theorem dX10_proof_92 : decode cX10_proof 92 = .ok (.iload 4, 2) := by decide +kernel
theorem dX10_proof_94 : decode cX10_proof 94 = .ok (.iload 5, 2) := by decide +kernel
theorem dX10_proof_96 : decode cX10_proof 96 = .ok (.iconst 1, 1) := by decide +kernel
theorem dX10_proof_97 : decode cX10_proof 97 = .ok (.invokevirtual 214, 3) := by decide +kernel
theorem dX10_proof_100 : decode cX10_proof 100 = .ok (.istore 9, 2) := by decide +kernel
theorem dX10_proof_102 : decode cX10_proof 102 = .ok (.iload 6, 2) := by decide +kernel
theorem dX10_proof_104 : decode cX10_proof 104 = .ok (.bipush (-5), 2) := by decide +kernel
theorem dX10_proof_106 : decode cX10_proof 106 = .ok (.if_icmp .ne 15, 3) := by decide +kernel
theorem dX10_proof_109 : decode cX10_proof 109 = .ok (.aload_n 0, 1) := by decide +kernel
theorem dX10_proof_110 : decode cX10_proof 110 = .ok (.getfield 211, 3) := by decide +kernel
theorem dX10_proof_113 : decode cX10_proof 113 = .ok (.ifCond .eq 8, 3) := by decide +kernel
theorem dX10_proof_116 : decode cX10_proof 116 = .ok (.iload 8, 2) := by decide +kernel
theorem dX10_proof_118 : decode cX10_proof 118 = .ok (.goto 5, 3) := by decide +kernel
theorem dX10_proof_121 : decode cX10_proof 121 = .ok (.iload 6, 2) := by decide +kernel
theorem dX10_proof_123 : decode cX10_proof 123 = .ok (.istore 6, 2) := by decide +kernel
theorem dX10_proof_125 : decode cX10_proof 125 = .ok (.iload 7, 2) := by decide +kernel
theorem dX10_proof_127 : decode cX10_proof 127 = .ok (.aload_n 0, 1) := by decide +kernel
theorem dX10_proof_128 : decode cX10_proof 128 = .ok (.getfield 202, 3) := by decide +kernel
theorem dX10_proof_131 : decode cX10_proof 131 = .ok (.ifCond .eq 7, 3) := by decide +kernel
theorem dX10_proof_134 : decode cX10_proof 134 = .ok (.iconst 1, 1) := by decide +kernel
theorem dX10_proof_135 : decode cX10_proof 135 = .ok (.goto 4, 3) := by decide +kernel
theorem dX10_proof_138 : decode cX10_proof 138 = .ok (.iconst 0, 1) := by decide +kernel
theorem dX10_proof_139 : decode cX10_proof 139 = .ok (.iadd, 1) := by decide +kernel
theorem dX10_proof_140 : decode cX10_proof 140 = .ok (.istore 7, 2) := by decide +kernel
theorem dX10_proof_142 : decode cX10_proof 142 = .ok (.iinc 8 1, 3) := by decide +kernel
theorem dX10_proof_145 : decode cX10_proof 145 = .ok (.goto (-60), 3) := by decide +kernel
theorem dX10_proof_148 : decode cX10_proof 148 = .ok (.aload_n 0, 1) := by decide +kernel
theorem dX10_proof_149 : decode cX10_proof 149 = .ok (.invokevirtual 220, 3) := by decide +kernel
theorem dX10_proof_152 : decode cX10_proof 152 = .ok (.iload_n 3, 1) := by decide +kernel
theorem dX10_proof_153 : decode cX10_proof 153 = .ok (.ifCond .ne 8, 3) := by decide +kernel
theorem dX10_proof_156 : decode cX10_proof 156 = .ok (.iload 6, 2) := by decide +kernel
theorem dX10_proof_158 : decode cX10_proof 158 = .ok (.goto 5, 3) := by decide +kernel
theorem dX10_proof_161 : decode cX10_proof 161 = .ok (.iload 7, 2) := by decide +kernel
theorem dX10_proof_163 : decode cX10_proof 163 = .ok (.ireturn, 1) := by decide +kernel
def fX10_proof_B17 (μ : vr_M) : Option (Int × vr_M) :=
  some ((-1), μ)
def fX10_proof_B163 (y0 : Int) (μ : vr_M) : Option (Int × vr_M) :=
  some (y0, μ)
def fX10_proof_B139 (rc85 : Int → Int → Int → Int → Int → Int → Int → vr_M → Option (Int × vr_M)) (x2 : Int) (x3 : Int) (x4 : Int) (x5 : Int) (x6 : Int) (x8 : Int) (y0 : Int) (y1 : Int) (μ : vr_M) : Option (Int × vr_M) :=
  vr_gd (vr_R (y0 + y1)) (vr_gd (vr_R (x8 + 1)) (rc85 x2 x3 x4 x5 x6 (y0 + y1) (x8 + 1) μ))
def fX10_proof_B123 (rc85 : Int → Int → Int → Int → Int → Int → Int → vr_M → Option (Int × vr_M)) (x2 : Int) (x3 : Int) (x4 : Int) (x5 : Int) (x7 : Int) (x8 : Int) (y0 : Int) (μ : vr_M) : Option (Int × vr_M) :=
  vr_gd (vr_R (μ 68 16)) (if (μ 68 16) = 0 then fX10_proof_B139 rc85 x2 x3 x4 x5 y0 x8 x7 0 μ else fX10_proof_B139 rc85 x2 x3 x4 x5 y0 x8 x7 1 μ)
def fX10_proof_B121 (rc85 : Int → Int → Int → Int → Int → Int → Int → vr_M → Option (Int × vr_M)) (x2 : Int) (x3 : Int) (x4 : Int) (x5 : Int) (x6 : Int) (x7 : Int) (x8 : Int) (μ : vr_M) : Option (Int × vr_M) :=
  fX10_proof_B123 rc85 x2 x3 x4 x5 x7 x8 x6 μ
def fX10_proof_L85 : Nat → Int → Int → Int → Int → Int → Int → Int → vr_M → Option (Int × vr_M)
  | 0, _, _, _, _, _, _, _, _ => none
  | n + 1, x2, x3, x4, x5, x6, x7, x8, μ => if x2 ≤ x8 then (fX10_putsBack  μ).bind (fun r4 => if ¬ x3 = 0 then fX10_proof_B163 x7 r4.2 else fX10_proof_B163 x6 r4.2) else (fX10_yearBy x4 x5 1 μ).bind (fun r5 => if ¬ x6 = (-5) then fX10_proof_B121 (fX10_proof_L85 n) x2 x3 x4 x5 x6 x7 x8 r5.2 else vr_gd (vr_R (r5.2 68 15)) (if (r5.2 68 15) = 0 then fX10_proof_B121 (fX10_proof_L85 n) x2 x3 x4 x5 x6 x7 x8 r5.2 else fX10_proof_B123 (fX10_proof_L85 n) x2 x3 x4 x5 x7 x8 x8 r5.2))
def fX10_proof (a0 : Int) (a1 : Int) (a2 : Int) (μ : vr_M) : Option (Int × vr_M) :=
  (fX10_isRule a0 μ).bind (fun r7 => if r7.1 = 0 then fX10_proof_B17 r7.2 else (fX10_in a2 0 2 r7.2).bind (fun r8 => if ¬ r8.1 = 0 then (fX10_in a1 1 30 r8.2).bind (fun r9 => if ¬ r9.1 = 0 then vr_gd (0 ≤ (170 + a0) ∧ (170 + a0) < 933) (vr_gd (0 ≤ (178 + a0) ∧ (178 + a0) < 933) ((fX10_keeps  r9.2).bind (fun r12 => if ¬ a2 = 2 then vr_gd (vr_R (r9.2 69 (170 + a0).toNat)) (vr_gd (vr_R (r9.2 69 (178 + a0).toNat)) (fX10_proof_L85 9000 a1 a2 (r9.2 69 (170 + a0).toNat) (r9.2 69 (178 + a0).toNat) (-5) 0 0 r12.2)) else vr_gd (vr_R (r9.2 69 (170 + a0).toNat)) (vr_gd (vr_R (r9.2 69 (178 + a0).toNat)) ((fX10_mostMouths (r9.2 69 (170 + a0).toNat) (r9.2 69 (178 + a0).toNat) a1 r12.2).bind (fun r17 => some (r17.1, r17.2))))))) else some ((-2), r9.2)) else fX10_proof_B17 r8.2))
set_option maxRecDepth 100000 in
set_option maxHeartbeats 4000000 in
theorem ct_X10_proof (l : Launch) (G : vr_G) (a0 : Int) (h_a0 : vr_R a0) (a1 : Int) (h_a1 : vr_R a1) (a2 : Int) (h_a2 : vr_R a2) (μ : vr_M) : vr_CI l yX10_proof cX10_proof 10 (some .int) ({ frames := 11, cells := 0, slots := 0, locals := 273 } : Room) G [.ref (vr_ad G 68), .int (vr_I a0), .int (vr_I a1), .int (vr_I a2)] μ (fX10_proof a0 a1 a2 μ) := by
  refine vr_start (own := RX10) (by decide) rfl (Nat.le_of_ble_eq_true rfl) (fun p e s m args below meth c C0 => ?_)
  show vr_J p l e _ s m args below meth c 10 0 0 G (vr_Z (vr_QI G) G args s below) 0 [(0, .ref (vr_ad G 68)), (1, .int (vr_I a0)), (2, .int (vr_I a1)), (3, .int (vr_I a2))] [] μ _
  have B17 : ∀ (μ : vr_M), vr_J p l e ({ frames := 11, cells := 0, slots := 0, locals := 273 } : Room) s m args below meth c 10 0 0 G (vr_Z (vr_QI G) G args s below) 17 [] [] μ (fX10_proof_B17 μ) := by
    intro μ
    unfold fX10_proof_B17
    refine jr_iconst C0 dX10_proof_17 ?_
    exact jr_iret C0 (⟨by decide, by decide⟩) dX10_proof_18
  have B163 : ∀ (y0 : Int) (h_y0 : vr_R y0) (μ : vr_M), vr_J p l e ({ frames := 11, cells := 0, slots := 0, locals := 273 } : Room) s m args below meth c 10 0 0 G (vr_Z (vr_QI G) G args s below) 163 [] [.int (vr_I y0)] μ (fX10_proof_B163 y0 μ) := by
    intro y0 h_y0 μ
    unfold fX10_proof_B163
    exact jr_iret C0 h_y0 dX10_proof_163
  have L85 : ∀ (n : Nat) (x2 : Int) (h_x2 : vr_R x2) (x3 : Int) (h_x3 : vr_R x3) (x4 : Int) (h_x4 : vr_R x4) (x5 : Int) (h_x5 : vr_R x5) (x6 : Int) (h_x6 : vr_R x6) (x7 : Int) (h_x7 : vr_R x7) (x8 : Int) (h_x8 : vr_R x8) (μ : vr_M), vr_J p l e ({ frames := 11, cells := 0, slots := 0, locals := 273 } : Room) s m args below meth c 10 0 0 G (vr_Z (vr_QI G) G args s below) 85 [(0, .ref (vr_ad G 68)), (2, .int (vr_I x2)), (3, .int (vr_I x3)), (4, .int (vr_I x4)), (5, .int (vr_I x5)), (6, .int (vr_I x6)), (7, .int (vr_I x7)), (8, .int (vr_I x8))] [] μ (fX10_proof_L85 n x2 x3 x4 x5 x6 x7 x8 μ) := by
    intro n85
    induction n85 with
    | zero => intros; exact jr_none
    | succ n85 ih85 =>
      have B139 : ∀ (x2 : Int) (h_x2 : vr_R x2) (x3 : Int) (h_x3 : vr_R x3) (x4 : Int) (h_x4 : vr_R x4) (x5 : Int) (h_x5 : vr_R x5) (x6 : Int) (h_x6 : vr_R x6) (x8 : Int) (h_x8 : vr_R x8) (y0 : Int) (h_y0 : vr_R y0) (y1 : Int) (h_y1 : vr_R y1) (μ : vr_M), vr_J p l e ({ frames := 11, cells := 0, slots := 0, locals := 273 } : Room) s m args below meth c 10 0 0 G (vr_Z (vr_QI G) G args s below) 139 [(0, .ref (vr_ad G 68)), (2, .int (vr_I x2)), (3, .int (vr_I x3)), (4, .int (vr_I x4)), (5, .int (vr_I x5)), (6, .int (vr_I x6)), (8, .int (vr_I x8))] [.int (vr_I y1), .int (vr_I y0)] μ (fX10_proof_B139 (fX10_proof_L85 n85) x2 x3 x4 x5 x6 x8 y0 y1 μ) := by
        intro x2 h_x2 x3 h_x3 x4 h_x4 x5 h_x5 x6 h_x6 x8 h_x8 y0 h_y0 y1 h_y1 μ
        unfold fX10_proof_B139
        refine jr_iadd C0 dX10_proof_139 ?_
        refine jr_istore C0 dX10_proof_140 (by decide) (lv' := [(7, .int (vr_I (y0 + y1))), (0, .ref (vr_ad G 68)), (2, .int (vr_I x2)), (3, .int (vr_I x3)), (4, .int (vr_I x4)), (5, .int (vr_I x5)), (6, .int (vr_I x6)), (8, .int (vr_I x8))]) rfl ?_
        refine jr_iinc C0 (q := 7) dX10_proof_142 rfl (by decide) (lv' := [(8, .int (vr_I (x8 + 1))), (7, .int (vr_I (y0 + y1))), (0, .ref (vr_ad G 68)), (2, .int (vr_I x2)), (3, .int (vr_I x3)), (4, .int (vr_I x4)), (5, .int (vr_I x5)), (6, .int (vr_I x6))]) rfl ?_
        refine jr_goto C0 dX10_proof_145 (tgt := 85) (by decide) ?_
        refine jr_gd (fun g1 => ?_)
        refine jr_gd (fun g2 => ?_)
        refine jr_sub [2, 3, 4, 5, 6, 7, 1, 0] rfl ?_
        exact ih85 x2 h_x2 x3 h_x3 x4 h_x4 x5 h_x5 x6 h_x6 (y0 + y1) g1 (x8 + 1) g2 _
      have B123 : ∀ (x2 : Int) (h_x2 : vr_R x2) (x3 : Int) (h_x3 : vr_R x3) (x4 : Int) (h_x4 : vr_R x4) (x5 : Int) (h_x5 : vr_R x5) (x7 : Int) (h_x7 : vr_R x7) (x8 : Int) (h_x8 : vr_R x8) (y0 : Int) (h_y0 : vr_R y0) (μ : vr_M), vr_J p l e ({ frames := 11, cells := 0, slots := 0, locals := 273 } : Room) s m args below meth c 10 0 0 G (vr_Z (vr_QI G) G args s below) 123 [(0, .ref (vr_ad G 68)), (2, .int (vr_I x2)), (3, .int (vr_I x3)), (4, .int (vr_I x4)), (5, .int (vr_I x5)), (7, .int (vr_I x7)), (8, .int (vr_I x8))] [.int (vr_I y0)] μ (fX10_proof_B123 (fX10_proof_L85 n85) x2 x3 x4 x5 x7 x8 y0 μ) := by
        intro x2 h_x2 x3 h_x3 x4 h_x4 x5 h_x5 x7 h_x7 x8 h_x8 y0 h_y0 μ
        unfold fX10_proof_B123
        refine jr_istore C0 dX10_proof_123 (by decide) (lv' := [(6, .int (vr_I y0)), (0, .ref (vr_ad G 68)), (2, .int (vr_I x2)), (3, .int (vr_I x3)), (4, .int (vr_I x4)), (5, .int (vr_I x5)), (7, .int (vr_I x7)), (8, .int (vr_I x8))]) rfl ?_
        refine jr_iload C0 6 dX10_proof_125 rfl ?_
        refine jr_aload_n C0 1 dX10_proof_127 rfl rfl ?_
        refine jr_geti C0 (by decide) kd_68 (by decide) rfl wx_X10 (i := 16) (by decide) wf_X10_202 rfl dX10_proof_128 ?_
        refine jr_gd (fun g3 => ?_)
        refine jr_if_eq C0 g3 dX10_proof_131 (tgt := 138) (by decide) ?_ ?_
        · refine jr_iconst C0 dX10_proof_138 ?_
          refine jr_sub [1, 2, 3, 4, 5, 0, 7] rfl ?_
          exact B139 x2 h_x2 x3 h_x3 x4 h_x4 x5 h_x5 y0 h_y0 x8 h_x8 x7 h_x7 0 (⟨by decide, by decide⟩) _
        refine jr_iconst C0 dX10_proof_134 ?_
        refine jr_goto C0 dX10_proof_135 (tgt := 139) (by decide) ?_
        refine jr_sub [1, 2, 3, 4, 5, 0, 7] rfl ?_
        exact B139 x2 h_x2 x3 h_x3 x4 h_x4 x5 h_x5 y0 h_y0 x8 h_x8 x7 h_x7 1 (⟨by decide, by decide⟩) _
      have B121 : ∀ (x2 : Int) (h_x2 : vr_R x2) (x3 : Int) (h_x3 : vr_R x3) (x4 : Int) (h_x4 : vr_R x4) (x5 : Int) (h_x5 : vr_R x5) (x6 : Int) (h_x6 : vr_R x6) (x7 : Int) (h_x7 : vr_R x7) (x8 : Int) (h_x8 : vr_R x8) (μ : vr_M), vr_J p l e ({ frames := 11, cells := 0, slots := 0, locals := 273 } : Room) s m args below meth c 10 0 0 G (vr_Z (vr_QI G) G args s below) 121 [(0, .ref (vr_ad G 68)), (2, .int (vr_I x2)), (3, .int (vr_I x3)), (4, .int (vr_I x4)), (5, .int (vr_I x5)), (6, .int (vr_I x6)), (7, .int (vr_I x7)), (8, .int (vr_I x8))] [] μ (fX10_proof_B121 (fX10_proof_L85 n85) x2 x3 x4 x5 x6 x7 x8 μ) := by
        intro x2 h_x2 x3 h_x3 x4 h_x4 x5 h_x5 x6 h_x6 x7 h_x7 x8 h_x8 μ
        unfold fX10_proof_B121
        refine jr_iload C0 5 dX10_proof_121 rfl ?_
        refine jr_sub [0, 1, 2, 3, 4, 6, 7] rfl ?_
        exact B123 x2 h_x2 x3 h_x3 x4 h_x4 x5 h_x5 x7 h_x7 x8 h_x8 x6 h_x6 _
      intro x2 h_x2 x3 h_x3 x4 h_x4 x5 h_x5 x6 h_x6 x7 h_x7 x8 h_x8 μ
      rw [fX10_proof_L85.eq_2]
      refine jr_iload C0 7 dX10_proof_85 rfl ?_
      refine jr_iload_n C0 1 dX10_proof_87 rfl rfl ?_
      refine jr_icmp_ge C0 h_x8 h_x2 dX10_proof_88 (tgt := 148) (by decide) ?_ ?_
      · refine jr_aload_n C0 0 dX10_proof_148 rfl rfl ?_
        refine jr_vV0 C0 (by decide) kd_68 (by decide) rfl (ct_X10_putsBack l G  _) mi_X10_putsBack wm_X10_220 ⟨Nat.le_of_ble_eq_true rfl, Nat.le_of_ble_eq_true rfl⟩ ⟨rfl, rfl⟩ (As := []) rfl (st := []) rfl (Nat.le_of_ble_eq_true rfl) dX10_proof_149 (fun r4 => ?_)
        refine jr_iload_n C0 2 dX10_proof_152 rfl rfl ?_
        refine jr_if_ne C0 h_x3 dX10_proof_153 (tgt := 161) (by decide) ?_ ?_
        · refine jr_iload C0 6 dX10_proof_161 rfl ?_
          refine jr_sub [] rfl ?_
          exact B163 x7 h_x7 _
        refine jr_iload C0 5 dX10_proof_156 rfl ?_
        refine jr_goto C0 dX10_proof_158 (tgt := 163) (by decide) ?_
        refine jr_sub [] rfl ?_
        exact B163 x6 h_x6 _
      refine jr_aload_n C0 0 dX10_proof_91 rfl rfl ?_
      refine jr_iload C0 3 dX10_proof_92 rfl ?_
      refine jr_iload C0 4 dX10_proof_94 rfl ?_
      refine jr_iconst C0 dX10_proof_96 ?_
      refine jr_vI C0 (by decide) kd_68 (by decide) rfl (ct_X10_yearBy l G x4 h_x4 x5 h_x5 1 (⟨by decide, by decide⟩) _) mi_X10_yearBy wm_X10_214 ⟨Nat.le_of_ble_eq_true rfl, Nat.le_of_ble_eq_true rfl⟩ ⟨rfl, rfl⟩ (As := [.int (vr_I x4), .int (vr_I x5), .int (vr_I 1)]) rfl (st := []) rfl (Nat.le_of_ble_eq_true rfl) dX10_proof_97 (fun r5 hr5 => ?_)
      refine jr_istore C0 dX10_proof_100 (by decide) (lv' := [(9, .int (vr_I r5.1)), (0, .ref (vr_ad G 68)), (2, .int (vr_I x2)), (3, .int (vr_I x3)), (4, .int (vr_I x4)), (5, .int (vr_I x5)), (6, .int (vr_I x6)), (7, .int (vr_I x7)), (8, .int (vr_I x8))]) rfl ?_
      refine jr_iload C0 6 dX10_proof_102 rfl ?_
      refine jr_bipush C0 dX10_proof_104 rfl ?_
      refine jr_icmp_ne C0 h_x6 (⟨by decide, by decide⟩) dX10_proof_106 (tgt := 121) (by decide) ?_ ?_
      · refine jr_sub [1, 2, 3, 4, 5, 6, 7, 8] rfl ?_
        exact B121 x2 h_x2 x3 h_x3 x4 h_x4 x5 h_x5 x6 h_x6 x7 h_x7 x8 h_x8 _
      refine jr_aload_n C0 1 dX10_proof_109 rfl rfl ?_
      refine jr_geti C0 (by decide) kd_68 (by decide) rfl wx_X10 (i := 15) (by decide) wf_X10_211 rfl dX10_proof_110 ?_
      refine jr_gd (fun g6 => ?_)
      refine jr_if_eq C0 g6 dX10_proof_113 (tgt := 121) (by decide) ?_ ?_
      · refine jr_sub [1, 2, 3, 4, 5, 6, 7, 8] rfl ?_
        exact B121 x2 h_x2 x3 h_x3 x4 h_x4 x5 h_x5 x6 h_x6 x7 h_x7 x8 h_x8 _
      refine jr_iload C0 8 dX10_proof_116 rfl ?_
      refine jr_goto C0 dX10_proof_118 (tgt := 123) (by decide) ?_
      refine jr_sub [1, 2, 3, 4, 5, 7, 8] rfl ?_
      exact B123 x2 h_x2 x3 h_x3 x4 h_x4 x5 h_x5 x7 h_x7 x8 h_x8 x8 h_x8 _
  unfold fX10_proof
  refine jr_aload_n C0 0 dX10_proof_0 rfl rfl ?_
  refine jr_iload_n C0 1 dX10_proof_1 rfl rfl ?_
  refine jr_vI C0 (by decide) kd_68 (by decide) rfl (ct_X10_isRule l G a0 h_a0 _) mi_X10_isRule wm_X10_190 ⟨Nat.le_of_ble_eq_true rfl, Nat.le_of_ble_eq_true rfl⟩ ⟨rfl, rfl⟩ (As := [.int (vr_I a0)]) rfl (st := []) rfl (Nat.le_of_ble_eq_true rfl) dX10_proof_2 (fun r7 hr7 => ?_)
  refine jr_if_eq C0 hr7 dX10_proof_5 (tgt := 17) (by decide) ?_ ?_
  · refine jr_sub [] rfl ?_
    exact B17 _
  refine jr_iload_n C0 3 dX10_proof_8 rfl rfl ?_
  refine jr_iconst C0 dX10_proof_9 ?_
  refine jr_iconst C0 dX10_proof_10 ?_
  refine jr_sI C0 (ct_X10_in l G a2 h_a2 0 (⟨by decide, by decide⟩) 2 (⟨by decide, by decide⟩) _) mi_X10_in wm_X10_44 ⟨Nat.le_of_ble_eq_true rfl, Nat.le_of_ble_eq_true rfl⟩ ⟨rfl, rfl⟩ (As := [.int (vr_I a2), .int (vr_I 0), .int (vr_I 2)]) rfl (st := []) rfl (Nat.le_of_ble_eq_true rfl) dX10_proof_11 (fun r8 hr8 => ?_)
  refine jr_if_ne C0 hr8 dX10_proof_14 (tgt := 19) (by decide) ?_ ?_
  · refine jr_iload_n C0 2 dX10_proof_19 rfl rfl ?_
    refine jr_iconst C0 dX10_proof_20 ?_
    refine jr_bipush C0 dX10_proof_21 rfl ?_
    refine jr_sI C0 (ct_X10_in l G a1 h_a1 1 (⟨by decide, by decide⟩) 30 (⟨by decide, by decide⟩) _) mi_X10_in wm_X10_44 ⟨Nat.le_of_ble_eq_true rfl, Nat.le_of_ble_eq_true rfl⟩ ⟨rfl, rfl⟩ (As := [.int (vr_I a1), .int (vr_I 1), .int (vr_I 30)]) rfl (st := []) rfl (Nat.le_of_ble_eq_true rfl) dX10_proof_23 (fun r9 hr9 => ?_)
    refine jr_if_ne C0 hr9 dX10_proof_26 (tgt := 32) (by decide) ?_ ?_
    · refine jr_aload_n C0 0 dX10_proof_32 rfl rfl ?_
      refine jr_getr C0 (by decide) kd_68 (by decide) rfl wx_X10 (i := 1) (by decide) wf_X10_9 (j := 69) rfl dX10_proof_33 ?_
      refine jr_sipush C0 dX10_proof_36 rfl ?_
      refine jr_iload_n C0 1 dX10_proof_39 rfl rfl ?_
      refine jr_iadd C0 dX10_proof_40 ?_
      refine jr_gd (fun g10 => ?_)
      refine jr_iald C0 (by decide) kd_69 kl_69 g10 (j := (170 + a0).toNat) rfl dX10_proof_41 ?_
      refine jr_istore C0 dX10_proof_42 (by decide) (lv' := [(4, .int (vr_I (r9.2 69 (170 + a0).toNat))), (0, .ref (vr_ad G 68)), (1, .int (vr_I a0)), (2, .int (vr_I a1)), (3, .int (vr_I a2))]) rfl ?_
      refine jr_aload_n C0 1 dX10_proof_44 rfl rfl ?_
      refine jr_getr C0 (by decide) kd_68 (by decide) rfl wx_X10 (i := 1) (by decide) wf_X10_9 (j := 69) rfl dX10_proof_45 ?_
      refine jr_sipush C0 dX10_proof_48 rfl ?_
      refine jr_iload_n C0 2 dX10_proof_51 rfl rfl ?_
      refine jr_iadd C0 dX10_proof_52 ?_
      refine jr_gd (fun g11 => ?_)
      refine jr_iald C0 (by decide) kd_69 kl_69 g11 (j := (178 + a0).toNat) rfl dX10_proof_53 ?_
      refine jr_istore C0 dX10_proof_54 (by decide) (lv' := [(5, .int (vr_I (r9.2 69 (178 + a0).toNat))), (4, .int (vr_I (r9.2 69 (170 + a0).toNat))), (0, .ref (vr_ad G 68)), (1, .int (vr_I a0)), (2, .int (vr_I a1)), (3, .int (vr_I a2))]) rfl ?_
      refine jr_aload_n C0 2 dX10_proof_56 rfl rfl ?_
      refine jr_vV0 C0 (by decide) kd_68 (by decide) rfl (ct_X10_keeps l G  _) mi_X10_keeps wm_X10_217 ⟨Nat.le_of_ble_eq_true rfl, Nat.le_of_ble_eq_true rfl⟩ ⟨rfl, rfl⟩ (As := []) rfl (st := []) rfl (Nat.le_of_ble_eq_true rfl) dX10_proof_57 (fun r12 => ?_)
      refine jr_iload_n C0 5 dX10_proof_60 rfl rfl ?_
      refine jr_iconst C0 dX10_proof_61 ?_
      refine jr_icmp_ne C0 h_a2 (⟨by decide, by decide⟩) dX10_proof_62 (tgt := 75) (by decide) ?_ ?_
      · refine jr_bipush C0 dX10_proof_75 rfl ?_
        refine jr_istore C0 dX10_proof_77 (by decide) (lv' := [(6, .int (vr_I (-5))), (5, .int (vr_I (r9.2 69 (178 + a0).toNat))), (4, .int (vr_I (r9.2 69 (170 + a0).toNat))), (0, .ref (vr_ad G 68)), (1, .int (vr_I a0)), (2, .int (vr_I a1)), (3, .int (vr_I a2))]) rfl ?_
        refine jr_iconst C0 dX10_proof_79 ?_
        refine jr_istore C0 dX10_proof_80 (by decide) (lv' := [(7, .int (vr_I 0)), (6, .int (vr_I (-5))), (5, .int (vr_I (r9.2 69 (178 + a0).toNat))), (4, .int (vr_I (r9.2 69 (170 + a0).toNat))), (0, .ref (vr_ad G 68)), (1, .int (vr_I a0)), (2, .int (vr_I a1)), (3, .int (vr_I a2))]) rfl ?_
        refine jr_iconst C0 dX10_proof_82 ?_
        refine jr_istore C0 dX10_proof_83 (by decide) (lv' := [(8, .int (vr_I 0)), (7, .int (vr_I 0)), (6, .int (vr_I (-5))), (5, .int (vr_I (r9.2 69 (178 + a0).toNat))), (4, .int (vr_I (r9.2 69 (170 + a0).toNat))), (0, .ref (vr_ad G 68)), (1, .int (vr_I a0)), (2, .int (vr_I a1)), (3, .int (vr_I a2))]) rfl ?_
        refine jr_gd (fun g13 => ?_)
        refine jr_gd (fun g14 => ?_)
        refine jr_sub [5, 7, 8, 4, 3, 2, 1, 0] rfl ?_
        exact L85 9000 a1 h_a1 a2 h_a2 (r9.2 69 (170 + a0).toNat) g13 (r9.2 69 (178 + a0).toNat) g14 (-5) (⟨by decide, by decide⟩) 0 (⟨by decide, by decide⟩) 0 (⟨by decide, by decide⟩) _
      refine jr_aload_n C0 2 dX10_proof_65 rfl rfl ?_
      refine jr_iload C0 1 dX10_proof_66 rfl ?_
      refine jr_iload C0 0 dX10_proof_68 rfl ?_
      refine jr_iload_n C0 4 dX10_proof_70 rfl rfl ?_
      refine jr_gd (fun g15 => ?_)
      refine jr_gd (fun g16 => ?_)
      refine jr_vI C0 (by decide) kd_68 (by decide) rfl (ct_X10_mostMouths l G (r9.2 69 (170 + a0).toNat) g15 (r9.2 69 (178 + a0).toNat) g16 a1 h_a1 _) mi_X10_mostMouths wm_X10_227 ⟨Nat.le_of_ble_eq_true rfl, Nat.le_of_ble_eq_true rfl⟩ ⟨rfl, rfl⟩ (As := [.int (vr_I (r9.2 69 (170 + a0).toNat)), .int (vr_I (r9.2 69 (178 + a0).toNat)), .int (vr_I a1)]) rfl (st := []) rfl (Nat.le_of_ble_eq_true rfl) dX10_proof_71 (fun r17 hr17 => ?_)
      exact jr_iret C0 hr17 dX10_proof_74
    refine jr_bipush C0 dX10_proof_29 rfl ?_
    exact jr_iret C0 (⟨by decide, by decide⟩) dX10_proof_31
  refine jr_sub [] rfl ?_
  exact B17 _
theorem dX10_notes_0 : decode cX10_notes 0 = .ok (.iconst 0, 1) := by decide +kernel
theorem dX10_notes_1 : decode cX10_notes 1 = .ok (.istore_n 3, 1) := by decide +kernel
theorem dX10_notes_2 : decode cX10_notes 2 = .ok (.iload_n 3, 1) := by decide +kernel
theorem dX10_notes_3 : decode cX10_notes 3 = .ok (.bipush 8, 2) := by decide +kernel
theorem dX10_notes_5 : decode cX10_notes 5 = .ok (.if_icmp .ge 124, 3) := by decide +kernel
theorem dX10_notes_8 : decode cX10_notes 8 = .ok (.aload_n 0, 1) := by decide +kernel
theorem dX10_notes_9 : decode cX10_notes 9 = .ok (.getfield 31, 3) := by decide +kernel
theorem dX10_notes_12 : decode cX10_notes 12 = .ok (.bipush 26, 2) := by decide +kernel
theorem dX10_notes_14 : decode cX10_notes 14 = .ok (.iload_n 1, 1) := by decide +kernel
theorem dX10_notes_15 : decode cX10_notes 15 = .ok (.imul, 1) := by decide +kernel
theorem dX10_notes_16 : decode cX10_notes 16 = .ok (.iconst 3, 1) := by decide +kernel
theorem dX10_notes_17 : decode cX10_notes 17 = .ok (.iload_n 3, 1) := by decide +kernel
theorem dX10_notes_18 : decode cX10_notes 18 = .ok (.imul, 1) := by decide +kernel
theorem dX10_notes_19 : decode cX10_notes 19 = .ok (.iadd, 1) := by decide +kernel
theorem dX10_notes_20 : decode cX10_notes 20 = .ok (.iload_n 3, 1) := by decide +kernel
theorem dX10_notes_21 : decode cX10_notes 21 = .ok (.aload_n 0, 1) := by decide +kernel
theorem dX10_notes_22 : decode cX10_notes 22 = .ok (.getfield 9, 3) := by decide +kernel
theorem dX10_notes_25 : decode cX10_notes 25 = .ok (.iconst 0, 1) := by decide +kernel
theorem dX10_notes_26 : decode cX10_notes 26 = .ok (.iaload, 1) := by decide +kernel
theorem dX10_notes_27 : decode cX10_notes 27 = .ok (.if_icmp .ge 16, 3) := by decide +kernel
theorem dX10_notes_30 : decode cX10_notes 30 = .ok (.aload_n 0, 1) := by decide +kernel
theorem dX10_notes_31 : decode cX10_notes 31 = .ok (.getfield 9, 3) := by decide +kernel
theorem dX10_notes_34 : decode cX10_notes 34 = .ok (.sipush 146, 3) := by decide +kernel
theorem dX10_notes_37 : decode cX10_notes 37 = .ok (.iload_n 3, 1) := by decide +kernel
theorem dX10_notes_38 : decode cX10_notes 38 = .ok (.iadd, 1) := by decide +kernel
theorem dX10_notes_39 : decode cX10_notes 39 = .ok (.iaload, 1) := by decide +kernel
theorem dX10_notes_40 : decode cX10_notes 40 = .ok (.goto 4, 3) := by decide +kernel
theorem dX10_notes_43 : decode cX10_notes 43 = .ok (.iconst 0, 1) := by decide +kernel
theorem dX10_notes_44 : decode cX10_notes 44 = .ok (.iastore, 1) := by decide +kernel
theorem dX10_notes_45 : decode cX10_notes 45 = .ok (.aload_n 0, 1) := by decide +kernel
theorem dX10_notes_46 : decode cX10_notes 46 = .ok (.getfield 31, 3) := by decide +kernel
theorem dX10_notes_49 : decode cX10_notes 49 = .ok (.bipush 26, 2) := by decide +kernel
theorem dX10_notes_51 : decode cX10_notes 51 = .ok (.iload_n 1, 1) := by decide +kernel
theorem dX10_notes_52 : decode cX10_notes 52 = .ok (.imul, 1) := by decide +kernel
theorem dX10_notes_53 : decode cX10_notes 53 = .ok (.iconst 3, 1) := by decide +kernel
theorem dX10_notes_54 : decode cX10_notes 54 = .ok (.iload_n 3, 1) := by decide +kernel
theorem dX10_notes_55 : decode cX10_notes 55 = .ok (.imul, 1) := by decide +kernel
theorem dX10_notes_56 : decode cX10_notes 56 = .ok (.iadd, 1) := by decide +kernel
theorem dX10_notes_57 : decode cX10_notes 57 = .ok (.iconst 1, 1) := by decide +kernel
theorem dX10_notes_58 : decode cX10_notes 58 = .ok (.iadd, 1) := by decide +kernel
theorem dX10_notes_59 : decode cX10_notes 59 = .ok (.iload_n 3, 1) := by decide +kernel
theorem dX10_notes_60 : decode cX10_notes 60 = .ok (.aload_n 0, 1) := by decide +kernel
theorem dX10_notes_61 : decode cX10_notes 61 = .ok (.getfield 9, 3) := by decide +kernel
theorem dX10_notes_64 : decode cX10_notes 64 = .ok (.iconst 0, 1) := by decide +kernel
theorem dX10_notes_65 : decode cX10_notes 65 = .ok (.iaload, 1) := by decide +kernel
theorem dX10_notes_66 : decode cX10_notes 66 = .ok (.if_icmp .ge 16, 3) := by decide +kernel
theorem dX10_notes_69 : decode cX10_notes 69 = .ok (.aload_n 0, 1) := by decide +kernel
theorem dX10_notes_70 : decode cX10_notes 70 = .ok (.getfield 9, 3) := by decide +kernel
theorem dX10_notes_73 : decode cX10_notes 73 = .ok (.sipush 154, 3) := by decide +kernel
theorem dX10_notes_76 : decode cX10_notes 76 = .ok (.iload_n 3, 1) := by decide +kernel
theorem dX10_notes_77 : decode cX10_notes 77 = .ok (.iadd, 1) := by decide +kernel
theorem dX10_notes_78 : decode cX10_notes 78 = .ok (.iaload, 1) := by decide +kernel
theorem dX10_notes_79 : decode cX10_notes 79 = .ok (.goto 4, 3) := by decide +kernel
theorem dX10_notes_82 : decode cX10_notes 82 = .ok (.iconst 0, 1) := by decide +kernel
theorem dX10_notes_83 : decode cX10_notes 83 = .ok (.iastore, 1) := by decide +kernel
theorem dX10_notes_84 : decode cX10_notes 84 = .ok (.aload_n 0, 1) := by decide +kernel
theorem dX10_notes_85 : decode cX10_notes 85 = .ok (.getfield 31, 3) := by decide +kernel
theorem dX10_notes_88 : decode cX10_notes 88 = .ok (.bipush 26, 2) := by decide +kernel
theorem dX10_notes_90 : decode cX10_notes 90 = .ok (.iload_n 1, 1) := by decide +kernel
theorem dX10_notes_91 : decode cX10_notes 91 = .ok (.imul, 1) := by decide +kernel
theorem dX10_notes_92 : decode cX10_notes 92 = .ok (.iconst 3, 1) := by decide +kernel
theorem dX10_notes_93 : decode cX10_notes 93 = .ok (.iload_n 3, 1) := by decide +kernel
theorem dX10_notes_94 : decode cX10_notes 94 = .ok (.imul, 1) := by decide +kernel
theorem dX10_notes_95 : decode cX10_notes 95 = .ok (.iadd, 1) := by decide +kernel
theorem dX10_notes_96 : decode cX10_notes 96 = .ok (.iconst 2, 1) := by decide +kernel
theorem dX10_notes_97 : decode cX10_notes 97 = .ok (.iadd, 1) := by decide +kernel
theorem dX10_notes_98 : decode cX10_notes 98 = .ok (.iload_n 3, 1) := by decide +kernel
theorem dX10_notes_99 : decode cX10_notes 99 = .ok (.aload_n 0, 1) := by decide +kernel
theorem dX10_notes_100 : decode cX10_notes 100 = .ok (.getfield 9, 3) := by decide +kernel
theorem dX10_notes_103 : decode cX10_notes 103 = .ok (.iconst 0, 1) := by decide +kernel
theorem dX10_notes_104 : decode cX10_notes 104 = .ok (.iaload, 1) := by decide +kernel
theorem dX10_notes_105 : decode cX10_notes 105 = .ok (.if_icmp .ge 16, 3) := by decide +kernel
theorem dX10_notes_108 : decode cX10_notes 108 = .ok (.aload_n 0, 1) := by decide +kernel
theorem dX10_notes_109 : decode cX10_notes 109 = .ok (.getfield 9, 3) := by decide +kernel
theorem dX10_notes_112 : decode cX10_notes 112 = .ok (.sipush 162, 3) := by decide +kernel
theorem dX10_notes_115 : decode cX10_notes 115 = .ok (.iload_n 3, 1) := by decide +kernel
theorem dX10_notes_116 : decode cX10_notes 116 = .ok (.iadd, 1) := by decide +kernel
theorem dX10_notes_117 : decode cX10_notes 117 = .ok (.iaload, 1) := by decide +kernel
theorem dX10_notes_118 : decode cX10_notes 118 = .ok (.goto 4, 3) := by decide +kernel
theorem dX10_notes_121 : decode cX10_notes 121 = .ok (.iconst 0, 1) := by decide +kernel
theorem dX10_notes_122 : decode cX10_notes 122 = .ok (.iastore, 1) := by decide +kernel
theorem dX10_notes_123 : decode cX10_notes 123 = .ok (.iinc 3 1, 3) := by decide +kernel
theorem dX10_notes_126 : decode cX10_notes 126 = .ok (.goto (-124), 3) := by decide +kernel
theorem dX10_notes_129 : decode cX10_notes 129 = .ok (.aload_n 0, 1) := by decide +kernel
theorem dX10_notes_130 : decode cX10_notes 130 = .ok (.getfield 31, 3) := by decide +kernel
theorem dX10_notes_133 : decode cX10_notes 133 = .ok (.bipush 26, 2) := by decide +kernel
theorem dX10_notes_135 : decode cX10_notes 135 = .ok (.iload_n 1, 1) := by decide +kernel
theorem dX10_notes_136 : decode cX10_notes 136 = .ok (.imul, 1) := by decide +kernel
theorem dX10_notes_137 : decode cX10_notes 137 = .ok (.bipush 24, 2) := by decide +kernel
theorem dX10_notes_139 : decode cX10_notes 139 = .ok (.iadd, 1) := by decide +kernel
theorem dX10_notes_140 : decode cX10_notes 140 = .ok (.aload_n 0, 1) := by decide +kernel
theorem dX10_notes_141 : decode cX10_notes 141 = .ok (.getfield 9, 3) := by decide +kernel
theorem dX10_notes_144 : decode cX10_notes 144 = .ok (.bipush 7, 2) := by decide +kernel
theorem dX10_notes_146 : decode cX10_notes 146 = .ok (.iaload, 1) := by decide +kernel
theorem dX10_notes_147 : decode cX10_notes 147 = .ok (.iastore, 1) := by decide +kernel
theorem dX10_notes_148 : decode cX10_notes 148 = .ok (.aload_n 0, 1) := by decide +kernel
theorem dX10_notes_149 : decode cX10_notes 149 = .ok (.getfield 31, 3) := by decide +kernel
theorem dX10_notes_152 : decode cX10_notes 152 = .ok (.bipush 26, 2) := by decide +kernel
theorem dX10_notes_154 : decode cX10_notes 154 = .ok (.iload_n 1, 1) := by decide +kernel
theorem dX10_notes_155 : decode cX10_notes 155 = .ok (.imul, 1) := by decide +kernel
theorem dX10_notes_156 : decode cX10_notes 156 = .ok (.bipush 25, 2) := by decide +kernel
theorem dX10_notes_158 : decode cX10_notes 158 = .ok (.iadd, 1) := by decide +kernel
theorem dX10_notes_159 : decode cX10_notes 159 = .ok (.aload_n 0, 1) := by decide +kernel
theorem dX10_notes_160 : decode cX10_notes 160 = .ok (.getfield 9, 3) := by decide +kernel
theorem dX10_notes_163 : decode cX10_notes 163 = .ok (.iconst 3, 1) := by decide +kernel
theorem dX10_notes_164 : decode cX10_notes 164 = .ok (.iaload, 1) := by decide +kernel
theorem dX10_notes_165 : decode cX10_notes 165 = .ok (.iload_n 2, 1) := by decide +kernel
theorem dX10_notes_166 : decode cX10_notes 166 = .ok (.irem, 1) := by decide +kernel
theorem dX10_notes_167 : decode cX10_notes 167 = .ok (.iastore, 1) := by decide +kernel
theorem dX10_notes_168 : decode cX10_notes 168 = .ok (.return_, 1) := by decide +kernel
def fX10_notes_B122 (rc2 : Int → Int → Int → vr_M → Option (Int × vr_M)) (x1 : Int) (x2 : Int) (x3 : Int) (y1 : Int) (y2 : Int) (μ : vr_M) : Option (Int × vr_M) :=
  vr_gd (0 ≤ y1 ∧ y1 < 5226) (vr_gd (vr_R (x3 + 1)) (rc2 x1 x2 (x3 + 1) (vr_u μ 75 y1.toNat y2)))
def fX10_notes_B83 (rc2 : Int → Int → Int → vr_M → Option (Int × vr_M)) (x1 : Int) (x2 : Int) (x3 : Int) (y1 : Int) (y2 : Int) (μ : vr_M) : Option (Int × vr_M) :=
  vr_gd (0 ≤ y1 ∧ y1 < 5226) (vr_let (vr_u μ 75 y1.toNat y2) (fun μ4 => vr_gd (vr_R (μ4 69 0)) (if (μ4 69 0) ≤ x3 then vr_gd (vr_R (((26 * x1) + (3 * x3)) + 2)) (fX10_notes_B122 rc2 x1 x2 x3 (((26 * x1) + (3 * x3)) + 2) 0 μ4) else vr_gd (0 ≤ (162 + x3) ∧ (162 + x3) < 933) (vr_gd (vr_R (((26 * x1) + (3 * x3)) + 2)) (vr_gd (vr_R (μ4 69 (162 + x3).toNat)) (fX10_notes_B122 rc2 x1 x2 x3 (((26 * x1) + (3 * x3)) + 2) (μ4 69 (162 + x3).toNat) μ4))))))
def fX10_notes_B44 (rc2 : Int → Int → Int → vr_M → Option (Int × vr_M)) (x1 : Int) (x2 : Int) (x3 : Int) (y1 : Int) (y2 : Int) (μ : vr_M) : Option (Int × vr_M) :=
  vr_gd (0 ≤ y1 ∧ y1 < 5226) (vr_let (vr_u μ 75 y1.toNat y2) (fun μ11 => vr_gd (vr_R (μ11 69 0)) (if (μ11 69 0) ≤ x3 then vr_gd (vr_R (((26 * x1) + (3 * x3)) + 1)) (fX10_notes_B83 rc2 x1 x2 x3 (((26 * x1) + (3 * x3)) + 1) 0 μ11) else vr_gd (0 ≤ (154 + x3) ∧ (154 + x3) < 933) (vr_gd (vr_R (((26 * x1) + (3 * x3)) + 1)) (vr_gd (vr_R (μ11 69 (154 + x3).toNat)) (fX10_notes_B83 rc2 x1 x2 x3 (((26 * x1) + (3 * x3)) + 1) (μ11 69 (154 + x3).toNat) μ11))))))
def fX10_notes_L2 : Nat → Int → Int → Int → vr_M → Option (Int × vr_M)
  | 0, _, _, _, _ => none
  | n + 1, x1, x2, x3, μ => if 8 ≤ x3 then vr_gd (0 ≤ ((26 * x1) + 24) ∧ ((26 * x1) + 24) < 5226) (vr_let (vr_u μ 75 ((26 * x1) + 24).toNat (μ 69 7)) (fun μ18 => vr_gd (vr_R (μ18 69 3)) (vr_gd (¬ x2 = 0) (vr_gd (0 ≤ ((26 * x1) + 25) ∧ ((26 * x1) + 25) < 5226) (some (0, vr_u μ18 75 ((26 * x1) + 25).toNat ((μ18 69 3).tmod x2))))))) else vr_gd (vr_R (μ 69 0)) (if (μ 69 0) ≤ x3 then vr_gd (vr_R ((26 * x1) + (3 * x3))) (fX10_notes_B44 (fX10_notes_L2 n) x1 x2 x3 ((26 * x1) + (3 * x3)) 0 μ) else vr_gd (0 ≤ (146 + x3) ∧ (146 + x3) < 933) (vr_gd (vr_R ((26 * x1) + (3 * x3))) (vr_gd (vr_R (μ 69 (146 + x3).toNat)) (fX10_notes_B44 (fX10_notes_L2 n) x1 x2 x3 ((26 * x1) + (3 * x3)) (μ 69 (146 + x3).toNat) μ))))
def fX10_notes (a0 : Int) (a1 : Int) (μ : vr_M) : Option (Int × vr_M) :=
  fX10_notes_L2 9000 a0 a1 0 μ
set_option maxRecDepth 100000 in
set_option maxHeartbeats 4000000 in
theorem ct_X10_notes (l : Launch) (G : vr_G) (a0 : Int) (h_a0 : vr_R a0) (a1 : Int) (h_a1 : vr_R a1) (μ : vr_M) : vr_CV l yX10_notes cX10_notes 4 none ({ frames := 0, cells := 0, slots := 0, locals := 0 } : Room) G [.ref (vr_ad G 68), .int (vr_I a0), .int (vr_I a1)] μ (fX10_notes a0 a1 μ) := by
  refine vr_start (own := RX10) (by decide) rfl (Nat.le_of_ble_eq_true rfl) (fun p e s m args below meth c C0 => ?_)
  show vr_J p l e _ s m args below meth c 4 0 0 G (vr_Z (vr_QV G) G args s below) 0 [(0, .ref (vr_ad G 68)), (1, .int (vr_I a0)), (2, .int (vr_I a1))] [] μ _
  have L2 : ∀ (n : Nat) (x1 : Int) (h_x1 : vr_R x1) (x2 : Int) (h_x2 : vr_R x2) (x3 : Int) (h_x3 : vr_R x3) (μ : vr_M), vr_J p l e ({ frames := 0, cells := 0, slots := 0, locals := 0 } : Room) s m args below meth c 4 0 0 G (vr_Z (vr_QV G) G args s below) 2 [(0, .ref (vr_ad G 68)), (1, .int (vr_I x1)), (2, .int (vr_I x2)), (3, .int (vr_I x3))] [] μ (fX10_notes_L2 n x1 x2 x3 μ) := by
    intro n2
    induction n2 with
    | zero => intros; exact jr_none
    | succ n2 ih2 =>
      have B122 : ∀ (x1 : Int) (h_x1 : vr_R x1) (x2 : Int) (h_x2 : vr_R x2) (x3 : Int) (h_x3 : vr_R x3) (y1 : Int) (h_y1 : vr_R y1) (y2 : Int) (h_y2 : vr_R y2) (μ : vr_M), vr_J p l e ({ frames := 0, cells := 0, slots := 0, locals := 0 } : Room) s m args below meth c 4 0 0 G (vr_Z (vr_QV G) G args s below) 122 [(0, .ref (vr_ad G 68)), (1, .int (vr_I x1)), (2, .int (vr_I x2)), (3, .int (vr_I x3))] [.int (vr_I y2), .int (vr_I y1), .ref (vr_ad G 75)] μ (fX10_notes_B122 (fX10_notes_L2 n2) x1 x2 x3 y1 y2 μ) := by
        intro x1 h_x1 x2 h_x2 x3 h_x3 y1 h_y1 y2 h_y2 μ
        unfold fX10_notes_B122
        refine jr_gd (fun g1 => ?_)
        refine jr_iast C0 (by decide) kd_75 kl_75 g1 (j := y1.toNat) rfl dX10_notes_122 ?_
        refine jr_iinc C0 (q := 3) dX10_notes_123 rfl (by decide) (lv' := [(3, .int (vr_I (x3 + 1))), (0, .ref (vr_ad G 68)), (1, .int (vr_I x1)), (2, .int (vr_I x2))]) rfl ?_
        refine jr_goto C0 dX10_notes_126 (tgt := 2) (by decide) ?_
        refine jr_gd (fun g2 => ?_)
        refine jr_sub [1, 2, 3, 0] rfl ?_
        exact ih2 x1 h_x1 x2 h_x2 (x3 + 1) g2 _
      have B83 : ∀ (x1 : Int) (h_x1 : vr_R x1) (x2 : Int) (h_x2 : vr_R x2) (x3 : Int) (h_x3 : vr_R x3) (y1 : Int) (h_y1 : vr_R y1) (y2 : Int) (h_y2 : vr_R y2) (μ : vr_M), vr_J p l e ({ frames := 0, cells := 0, slots := 0, locals := 0 } : Room) s m args below meth c 4 0 0 G (vr_Z (vr_QV G) G args s below) 83 [(0, .ref (vr_ad G 68)), (1, .int (vr_I x1)), (2, .int (vr_I x2)), (3, .int (vr_I x3))] [.int (vr_I y2), .int (vr_I y1), .ref (vr_ad G 75)] μ (fX10_notes_B83 (fX10_notes_L2 n2) x1 x2 x3 y1 y2 μ) := by
        intro x1 h_x1 x2 h_x2 x3 h_x3 y1 h_y1 y2 h_y2 μ
        unfold fX10_notes_B83
        refine jr_gd (fun g3 => ?_)
        refine jr_iast C0 (by decide) kd_75 kl_75 g3 (j := y1.toNat) rfl dX10_notes_83 ?_
        refine jr_aload_n C0 0 dX10_notes_84 rfl rfl ?_
        refine jr_getr C0 (by decide) kd_68 (by decide) rfl wx_X10 (i := 19) (by decide) wf_X10_31 (j := 75) rfl dX10_notes_85 ?_
        refine jr_bipush C0 dX10_notes_88 rfl ?_
        refine jr_iload_n C0 1 dX10_notes_90 rfl rfl ?_
        refine jr_imul C0 dX10_notes_91 ?_
        refine jr_iconst C0 dX10_notes_92 ?_
        refine jr_iload_n C0 3 dX10_notes_93 rfl rfl ?_
        refine jr_imul C0 dX10_notes_94 ?_
        refine jr_iadd C0 dX10_notes_95 ?_
        refine jr_iconst C0 dX10_notes_96 ?_
        refine jr_iadd C0 dX10_notes_97 ?_
        refine jr_iload_n C0 3 dX10_notes_98 rfl rfl ?_
        refine jr_aload_n C0 0 dX10_notes_99 rfl rfl ?_
        refine jr_getr C0 (by decide) kd_68 (by decide) rfl wx_X10 (i := 1) (by decide) wf_X10_9 (j := 69) rfl dX10_notes_100 ?_
        refine jr_iconst C0 dX10_notes_103 ?_
        refine jr_let (fun μ4 => ?_)
        refine jr_iald C0 (by decide) kd_69 kl_69 (by decide) (j := 0) rfl dX10_notes_104 ?_
        refine jr_gd (fun g5 => ?_)
        refine jr_icmp_ge C0 h_x3 g5 dX10_notes_105 (tgt := 121) (by decide) ?_ ?_
        · refine jr_iconst C0 dX10_notes_121 ?_
          refine jr_gd (fun g6 => ?_)
          exact B122 x1 h_x1 x2 h_x2 x3 h_x3 (((26 * x1) + (3 * x3)) + 2) g6 0 (⟨by decide, by decide⟩) _
        refine jr_aload_n C0 0 dX10_notes_108 rfl rfl ?_
        refine jr_getr C0 (by decide) kd_68 (by decide) rfl wx_X10 (i := 1) (by decide) wf_X10_9 (j := 69) rfl dX10_notes_109 ?_
        refine jr_sipush C0 dX10_notes_112 rfl ?_
        refine jr_iload_n C0 3 dX10_notes_115 rfl rfl ?_
        refine jr_iadd C0 dX10_notes_116 ?_
        refine jr_gd (fun g7 => ?_)
        refine jr_iald C0 (by decide) kd_69 kl_69 g7 (j := (162 + x3).toNat) rfl dX10_notes_117 ?_
        refine jr_goto C0 dX10_notes_118 (tgt := 122) (by decide) ?_
        refine jr_gd (fun g8 => ?_)
        refine jr_gd (fun g9 => ?_)
        exact B122 x1 h_x1 x2 h_x2 x3 h_x3 (((26 * x1) + (3 * x3)) + 2) g8 (μ4 69 (162 + x3).toNat) g9 _
      have B44 : ∀ (x1 : Int) (h_x1 : vr_R x1) (x2 : Int) (h_x2 : vr_R x2) (x3 : Int) (h_x3 : vr_R x3) (y1 : Int) (h_y1 : vr_R y1) (y2 : Int) (h_y2 : vr_R y2) (μ : vr_M), vr_J p l e ({ frames := 0, cells := 0, slots := 0, locals := 0 } : Room) s m args below meth c 4 0 0 G (vr_Z (vr_QV G) G args s below) 44 [(0, .ref (vr_ad G 68)), (1, .int (vr_I x1)), (2, .int (vr_I x2)), (3, .int (vr_I x3))] [.int (vr_I y2), .int (vr_I y1), .ref (vr_ad G 75)] μ (fX10_notes_B44 (fX10_notes_L2 n2) x1 x2 x3 y1 y2 μ) := by
        intro x1 h_x1 x2 h_x2 x3 h_x3 y1 h_y1 y2 h_y2 μ
        unfold fX10_notes_B44
        refine jr_gd (fun g10 => ?_)
        refine jr_iast C0 (by decide) kd_75 kl_75 g10 (j := y1.toNat) rfl dX10_notes_44 ?_
        refine jr_aload_n C0 0 dX10_notes_45 rfl rfl ?_
        refine jr_getr C0 (by decide) kd_68 (by decide) rfl wx_X10 (i := 19) (by decide) wf_X10_31 (j := 75) rfl dX10_notes_46 ?_
        refine jr_bipush C0 dX10_notes_49 rfl ?_
        refine jr_iload_n C0 1 dX10_notes_51 rfl rfl ?_
        refine jr_imul C0 dX10_notes_52 ?_
        refine jr_iconst C0 dX10_notes_53 ?_
        refine jr_iload_n C0 3 dX10_notes_54 rfl rfl ?_
        refine jr_imul C0 dX10_notes_55 ?_
        refine jr_iadd C0 dX10_notes_56 ?_
        refine jr_iconst C0 dX10_notes_57 ?_
        refine jr_iadd C0 dX10_notes_58 ?_
        refine jr_iload_n C0 3 dX10_notes_59 rfl rfl ?_
        refine jr_aload_n C0 0 dX10_notes_60 rfl rfl ?_
        refine jr_getr C0 (by decide) kd_68 (by decide) rfl wx_X10 (i := 1) (by decide) wf_X10_9 (j := 69) rfl dX10_notes_61 ?_
        refine jr_iconst C0 dX10_notes_64 ?_
        refine jr_let (fun μ11 => ?_)
        refine jr_iald C0 (by decide) kd_69 kl_69 (by decide) (j := 0) rfl dX10_notes_65 ?_
        refine jr_gd (fun g12 => ?_)
        refine jr_icmp_ge C0 h_x3 g12 dX10_notes_66 (tgt := 82) (by decide) ?_ ?_
        · refine jr_iconst C0 dX10_notes_82 ?_
          refine jr_gd (fun g13 => ?_)
          exact B83 x1 h_x1 x2 h_x2 x3 h_x3 (((26 * x1) + (3 * x3)) + 1) g13 0 (⟨by decide, by decide⟩) _
        refine jr_aload_n C0 0 dX10_notes_69 rfl rfl ?_
        refine jr_getr C0 (by decide) kd_68 (by decide) rfl wx_X10 (i := 1) (by decide) wf_X10_9 (j := 69) rfl dX10_notes_70 ?_
        refine jr_sipush C0 dX10_notes_73 rfl ?_
        refine jr_iload_n C0 3 dX10_notes_76 rfl rfl ?_
        refine jr_iadd C0 dX10_notes_77 ?_
        refine jr_gd (fun g14 => ?_)
        refine jr_iald C0 (by decide) kd_69 kl_69 g14 (j := (154 + x3).toNat) rfl dX10_notes_78 ?_
        refine jr_goto C0 dX10_notes_79 (tgt := 83) (by decide) ?_
        refine jr_gd (fun g15 => ?_)
        refine jr_gd (fun g16 => ?_)
        exact B83 x1 h_x1 x2 h_x2 x3 h_x3 (((26 * x1) + (3 * x3)) + 1) g15 (μ11 69 (154 + x3).toNat) g16 _
      intro x1 h_x1 x2 h_x2 x3 h_x3 μ
      rw [fX10_notes_L2.eq_2]
      refine jr_iload_n C0 3 dX10_notes_2 rfl rfl ?_
      refine jr_bipush C0 dX10_notes_3 rfl ?_
      refine jr_icmp_ge C0 h_x3 (⟨by decide, by decide⟩) dX10_notes_5 (tgt := 129) (by decide) ?_ ?_
      · refine jr_aload_n C0 0 dX10_notes_129 rfl rfl ?_
        refine jr_getr C0 (by decide) kd_68 (by decide) rfl wx_X10 (i := 19) (by decide) wf_X10_31 (j := 75) rfl dX10_notes_130 ?_
        refine jr_bipush C0 dX10_notes_133 rfl ?_
        refine jr_iload_n C0 1 dX10_notes_135 rfl rfl ?_
        refine jr_imul C0 dX10_notes_136 ?_
        refine jr_bipush C0 dX10_notes_137 rfl ?_
        refine jr_iadd C0 dX10_notes_139 ?_
        refine jr_aload_n C0 0 dX10_notes_140 rfl rfl ?_
        refine jr_getr C0 (by decide) kd_68 (by decide) rfl wx_X10 (i := 1) (by decide) wf_X10_9 (j := 69) rfl dX10_notes_141 ?_
        refine jr_bipush C0 dX10_notes_144 rfl ?_
        refine jr_iald C0 (by decide) kd_69 kl_69 (by decide) (j := 7) rfl dX10_notes_146 ?_
        refine jr_gd (fun g17 => ?_)
        refine jr_iast C0 (by decide) kd_75 kl_75 g17 (j := ((26 * x1) + 24).toNat) rfl dX10_notes_147 ?_
        refine jr_aload_n C0 0 dX10_notes_148 rfl rfl ?_
        refine jr_getr C0 (by decide) kd_68 (by decide) rfl wx_X10 (i := 19) (by decide) wf_X10_31 (j := 75) rfl dX10_notes_149 ?_
        refine jr_bipush C0 dX10_notes_152 rfl ?_
        refine jr_iload_n C0 1 dX10_notes_154 rfl rfl ?_
        refine jr_imul C0 dX10_notes_155 ?_
        refine jr_bipush C0 dX10_notes_156 rfl ?_
        refine jr_iadd C0 dX10_notes_158 ?_
        refine jr_aload_n C0 0 dX10_notes_159 rfl rfl ?_
        refine jr_getr C0 (by decide) kd_68 (by decide) rfl wx_X10 (i := 1) (by decide) wf_X10_9 (j := 69) rfl dX10_notes_160 ?_
        refine jr_iconst C0 dX10_notes_163 ?_
        refine jr_let (fun μ18 => ?_)
        refine jr_iald C0 (by decide) kd_69 kl_69 (by decide) (j := 3) rfl dX10_notes_164 ?_
        refine jr_iload_n C0 2 dX10_notes_165 rfl rfl ?_
        refine jr_gd (fun g19 => ?_)
        refine jr_gd (fun g20 => ?_)
        refine jr_irem C0 g19 h_x2 g20 dX10_notes_166 ?_
        refine jr_gd (fun g21 => ?_)
        refine jr_iast C0 (by decide) kd_75 kl_75 g21 (j := ((26 * x1) + 25).toNat) rfl dX10_notes_167 ?_
        exact jr_vret C0 dX10_notes_168
      refine jr_aload_n C0 0 dX10_notes_8 rfl rfl ?_
      refine jr_getr C0 (by decide) kd_68 (by decide) rfl wx_X10 (i := 19) (by decide) wf_X10_31 (j := 75) rfl dX10_notes_9 ?_
      refine jr_bipush C0 dX10_notes_12 rfl ?_
      refine jr_iload_n C0 1 dX10_notes_14 rfl rfl ?_
      refine jr_imul C0 dX10_notes_15 ?_
      refine jr_iconst C0 dX10_notes_16 ?_
      refine jr_iload_n C0 3 dX10_notes_17 rfl rfl ?_
      refine jr_imul C0 dX10_notes_18 ?_
      refine jr_iadd C0 dX10_notes_19 ?_
      refine jr_iload_n C0 3 dX10_notes_20 rfl rfl ?_
      refine jr_aload_n C0 0 dX10_notes_21 rfl rfl ?_
      refine jr_getr C0 (by decide) kd_68 (by decide) rfl wx_X10 (i := 1) (by decide) wf_X10_9 (j := 69) rfl dX10_notes_22 ?_
      refine jr_iconst C0 dX10_notes_25 ?_
      refine jr_iald C0 (by decide) kd_69 kl_69 (by decide) (j := 0) rfl dX10_notes_26 ?_
      refine jr_gd (fun g22 => ?_)
      refine jr_icmp_ge C0 h_x3 g22 dX10_notes_27 (tgt := 43) (by decide) ?_ ?_
      · refine jr_iconst C0 dX10_notes_43 ?_
        refine jr_gd (fun g23 => ?_)
        exact B44 x1 h_x1 x2 h_x2 x3 h_x3 ((26 * x1) + (3 * x3)) g23 0 (⟨by decide, by decide⟩) _
      refine jr_aload_n C0 0 dX10_notes_30 rfl rfl ?_
      refine jr_getr C0 (by decide) kd_68 (by decide) rfl wx_X10 (i := 1) (by decide) wf_X10_9 (j := 69) rfl dX10_notes_31 ?_
      refine jr_sipush C0 dX10_notes_34 rfl ?_
      refine jr_iload_n C0 3 dX10_notes_37 rfl rfl ?_
      refine jr_iadd C0 dX10_notes_38 ?_
      refine jr_gd (fun g24 => ?_)
      refine jr_iald C0 (by decide) kd_69 kl_69 g24 (j := (146 + x3).toNat) rfl dX10_notes_39 ?_
      refine jr_goto C0 dX10_notes_40 (tgt := 44) (by decide) ?_
      refine jr_gd (fun g25 => ?_)
      refine jr_gd (fun g26 => ?_)
      exact B44 x1 h_x1 x2 h_x2 x3 h_x3 ((26 * x1) + (3 * x3)) g25 (μ 69 (146 + x3).toNat) g26 _
  unfold fX10_notes
  refine jr_iconst C0 dX10_notes_0 ?_
  refine jr_istore_n C0 dX10_notes_1 rfl (by decide) (lv' := [(3, .int (vr_I 0)), (0, .ref (vr_ad G 68)), (1, .int (vr_I a0)), (2, .int (vr_I a1))]) rfl ?_
  refine jr_sub [1, 2, 3, 0] rfl ?_
  exact L2 9000 a0 h_a0 a1 h_a1 0 (⟨by decide, by decide⟩) _
theorem dX10_formerOf_0 : decode cX10_formerOf 0 = .ok (.iconst 0, 1) := by decide +kernel
theorem dX10_formerOf_1 : decode cX10_formerOf 1 = .ok (.istore_n 2, 1) := by decide +kernel
theorem dX10_formerOf_2 : decode cX10_formerOf 2 = .ok (.iload_n 2, 1) := by decide +kernel
theorem dX10_formerOf_3 : decode cX10_formerOf 3 = .ok (.iload_n 1, 1) := by decide +kernel
theorem dX10_formerOf_4 : decode cX10_formerOf 4 = .ok (.if_icmp .ge 70, 3) := by decide +kernel
theorem dX10_formerOf_7 : decode cX10_formerOf 7 = .ok (.iconst 1, 1) := by decide +kernel
theorem dX10_formerOf_8 : decode cX10_formerOf 8 = .ok (.istore_n 3, 1) := by decide +kernel
theorem dX10_formerOf_9 : decode cX10_formerOf 9 = .ok (.iconst 0, 1) := by decide +kernel
theorem dX10_formerOf_10 : decode cX10_formerOf 10 = .ok (.istore 4, 2) := by decide +kernel
theorem dX10_formerOf_12 : decode cX10_formerOf 12 = .ok (.iload 4, 2) := by decide +kernel
theorem dX10_formerOf_14 : decode cX10_formerOf 14 = .ok (.bipush 26, 2) := by decide +kernel
theorem dX10_formerOf_16 : decode cX10_formerOf 16 = .ok (.if_icmp .ge 46, 3) := by decide +kernel
theorem dX10_formerOf_19 : decode cX10_formerOf 19 = .ok (.iload_n 3, 1) := by decide +kernel
theorem dX10_formerOf_20 : decode cX10_formerOf 20 = .ok (.ifCond .eq 42, 3) := by decide +kernel
theorem dX10_formerOf_23 : decode cX10_formerOf 23 = .ok (.aload_n 0, 1) := by decide +kernel
theorem dX10_formerOf_24 : decode cX10_formerOf 24 = .ok (.getfield 31, 3) := by decide +kernel
theorem dX10_formerOf_27 : decode cX10_formerOf 27 = .ok (.bipush 26, 2) := by decide +kernel
theorem dX10_formerOf_29 : decode cX10_formerOf 29 = .ok (.iload_n 2, 1) := by decide +kernel
theorem dX10_formerOf_30 : decode cX10_formerOf 30 = .ok (.imul, 1) := by decide +kernel
theorem dX10_formerOf_31 : decode cX10_formerOf 31 = .ok (.iload 4, 2) := by decide +kernel
theorem dX10_formerOf_33 : decode cX10_formerOf 33 = .ok (.iadd, 1) := by decide +kernel
theorem dX10_formerOf_34 : decode cX10_formerOf 34 = .ok (.iaload, 1) := by decide +kernel
theorem dX10_formerOf_35 : decode cX10_formerOf 35 = .ok (.aload_n 0, 1) := by decide +kernel
theorem dX10_formerOf_36 : decode cX10_formerOf 36 = .ok (.getfield 31, 3) := by decide +kernel
theorem dX10_formerOf_39 : decode cX10_formerOf 39 = .ok (.bipush 26, 2) := by decide +kernel
theorem dX10_formerOf_41 : decode cX10_formerOf 41 = .ok (.iload_n 1, 1) := by decide +kernel
theorem dX10_formerOf_42 : decode cX10_formerOf 42 = .ok (.imul, 1) := by decide +kernel
theorem dX10_formerOf_43 : decode cX10_formerOf 43 = .ok (.iload 4, 2) := by decide +kernel
theorem dX10_formerOf_45 : decode cX10_formerOf 45 = .ok (.iadd, 1) := by decide +kernel
theorem dX10_formerOf_46 : decode cX10_formerOf 46 = .ok (.iaload, 1) := by decide +kernel
theorem dX10_formerOf_47 : decode cX10_formerOf 47 = .ok (.if_icmp .ne 7, 3) := by decide +kernel
theorem dX10_formerOf_50 : decode cX10_formerOf 50 = .ok (.iconst 1, 1) := by decide +kernel
theorem dX10_formerOf_51 : decode cX10_formerOf 51 = .ok (.goto 4, 3) := by decide +kernel
theorem dX10_formerOf_54 : decode cX10_formerOf 54 = .ok (.iconst 0, 1) := by decide +kernel
theorem dX10_formerOf_55 : decode cX10_formerOf 55 = .ok (.istore_n 3, 1) := by decide +kernel
theorem dX10_formerOf_56 : decode cX10_formerOf 56 = .ok (.iinc 4 1, 3) := by decide +kernel
theorem dX10_formerOf_59 : decode cX10_formerOf 59 = .ok (.goto (-47), 3) := by decide +kernel
theorem dX10_formerOf_62 : decode cX10_formerOf 62 = .ok (.iload_n 3, 1) := by decide +kernel
theorem dX10_formerOf_63 : decode cX10_formerOf 63 = .ok (.ifCond .eq 5, 3) := by decide +kernel
theorem dX10_formerOf_66 : decode cX10_formerOf 66 = .ok (.iload_n 2, 1) := by decide +kernel
theorem dX10_formerOf_67 : decode cX10_formerOf 67 = .ok (.ireturn, 1) := by decide +kernel
theorem dX10_formerOf_68 : decode cX10_formerOf 68 = .ok (.iinc 2 1, 3) := by decide +kernel
theorem dX10_formerOf_71 : decode cX10_formerOf 71 = .ok (.goto (-69), 3) := by decide +kernel
theorem dX10_formerOf_74 : decode cX10_formerOf 74 = .ok (.iconst (-1), 1) := by decide +kernel
theorem dX10_formerOf_75 : decode cX10_formerOf 75 = .ok (.ireturn, 1) := by decide +kernel
def fX10_formerOf_B62 (rc2 : Int → Int → vr_M → Option (Int × vr_M)) (x1 : Int) (x2 : Int) (x3 : Int) (μ : vr_M) : Option (Int × vr_M) :=
  if x3 = 0 then vr_gd (vr_R (x2 + 1)) (rc2 x1 (x2 + 1) μ) else some (x2, μ)
def fX10_formerOf_B55 (rc2 : Int → Int → vr_M → Option (Int × vr_M)) (rc12 : Int → Int → Int → Int → vr_M → Option (Int × vr_M)) (x1 : Int) (x2 : Int) (x4 : Int) (y0 : Int) (μ : vr_M) : Option (Int × vr_M) :=
  vr_gd (vr_R (x4 + 1)) (rc12 x1 x2 y0 (x4 + 1) μ)
def fX10_formerOf_L12 (rc2 : Int → Int → vr_M → Option (Int × vr_M)) : Nat → Int → Int → Int → Int → vr_M → Option (Int × vr_M)
  | 0, _, _, _, _, _ => none
  | n + 1, x1, x2, x3, x4, μ => if 26 ≤ x4 then fX10_formerOf_B62 rc2 x1 x2 x3 μ else if x3 = 0 then fX10_formerOf_B62 rc2 x1 x2 x3 μ else vr_gd (0 ≤ ((26 * x2) + x4) ∧ ((26 * x2) + x4) < 5226) (vr_gd (0 ≤ ((26 * x1) + x4) ∧ ((26 * x1) + x4) < 5226) (vr_gd (vr_R (μ 75 ((26 * x2) + x4).toNat)) (vr_gd (vr_R (μ 75 ((26 * x1) + x4).toNat)) (if ¬ (μ 75 ((26 * x2) + x4).toNat) = (μ 75 ((26 * x1) + x4).toNat) then fX10_formerOf_B55 rc2 (fX10_formerOf_L12 rc2 n) x1 x2 x4 0 μ else fX10_formerOf_B55 rc2 (fX10_formerOf_L12 rc2 n) x1 x2 x4 1 μ))))
def fX10_formerOf_L2 : Nat → Int → Int → vr_M → Option (Int × vr_M)
  | 0, _, _, _ => none
  | n + 1, x1, x2, μ => if x1 ≤ x2 then some ((-1), μ) else fX10_formerOf_L12 (fX10_formerOf_L2 n) 9000 x1 x2 1 0 μ
def fX10_formerOf (a0 : Int) (μ : vr_M) : Option (Int × vr_M) :=
  fX10_formerOf_L2 9000 a0 0 μ
set_option maxRecDepth 100000 in
set_option maxHeartbeats 4000000 in
theorem ct_X10_formerOf (l : Launch) (G : vr_G) (a0 : Int) (h_a0 : vr_R a0) (μ : vr_M) : vr_CI l yX10_formerOf cX10_formerOf 5 (some .int) ({ frames := 0, cells := 0, slots := 0, locals := 0 } : Room) G [.ref (vr_ad G 68), .int (vr_I a0)] μ (fX10_formerOf a0 μ) := by
  refine vr_start (own := RX10) (by decide) rfl (Nat.le_of_ble_eq_true rfl) (fun p e s m args below meth c C0 => ?_)
  show vr_J p l e _ s m args below meth c 5 0 0 G (vr_Z (vr_QI G) G args s below) 0 [(0, .ref (vr_ad G 68)), (1, .int (vr_I a0))] [] μ _
  have L2 : ∀ (n : Nat) (x1 : Int) (h_x1 : vr_R x1) (x2 : Int) (h_x2 : vr_R x2) (μ : vr_M), vr_J p l e ({ frames := 0, cells := 0, slots := 0, locals := 0 } : Room) s m args below meth c 5 0 0 G (vr_Z (vr_QI G) G args s below) 2 [(0, .ref (vr_ad G 68)), (1, .int (vr_I x1)), (2, .int (vr_I x2))] [] μ (fX10_formerOf_L2 n x1 x2 μ) := by
    intro n2
    induction n2 with
    | zero => intros; exact jr_none
    | succ n2 ih2 =>
      have B62 : ∀ (x1 : Int) (h_x1 : vr_R x1) (x2 : Int) (h_x2 : vr_R x2) (x3 : Int) (h_x3 : vr_R x3) (μ : vr_M), vr_J p l e ({ frames := 0, cells := 0, slots := 0, locals := 0 } : Room) s m args below meth c 5 0 0 G (vr_Z (vr_QI G) G args s below) 62 [(0, .ref (vr_ad G 68)), (1, .int (vr_I x1)), (2, .int (vr_I x2)), (3, .int (vr_I x3))] [] μ (fX10_formerOf_B62 (fX10_formerOf_L2 n2) x1 x2 x3 μ) := by
        intro x1 h_x1 x2 h_x2 x3 h_x3 μ
        unfold fX10_formerOf_B62
        refine jr_iload_n C0 3 dX10_formerOf_62 rfl rfl ?_
        refine jr_if_eq C0 h_x3 dX10_formerOf_63 (tgt := 68) (by decide) ?_ ?_
        · refine jr_iinc C0 (q := 2) dX10_formerOf_68 rfl (by decide) (lv' := [(2, .int (vr_I (x2 + 1))), (0, .ref (vr_ad G 68)), (1, .int (vr_I x1)), (3, .int (vr_I x3))]) rfl ?_
          refine jr_goto C0 dX10_formerOf_71 (tgt := 2) (by decide) ?_
          refine jr_gd (fun g1 => ?_)
          refine jr_sub [1, 2, 0] rfl ?_
          exact ih2 x1 h_x1 (x2 + 1) g1 _
        refine jr_iload_n C0 2 dX10_formerOf_66 rfl rfl ?_
        exact jr_iret C0 h_x2 dX10_formerOf_67
      have L12 : ∀ (n : Nat) (x1 : Int) (h_x1 : vr_R x1) (x2 : Int) (h_x2 : vr_R x2) (x3 : Int) (h_x3 : vr_R x3) (x4 : Int) (h_x4 : vr_R x4) (μ : vr_M), vr_J p l e ({ frames := 0, cells := 0, slots := 0, locals := 0 } : Room) s m args below meth c 5 0 0 G (vr_Z (vr_QI G) G args s below) 12 [(0, .ref (vr_ad G 68)), (1, .int (vr_I x1)), (2, .int (vr_I x2)), (3, .int (vr_I x3)), (4, .int (vr_I x4))] [] μ (fX10_formerOf_L12 (fX10_formerOf_L2 n2) n x1 x2 x3 x4 μ) := by
        intro n12
        induction n12 with
        | zero => intros; exact jr_none
        | succ n12 ih12 =>
          have B55 : ∀ (x1 : Int) (h_x1 : vr_R x1) (x2 : Int) (h_x2 : vr_R x2) (x4 : Int) (h_x4 : vr_R x4) (y0 : Int) (h_y0 : vr_R y0) (μ : vr_M), vr_J p l e ({ frames := 0, cells := 0, slots := 0, locals := 0 } : Room) s m args below meth c 5 0 0 G (vr_Z (vr_QI G) G args s below) 55 [(0, .ref (vr_ad G 68)), (1, .int (vr_I x1)), (2, .int (vr_I x2)), (4, .int (vr_I x4))] [.int (vr_I y0)] μ (fX10_formerOf_B55 (fX10_formerOf_L2 n2) (fX10_formerOf_L12 (fX10_formerOf_L2 n2) n12) x1 x2 x4 y0 μ) := by
            intro x1 h_x1 x2 h_x2 x4 h_x4 y0 h_y0 μ
            unfold fX10_formerOf_B55
            refine jr_istore_n C0 dX10_formerOf_55 rfl (by decide) (lv' := [(3, .int (vr_I y0)), (0, .ref (vr_ad G 68)), (1, .int (vr_I x1)), (2, .int (vr_I x2)), (4, .int (vr_I x4))]) rfl ?_
            refine jr_iinc C0 (q := 4) dX10_formerOf_56 rfl (by decide) (lv' := [(4, .int (vr_I (x4 + 1))), (3, .int (vr_I y0)), (0, .ref (vr_ad G 68)), (1, .int (vr_I x1)), (2, .int (vr_I x2))]) rfl ?_
            refine jr_goto C0 dX10_formerOf_59 (tgt := 12) (by decide) ?_
            refine jr_gd (fun g2 => ?_)
            refine jr_sub [2, 3, 4, 1, 0] rfl ?_
            exact ih12 x1 h_x1 x2 h_x2 y0 h_y0 (x4 + 1) g2 _
          intro x1 h_x1 x2 h_x2 x3 h_x3 x4 h_x4 μ
          rw [fX10_formerOf_L12.eq_2]
          refine jr_iload C0 4 dX10_formerOf_12 rfl ?_
          refine jr_bipush C0 dX10_formerOf_14 rfl ?_
          refine jr_icmp_ge C0 h_x4 (⟨by decide, by decide⟩) dX10_formerOf_16 (tgt := 62) (by decide) ?_ ?_
          · refine jr_sub [0, 1, 2, 3] rfl ?_
            exact B62 x1 h_x1 x2 h_x2 x3 h_x3 _
          refine jr_iload_n C0 3 dX10_formerOf_19 rfl rfl ?_
          refine jr_if_eq C0 h_x3 dX10_formerOf_20 (tgt := 62) (by decide) ?_ ?_
          · refine jr_sub [0, 1, 2, 3] rfl ?_
            exact B62 x1 h_x1 x2 h_x2 x3 h_x3 _
          refine jr_aload_n C0 0 dX10_formerOf_23 rfl rfl ?_
          refine jr_getr C0 (by decide) kd_68 (by decide) rfl wx_X10 (i := 19) (by decide) wf_X10_31 (j := 75) rfl dX10_formerOf_24 ?_
          refine jr_bipush C0 dX10_formerOf_27 rfl ?_
          refine jr_iload_n C0 2 dX10_formerOf_29 rfl rfl ?_
          refine jr_imul C0 dX10_formerOf_30 ?_
          refine jr_iload C0 4 dX10_formerOf_31 rfl ?_
          refine jr_iadd C0 dX10_formerOf_33 ?_
          refine jr_gd (fun g3 => ?_)
          refine jr_iald C0 (by decide) kd_75 kl_75 g3 (j := ((26 * x2) + x4).toNat) rfl dX10_formerOf_34 ?_
          refine jr_aload_n C0 0 dX10_formerOf_35 rfl rfl ?_
          refine jr_getr C0 (by decide) kd_68 (by decide) rfl wx_X10 (i := 19) (by decide) wf_X10_31 (j := 75) rfl dX10_formerOf_36 ?_
          refine jr_bipush C0 dX10_formerOf_39 rfl ?_
          refine jr_iload_n C0 1 dX10_formerOf_41 rfl rfl ?_
          refine jr_imul C0 dX10_formerOf_42 ?_
          refine jr_iload C0 4 dX10_formerOf_43 rfl ?_
          refine jr_iadd C0 dX10_formerOf_45 ?_
          refine jr_gd (fun g4 => ?_)
          refine jr_iald C0 (by decide) kd_75 kl_75 g4 (j := ((26 * x1) + x4).toNat) rfl dX10_formerOf_46 ?_
          refine jr_gd (fun g5 => ?_)
          refine jr_gd (fun g6 => ?_)
          refine jr_icmp_ne C0 g5 g6 dX10_formerOf_47 (tgt := 54) (by decide) ?_ ?_
          · refine jr_iconst C0 dX10_formerOf_54 ?_
            refine jr_sub [0, 1, 2, 4] rfl ?_
            exact B55 x1 h_x1 x2 h_x2 x4 h_x4 0 (⟨by decide, by decide⟩) _
          refine jr_iconst C0 dX10_formerOf_50 ?_
          refine jr_goto C0 dX10_formerOf_51 (tgt := 55) (by decide) ?_
          refine jr_sub [0, 1, 2, 4] rfl ?_
          exact B55 x1 h_x1 x2 h_x2 x4 h_x4 1 (⟨by decide, by decide⟩) _
      intro x1 h_x1 x2 h_x2 μ
      rw [fX10_formerOf_L2.eq_2]
      refine jr_iload_n C0 2 dX10_formerOf_2 rfl rfl ?_
      refine jr_iload_n C0 1 dX10_formerOf_3 rfl rfl ?_
      refine jr_icmp_ge C0 h_x2 h_x1 dX10_formerOf_4 (tgt := 74) (by decide) ?_ ?_
      · refine jr_iconst C0 dX10_formerOf_74 ?_
        exact jr_iret C0 (⟨by decide, by decide⟩) dX10_formerOf_75
      refine jr_iconst C0 dX10_formerOf_7 ?_
      refine jr_istore_n C0 dX10_formerOf_8 rfl (by decide) (lv' := [(3, .int (vr_I 1)), (0, .ref (vr_ad G 68)), (1, .int (vr_I x1)), (2, .int (vr_I x2))]) rfl ?_
      refine jr_iconst C0 dX10_formerOf_9 ?_
      refine jr_istore C0 dX10_formerOf_10 (by decide) (lv' := [(4, .int (vr_I 0)), (3, .int (vr_I 1)), (0, .ref (vr_ad G 68)), (1, .int (vr_I x1)), (2, .int (vr_I x2))]) rfl ?_
      refine jr_sub [2, 3, 4, 1, 0] rfl ?_
      exact L12 9000 x1 h_x1 x2 h_x2 1 (⟨by decide, by decide⟩) 0 (⟨by decide, by decide⟩) _
  unfold fX10_formerOf
  refine jr_iconst C0 dX10_formerOf_0 ?_
  refine jr_istore_n C0 dX10_formerOf_1 rfl (by decide) (lv' := [(2, .int (vr_I 0)), (0, .ref (vr_ad G 68)), (1, .int (vr_I a0))]) rfl ?_
  refine jr_sub [1, 2, 0] rfl ?_
  exact L2 9000 a0 h_a0 0 (⟨by decide, by decide⟩) _
theorem dX10_ever_0 : decode cX10_ever 0 = .ok (.aload_n 0, 1) := by decide +kernel
theorem dX10_ever_1 : decode cX10_ever 1 = .ok (.iload_n 1, 1) := by decide +kernel
theorem dX10_ever_2 : decode cX10_ever 2 = .ok (.invokevirtual 190, 3) := by decide +kernel
theorem dX10_ever_5 : decode cX10_ever 5 = .ok (.ifCond .eq 12, 3) := by decide +kernel
theorem dX10_ever_8 : decode cX10_ever 8 = .ok (.iload_n 2, 1) := by decide +kernel
theorem dX10_ever_9 : decode cX10_ever 9 = .ok (.iconst 0, 1) := by decide +kernel
theorem dX10_ever_10 : decode cX10_ever 10 = .ok (.iconst 2, 1) := by decide +kernel
theorem dX10_ever_11 : decode cX10_ever 11 = .ok (.invokestatic 44, 3) := by decide +kernel
theorem dX10_ever_14 : decode cX10_ever 14 = .ok (.ifCond .ne 5, 3) := by decide +kernel
theorem dX10_ever_17 : decode cX10_ever 17 = .ok (.iconst (-1), 1) := by decide +kernel
theorem dX10_ever_18 : decode cX10_ever 18 = .ok (.ireturn, 1) := by decide +kernel
theorem dX10_ever_19 : decode cX10_ever 19 = .ok (.aload_n 0, 1) := by decide +kernel
theorem dX10_ever_20 : decode cX10_ever 20 = .ok (.getfield 9, 3) := by decide +kernel
theorem dX10_ever_23 : decode cX10_ever 23 = .ok (.sipush 170, 3) := by decide +kernel
theorem dX10_ever_26 : decode cX10_ever 26 = .ok (.iload_n 1, 1) := by decide +kernel
theorem dX10_ever_27 : decode cX10_ever 27 = .ok (.iadd, 1) := by decide +kernel
theorem dX10_ever_28 : decode cX10_ever 28 = .ok (.iaload, 1) := by decide +kernel
theorem dX10_ever_29 : decode cX10_ever 29 = .ok (.istore_n 3, 1) := by decide +kernel
theorem dX10_ever_30 : decode cX10_ever 30 = .ok (.aload_n 0, 1) := by decide +kernel
theorem dX10_ever_31 : decode cX10_ever 31 = .ok (.getfield 9, 3) := by decide +kernel
theorem dX10_ever_34 : decode cX10_ever 34 = .ok (.sipush 178, 3) := by decide +kernel
theorem dX10_ever_37 : decode cX10_ever 37 = .ok (.iload_n 1, 1) := by decide +kernel
theorem dX10_ever_38 : decode cX10_ever 38 = .ok (.iadd, 1) := by decide +kernel
theorem dX10_ever_39 : decode cX10_ever 39 = .ok (.iaload, 1) := by decide +kernel
theorem dX10_ever_40 : decode cX10_ever 40 = .ok (.istore 4, 2) := by decide +kernel
theorem dX10_ever_42 : decode cX10_ever 42 = .ok (.iload_n 3, 1) := by decide +kernel
theorem dX10_ever_43 : decode cX10_ever 43 = .ok (.iconst 1, 1) := by decide +kernel
theorem dX10_ever_44 : decode cX10_ever 44 = .ok (.if_icmp .ne 8, 3) := by decide +kernel
theorem dX10_ever_47 : decode cX10_ever 47 = .ok (.iload 4, 2) := by decide +kernel
theorem dX10_ever_49 : decode cX10_ever 49 = .ok (.goto 4, 3) := by decide +kernel
theorem dX10_ever_52 : decode cX10_ever 52 = .ok (.iconst 1, 1) := by decide +kernel
theorem dX10_ever_53 : decode cX10_ever 53 = .ok (.istore 5, 2) := by decide +kernel
theorem dX10_ever_55 : decode cX10_ever 55 = .ok (.aload_n 0, 1) := by decide +kernel
theorem dX10_ever_56 : decode cX10_ever 56 = .ok (.invokevirtual 217, 3) := by decide +kernel
theorem dX10_ever_59 : decode cX10_ever 59 = .ok (.aload_n 0, 1) := by decide +kernel
theorem dX10_ever_60 : decode cX10_ever 60 = .ok (.iconst 0, 1) := by decide +kernel
theorem dX10_ever_61 : decode cX10_ever 61 = .ok (.iload 5, 2) := by decide +kernel
theorem dX10_ever_63 : decode cX10_ever 63 = .ok (.invokevirtual 230, 3) := by decide +kernel
theorem dX10_ever_66 : decode cX10_ever 66 = .ok (.bipush (-9), 2) := by decide +kernel
theorem dX10_ever_68 : decode cX10_ever 68 = .ok (.istore 6, 2) := by decide +kernel
theorem dX10_ever_70 : decode cX10_ever 70 = .ok (.iconst (-1), 1) := by decide +kernel
theorem dX10_ever_71 : decode cX10_ever 71 = .ok (.istore 7, 2) := by decide +kernel
theorem dX10_ever_73 : decode cX10_ever 73 = .ok (.iconst 1, 1) := by decide +kernel
theorem dX10_ever_74 : decode cX10_ever 74 = .ok (.istore 8, 2) := by decide +kernel
theorem dX10_ever_76 : decode cX10_ever 76 = .ok (.iload 8, 2) := by decide +kernel
theorem dX10_ever_78 : decode cX10_ever 78 = .ok (.sipush 200, 3) := by decide +kernel
theorem dX10_ever_81 : decode cX10_ever 81 = .ok (.if_icmp .gt 64, 3) := by decide +kernel
theorem dX10_ever_84 : decode cX10_ever 84 = .ok (.iload 6, 2) := by decide +kernel
theorem dX10_ever_86 : decode cX10_ever 86 = .ok (.bipush (-9), 2) := by decide +kernel
theorem dX10_ever_88 : decode cX10_ever 88 = .ok (.if_icmp .ne 57, 3) := by decide +kernel
theorem dX10_ever_91 : decode cX10_ever 91 = .ok (.aload_n 0, 1) := by decide +kernel
theorem dX10_ever_92 : decode cX10_ever 92 = .ok (.getfield 34, 3) := by decide +kernel
theorem dX10_ever_95 : decode cX10_ever 95 = .ok (.iload 8, 2) := by decide +kernel
theorem dX10_ever_97 : decode cX10_ever 97 = .ok (.iconst 1, 1) := by decide +kernel
theorem dX10_ever_98 : decode cX10_ever 98 = .ok (.isub, 1) := by decide +kernel
theorem dX10_ever_99 : decode cX10_ever 99 = .ok (.aload_n 0, 1) := by decide +kernel
theorem dX10_ever_100 : decode cX10_ever 100 = .ok (.iload_n 3, 1) := by decide +kernel
theorem dX10_ever_101 : decode cX10_ever 101 = .ok (.iload 4, 2) := by decide +kernel
theorem dX10_ever_103 : decode cX10_ever 103 = .ok (.iconst 0, 1) := by decide +kernel
theorem dX10_ever_104 : decode cX10_ever 104 = .ok (.invokevirtual 214, 3) := by decide +kernel
theorem dX10_ever_107 : decode cX10_ever 107 = .ok (.iastore, 1) := by decide +kernel
theorem dX10_ever_108 : decode cX10_ever 108 = .ok (.aload_n 0, 1) := by decide +kernel
theorem dX10_ever_109 : decode cX10_ever 109 = .ok (.iload 8, 2) := by decide +kernel
theorem dX10_ever_111 : decode cX10_ever 111 = .ok (.iload 5, 2) := by decide +kernel
theorem dX10_ever_113 : decode cX10_ever 113 = .ok (.invokevirtual 230, 3) := by decide +kernel
theorem dX10_ever_116 : decode cX10_ever 116 = .ok (.aload_n 0, 1) := by decide +kernel
theorem dX10_ever_117 : decode cX10_ever 117 = .ok (.iload 8, 2) := by decide +kernel
theorem dX10_ever_119 : decode cX10_ever 119 = .ok (.invokevirtual 234, 3) := by decide +kernel
theorem dX10_ever_122 : decode cX10_ever 122 = .ok (.istore 7, 2) := by decide +kernel
theorem dX10_ever_124 : decode cX10_ever 124 = .ok (.iload 7, 2) := by decide +kernel
theorem dX10_ever_126 : decode cX10_ever 126 = .ok (.iconst (-1), 1) := by decide +kernel
theorem dX10_ever_127 : decode cX10_ever 127 = .ok (.if_icmp .ne 8, 3) := by decide +kernel
theorem dX10_ever_130 : decode cX10_ever 130 = .ok (.bipush (-9), 2) := by decide +kernel
theorem dX10_ever_132 : decode cX10_ever 132 = .ok (.goto 5, 3) := by decide +kernel
theorem dX10_ever_135 : decode cX10_ever 135 = .ok (.iload 8, 2) := by decide +kernel
theorem dX10_ever_137 : decode cX10_ever 137 = .ok (.istore 6, 2) := by decide +kernel
theorem dX10_ever_139 : decode cX10_ever 139 = .ok (.iinc 8 1, 3) := by decide +kernel
theorem dX10_ever_142 : decode cX10_ever 142 = .ok (.goto (-66), 3) := by decide +kernel
theorem dX10_ever_145 : decode cX10_ever 145 = .ok (.aload_n 0, 1) := by decide +kernel
theorem dX10_ever_146 : decode cX10_ever 146 = .ok (.invokevirtual 220, 3) := by decide +kernel
theorem dX10_ever_149 : decode cX10_ever 149 = .ok (.iload 6, 2) := by decide +kernel
theorem dX10_ever_151 : decode cX10_ever 151 = .ok (.bipush (-9), 2) := by decide +kernel
theorem dX10_ever_153 : decode cX10_ever 153 = .ok (.if_icmp .eq 7, 3) := by decide +kernel
theorem dX10_ever_156 : decode cX10_ever 156 = .ok (.iload_n 2, 1) := by decide +kernel
theorem dX10_ever_157 : decode cX10_ever 157 = .ok (.ifCond .ne 6, 3) := by decide +kernel
theorem dX10_ever_160 : decode cX10_ever 160 = .ok (.iload 6, 2) := by decide +kernel
theorem dX10_ever_162 : decode cX10_ever 162 = .ok (.ireturn, 1) := by decide +kernel
theorem dX10_ever_163 : decode cX10_ever 163 = .ok (.aload_n 0, 1) := by decide +kernel
theorem dX10_ever_164 : decode cX10_ever 164 = .ok (.getfield 34, 3) := by decide +kernel
theorem dX10_ever_167 : decode cX10_ever 167 = .ok (.iload 7, 2) := by decide +kernel
theorem dX10_ever_169 : decode cX10_ever 169 = .ok (.iaload, 1) := by decide +kernel
theorem dX10_ever_170 : decode cX10_ever 170 = .ok (.istore 8, 2) := by decide +kernel
theorem dX10_ever_172 : decode cX10_ever 172 = .ok (.iload 7, 2) := by decide +kernel
theorem dX10_ever_174 : decode cX10_ever 174 = .ok (.istore 9, 2) := by decide +kernel
theorem dX10_ever_176 : decode cX10_ever 176 = .ok (.iload 9, 2) := by decide +kernel
theorem dX10_ever_178 : decode cX10_ever 178 = .ok (.iload 6, 2) := by decide +kernel
theorem dX10_ever_180 : decode cX10_ever 180 = .ok (.if_icmp .ge 35, 3) := by decide +kernel
theorem dX10_ever_183 : decode cX10_ever 183 = .ok (.aload_n 0, 1) := by decide +kernel
theorem dX10_ever_184 : decode cX10_ever 184 = .ok (.getfield 34, 3) := by decide +kernel
theorem dX10_ever_187 : decode cX10_ever 187 = .ok (.iload 9, 2) := by decide +kernel
theorem dX10_ever_189 : decode cX10_ever 189 = .ok (.iaload, 1) := by decide +kernel
theorem dX10_ever_190 : decode cX10_ever 190 = .ok (.iload 8, 2) := by decide +kernel
theorem dX10_ever_192 : decode cX10_ever 192 = .ok (.if_icmp .ge 13, 3) := by decide +kernel
theorem dX10_ever_195 : decode cX10_ever 195 = .ok (.aload_n 0, 1) := by decide +kernel
theorem dX10_ever_196 : decode cX10_ever 196 = .ok (.getfield 34, 3) := by decide +kernel
theorem dX10_ever_199 : decode cX10_ever 199 = .ok (.iload 9, 2) := by decide +kernel
theorem dX10_ever_201 : decode cX10_ever 201 = .ok (.iaload, 1) := by decide +kernel
theorem dX10_ever_202 : decode cX10_ever 202 = .ok (.goto 5, 3) := by decide +kernel
theorem dX10_ever_205 : decode cX10_ever 205 = .ok (.iload 8, 2) := by decide +kernel
theorem dX10_ever_207 : decode cX10_ever 207 = .ok (.istore 8, 2) := by decide +kernel
theorem dX10_ever_209 : decode cX10_ever 209 = .ok (.iinc 9 1, 3) := by decide +kernel
theorem dX10_ever_212 : decode cX10_ever 212 = .ok (.goto (-36), 3) := by decide +kernel
theorem dX10_ever_215 : decode cX10_ever 215 = .ok (.iload_n 2, 1) := by decide +kernel
theorem dX10_ever_216 : decode cX10_ever 216 = .ok (.iconst 1, 1) := by decide +kernel
theorem dX10_ever_217 : decode cX10_ever 217 = .ok (.if_icmp .ne 11, 3) := by decide +kernel
theorem dX10_ever_220 : decode cX10_ever 220 = .ok (.iload 6, 2) := by decide +kernel
theorem dX10_ever_222 : decode cX10_ever 222 = .ok (.iload 7, 2) := by decide +kernel
theorem dX10_ever_224 : decode cX10_ever 224 = .ok (.isub, 1) := by decide +kernel
theorem dX10_ever_225 : decode cX10_ever 225 = .ok (.goto 5, 3) := by decide +kernel
theorem dX10_ever_228 : decode cX10_ever 228 = .ok (.iload 8, 2) := by decide +kernel
theorem dX10_ever_230 : decode cX10_ever 230 = .ok (.ireturn, 1) := by decide +kernel
def fX10_ever_B17 (μ : vr_M) : Option (Int × vr_M) :=
  some ((-1), μ)
def fX10_ever_B160 (x6 : Int) (μ : vr_M) : Option (Int × vr_M) :=
  some (x6, μ)
def fX10_ever_B230 (y0 : Int) (μ : vr_M) : Option (Int × vr_M) :=
  some (y0, μ)
def fX10_ever_B207 (rc176 : Int → Int → Int → Int → Int → vr_M → Option (Int × vr_M)) (x2 : Int) (x6 : Int) (x7 : Int) (x9 : Int) (y0 : Int) (μ : vr_M) : Option (Int × vr_M) :=
  vr_gd (vr_R (x9 + 1)) (rc176 x2 x6 x7 y0 (x9 + 1) μ)
def fX10_ever_L176 : Nat → Int → Int → Int → Int → Int → vr_M → Option (Int × vr_M)
  | 0, _, _, _, _, _, _ => none
  | n + 1, x2, x6, x7, x8, x9, μ => if x6 ≤ x9 then if ¬ x2 = 1 then fX10_ever_B230 x8 μ else vr_gd (vr_R (x6 - x7)) (fX10_ever_B230 (x6 - x7) μ) else vr_gd (0 ≤ x9 ∧ x9 < 201) (vr_gd (vr_R (μ 76 x9.toNat)) (if x8 ≤ (μ 76 x9.toNat) then fX10_ever_B207 (fX10_ever_L176 n) x2 x6 x7 x9 x8 μ else fX10_ever_B207 (fX10_ever_L176 n) x2 x6 x7 x9 (μ 76 x9.toNat) μ))
def fX10_ever_B145 (x2 : Int) (x6 : Int) (x7 : Int) (μ : vr_M) : Option (Int × vr_M) :=
  (fX10_putsBack  μ).bind (fun r5 => if x6 = (-9) then fX10_ever_B160 x6 r5.2 else if ¬ x2 = 0 then vr_gd (0 ≤ x7 ∧ x7 < 201) (vr_gd (vr_R (r5.2 76 x7.toNat)) (fX10_ever_L176 9000 x2 x6 x7 (r5.2 76 x7.toNat) x7 r5.2)) else fX10_ever_B160 x6 r5.2)
def fX10_ever_B137 (rc76 : Int → Int → Int → Int → Int → Int → Int → vr_M → Option (Int × vr_M)) (x2 : Int) (x3 : Int) (x4 : Int) (x5 : Int) (x7 : Int) (x8 : Int) (y0 : Int) (μ : vr_M) : Option (Int × vr_M) :=
  vr_gd (vr_R (x8 + 1)) (rc76 x2 x3 x4 x5 y0 x7 (x8 + 1) μ)
def fX10_ever_L76 : Nat → Int → Int → Int → Int → Int → Int → Int → vr_M → Option (Int × vr_M)
  | 0, _, _, _, _, _, _, _, _ => none
  | n + 1, x2, x3, x4, x5, x6, x7, x8, μ => if 200 < x8 then fX10_ever_B145 x2 x6 x7 μ else if ¬ x6 = (-9) then fX10_ever_B145 x2 x6 x7 μ else (fX10_yearBy x3 x4 0 μ).bind (fun r9 => vr_gd (0 ≤ (x8 - 1) ∧ (x8 - 1) < 201) ((fX10_notes x8 x5 (vr_u r9.2 76 (x8 - 1).toNat r9.1)).bind (fun r11 => (fX10_formerOf x8 r11.2).bind (fun r12 => if ¬ r12.1 = (-1) then fX10_ever_B137 (fX10_ever_L76 n) x2 x3 x4 x5 r12.1 x8 x8 r12.2 else fX10_ever_B137 (fX10_ever_L76 n) x2 x3 x4 x5 r12.1 x8 (-9) r12.2))))
def fX10_ever_B53 (x2 : Int) (x3 : Int) (x4 : Int) (y0 : Int) (μ : vr_M) : Option (Int × vr_M) :=
  (fX10_keeps  μ).bind (fun r13 => (fX10_notes 0 y0 r13.2).bind (fun r14 => fX10_ever_L76 9000 x2 x3 x4 y0 (-9) (-1) 1 r14.2))
def fX10_ever (a0 : Int) (a1 : Int) (μ : vr_M) : Option (Int × vr_M) :=
  (fX10_isRule a0 μ).bind (fun r15 => if r15.1 = 0 then fX10_ever_B17 r15.2 else (fX10_in a1 0 2 r15.2).bind (fun r16 => if ¬ r16.1 = 0 then vr_gd (0 ≤ (170 + a0) ∧ (170 + a0) < 933) (vr_gd (0 ≤ (178 + a0) ∧ (178 + a0) < 933) (vr_gd (vr_R (r16.2 69 (170 + a0).toNat)) (if ¬ (r16.2 69 (170 + a0).toNat) = 1 then vr_gd (vr_R (r16.2 69 (178 + a0).toNat)) (fX10_ever_B53 a1 (r16.2 69 (170 + a0).toNat) (r16.2 69 (178 + a0).toNat) 1 r16.2) else vr_gd (vr_R (r16.2 69 (178 + a0).toNat)) (fX10_ever_B53 a1 (r16.2 69 (170 + a0).toNat) (r16.2 69 (178 + a0).toNat) (r16.2 69 (178 + a0).toNat) r16.2)))) else fX10_ever_B17 r16.2))
set_option maxRecDepth 100000 in
set_option maxHeartbeats 4000000 in
theorem ct_X10_ever (l : Launch) (G : vr_G) (a0 : Int) (h_a0 : vr_R a0) (a1 : Int) (h_a1 : vr_R a1) (μ : vr_M) : vr_CI l yX10_ever cX10_ever 10 (some .int) ({ frames := 9, cells := 0, slots := 0, locals := 222 } : Room) G [.ref (vr_ad G 68), .int (vr_I a0), .int (vr_I a1)] μ (fX10_ever a0 a1 μ) := by
  refine vr_start (own := RX10) (by decide) rfl (Nat.le_of_ble_eq_true rfl) (fun p e s m args below meth c C0 => ?_)
  show vr_J p l e _ s m args below meth c 10 0 0 G (vr_Z (vr_QI G) G args s below) 0 [(0, .ref (vr_ad G 68)), (1, .int (vr_I a0)), (2, .int (vr_I a1))] [] μ _
  have B17 : ∀ (μ : vr_M), vr_J p l e ({ frames := 9, cells := 0, slots := 0, locals := 222 } : Room) s m args below meth c 10 0 0 G (vr_Z (vr_QI G) G args s below) 17 [] [] μ (fX10_ever_B17 μ) := by
    intro μ
    unfold fX10_ever_B17
    refine jr_iconst C0 dX10_ever_17 ?_
    exact jr_iret C0 (⟨by decide, by decide⟩) dX10_ever_18
  have B160 : ∀ (x6 : Int) (h_x6 : vr_R x6) (μ : vr_M), vr_J p l e ({ frames := 9, cells := 0, slots := 0, locals := 222 } : Room) s m args below meth c 10 0 0 G (vr_Z (vr_QI G) G args s below) 160 [(6, .int (vr_I x6))] [] μ (fX10_ever_B160 x6 μ) := by
    intro x6 h_x6 μ
    unfold fX10_ever_B160
    refine jr_iload C0 0 dX10_ever_160 rfl ?_
    exact jr_iret C0 h_x6 dX10_ever_162
  have B230 : ∀ (y0 : Int) (h_y0 : vr_R y0) (μ : vr_M), vr_J p l e ({ frames := 9, cells := 0, slots := 0, locals := 222 } : Room) s m args below meth c 10 0 0 G (vr_Z (vr_QI G) G args s below) 230 [] [.int (vr_I y0)] μ (fX10_ever_B230 y0 μ) := by
    intro y0 h_y0 μ
    unfold fX10_ever_B230
    exact jr_iret C0 h_y0 dX10_ever_230
  have L176 : ∀ (n : Nat) (x2 : Int) (h_x2 : vr_R x2) (x6 : Int) (h_x6 : vr_R x6) (x7 : Int) (h_x7 : vr_R x7) (x8 : Int) (h_x8 : vr_R x8) (x9 : Int) (h_x9 : vr_R x9) (μ : vr_M), vr_J p l e ({ frames := 9, cells := 0, slots := 0, locals := 222 } : Room) s m args below meth c 10 0 0 G (vr_Z (vr_QI G) G args s below) 176 [(0, .ref (vr_ad G 68)), (2, .int (vr_I x2)), (6, .int (vr_I x6)), (7, .int (vr_I x7)), (8, .int (vr_I x8)), (9, .int (vr_I x9))] [] μ (fX10_ever_L176 n x2 x6 x7 x8 x9 μ) := by
    intro n176
    induction n176 with
    | zero => intros; exact jr_none
    | succ n176 ih176 =>
      have B207 : ∀ (x2 : Int) (h_x2 : vr_R x2) (x6 : Int) (h_x6 : vr_R x6) (x7 : Int) (h_x7 : vr_R x7) (x9 : Int) (h_x9 : vr_R x9) (y0 : Int) (h_y0 : vr_R y0) (μ : vr_M), vr_J p l e ({ frames := 9, cells := 0, slots := 0, locals := 222 } : Room) s m args below meth c 10 0 0 G (vr_Z (vr_QI G) G args s below) 207 [(0, .ref (vr_ad G 68)), (2, .int (vr_I x2)), (6, .int (vr_I x6)), (7, .int (vr_I x7)), (9, .int (vr_I x9))] [.int (vr_I y0)] μ (fX10_ever_B207 (fX10_ever_L176 n176) x2 x6 x7 x9 y0 μ) := by
        intro x2 h_x2 x6 h_x6 x7 h_x7 x9 h_x9 y0 h_y0 μ
        unfold fX10_ever_B207
        refine jr_istore C0 dX10_ever_207 (by decide) (lv' := [(8, .int (vr_I y0)), (0, .ref (vr_ad G 68)), (2, .int (vr_I x2)), (6, .int (vr_I x6)), (7, .int (vr_I x7)), (9, .int (vr_I x9))]) rfl ?_
        refine jr_iinc C0 (q := 5) dX10_ever_209 rfl (by decide) (lv' := [(9, .int (vr_I (x9 + 1))), (8, .int (vr_I y0)), (0, .ref (vr_ad G 68)), (2, .int (vr_I x2)), (6, .int (vr_I x6)), (7, .int (vr_I x7))]) rfl ?_
        refine jr_goto C0 dX10_ever_212 (tgt := 176) (by decide) ?_
        refine jr_gd (fun g1 => ?_)
        refine jr_sub [2, 3, 4, 5, 1, 0] rfl ?_
        exact ih176 x2 h_x2 x6 h_x6 x7 h_x7 y0 h_y0 (x9 + 1) g1 _
      intro x2 h_x2 x6 h_x6 x7 h_x7 x8 h_x8 x9 h_x9 μ
      rw [fX10_ever_L176.eq_2]
      refine jr_iload C0 5 dX10_ever_176 rfl ?_
      refine jr_iload C0 2 dX10_ever_178 rfl ?_
      refine jr_icmp_ge C0 h_x9 h_x6 dX10_ever_180 (tgt := 215) (by decide) ?_ ?_
      · refine jr_iload_n C0 1 dX10_ever_215 rfl rfl ?_
        refine jr_iconst C0 dX10_ever_216 ?_
        refine jr_icmp_ne C0 h_x2 (⟨by decide, by decide⟩) dX10_ever_217 (tgt := 228) (by decide) ?_ ?_
        · refine jr_iload C0 4 dX10_ever_228 rfl ?_
          refine jr_sub [] rfl ?_
          exact B230 x8 h_x8 _
        refine jr_iload C0 2 dX10_ever_220 rfl ?_
        refine jr_iload C0 3 dX10_ever_222 rfl ?_
        refine jr_isub C0 dX10_ever_224 ?_
        refine jr_goto C0 dX10_ever_225 (tgt := 230) (by decide) ?_
        refine jr_gd (fun g2 => ?_)
        refine jr_sub [] rfl ?_
        exact B230 (x6 - x7) g2 _
      refine jr_aload_n C0 0 dX10_ever_183 rfl rfl ?_
      refine jr_getr C0 (by decide) kd_68 (by decide) rfl wx_X10 (i := 20) (by decide) wf_X10_34 (j := 76) rfl dX10_ever_184 ?_
      refine jr_iload C0 5 dX10_ever_187 rfl ?_
      refine jr_gd (fun g3 => ?_)
      refine jr_iald C0 (by decide) kd_76 kl_76 g3 (j := x9.toNat) rfl dX10_ever_189 ?_
      refine jr_iload C0 4 dX10_ever_190 rfl ?_
      refine jr_gd (fun g4 => ?_)
      refine jr_icmp_ge C0 g4 h_x8 dX10_ever_192 (tgt := 205) (by decide) ?_ ?_
      · refine jr_iload C0 4 dX10_ever_205 rfl ?_
        refine jr_sub [0, 1, 2, 3, 5] rfl ?_
        exact B207 x2 h_x2 x6 h_x6 x7 h_x7 x9 h_x9 x8 h_x8 _
      refine jr_aload_n C0 0 dX10_ever_195 rfl rfl ?_
      refine jr_getr C0 (by decide) kd_68 (by decide) rfl wx_X10 (i := 20) (by decide) wf_X10_34 (j := 76) rfl dX10_ever_196 ?_
      refine jr_iload C0 5 dX10_ever_199 rfl ?_
      refine jr_iald C0 (by decide) kd_76 kl_76 g3 (j := x9.toNat) rfl dX10_ever_201 ?_
      refine jr_goto C0 dX10_ever_202 (tgt := 207) (by decide) ?_
      refine jr_sub [0, 1, 2, 3, 5] rfl ?_
      exact B207 x2 h_x2 x6 h_x6 x7 h_x7 x9 h_x9 (μ 76 x9.toNat) g4 _
  have B145 : ∀ (x2 : Int) (h_x2 : vr_R x2) (x6 : Int) (h_x6 : vr_R x6) (x7 : Int) (h_x7 : vr_R x7) (μ : vr_M), vr_J p l e ({ frames := 9, cells := 0, slots := 0, locals := 222 } : Room) s m args below meth c 10 0 0 G (vr_Z (vr_QI G) G args s below) 145 [(0, .ref (vr_ad G 68)), (2, .int (vr_I x2)), (6, .int (vr_I x6)), (7, .int (vr_I x7))] [] μ (fX10_ever_B145 x2 x6 x7 μ) := by
    intro x2 h_x2 x6 h_x6 x7 h_x7 μ
    unfold fX10_ever_B145
    refine jr_aload_n C0 0 dX10_ever_145 rfl rfl ?_
    refine jr_vV0 C0 (by decide) kd_68 (by decide) rfl (ct_X10_putsBack l G  _) mi_X10_putsBack wm_X10_220 ⟨Nat.le_of_ble_eq_true rfl, Nat.le_of_ble_eq_true rfl⟩ ⟨rfl, rfl⟩ (As := []) rfl (st := []) rfl (Nat.le_of_ble_eq_true rfl) dX10_ever_146 (fun r5 => ?_)
    refine jr_iload C0 2 dX10_ever_149 rfl ?_
    refine jr_bipush C0 dX10_ever_151 rfl ?_
    refine jr_icmp_eq C0 h_x6 (⟨by decide, by decide⟩) dX10_ever_153 (tgt := 160) (by decide) ?_ ?_
    · refine jr_sub [2] rfl ?_
      exact B160 x6 h_x6 _
    refine jr_iload_n C0 1 dX10_ever_156 rfl rfl ?_
    refine jr_if_ne C0 h_x2 dX10_ever_157 (tgt := 163) (by decide) ?_ ?_
    · refine jr_aload_n C0 0 dX10_ever_163 rfl rfl ?_
      refine jr_getr C0 (by decide) kd_68 (by decide) rfl wx_X10 (i := 20) (by decide) wf_X10_34 (j := 76) rfl dX10_ever_164 ?_
      refine jr_iload C0 3 dX10_ever_167 rfl ?_
      refine jr_gd (fun g6 => ?_)
      refine jr_iald C0 (by decide) kd_76 kl_76 g6 (j := x7.toNat) rfl dX10_ever_169 ?_
      refine jr_istore C0 dX10_ever_170 (by decide) (lv' := [(8, .int (vr_I (r5.2 76 x7.toNat))), (0, .ref (vr_ad G 68)), (2, .int (vr_I x2)), (6, .int (vr_I x6)), (7, .int (vr_I x7))]) rfl ?_
      refine jr_iload C0 4 dX10_ever_172 rfl ?_
      refine jr_istore C0 dX10_ever_174 (by decide) (lv' := [(9, .int (vr_I x7)), (8, .int (vr_I (r5.2 76 x7.toNat))), (0, .ref (vr_ad G 68)), (2, .int (vr_I x2)), (6, .int (vr_I x6)), (7, .int (vr_I x7))]) rfl ?_
      refine jr_gd (fun g7 => ?_)
      refine jr_sub [2, 3, 4, 5, 1, 0] rfl ?_
      exact L176 9000 x2 h_x2 x6 h_x6 x7 h_x7 (r5.2 76 x7.toNat) g7 x7 h_x7 _
    refine jr_sub [2] rfl ?_
    exact B160 x6 h_x6 _
  have L76 : ∀ (n : Nat) (x2 : Int) (h_x2 : vr_R x2) (x3 : Int) (h_x3 : vr_R x3) (x4 : Int) (h_x4 : vr_R x4) (x5 : Int) (h_x5 : vr_R x5) (x6 : Int) (h_x6 : vr_R x6) (x7 : Int) (h_x7 : vr_R x7) (x8 : Int) (h_x8 : vr_R x8) (μ : vr_M), vr_J p l e ({ frames := 9, cells := 0, slots := 0, locals := 222 } : Room) s m args below meth c 10 0 0 G (vr_Z (vr_QI G) G args s below) 76 [(0, .ref (vr_ad G 68)), (2, .int (vr_I x2)), (3, .int (vr_I x3)), (4, .int (vr_I x4)), (5, .int (vr_I x5)), (6, .int (vr_I x6)), (7, .int (vr_I x7)), (8, .int (vr_I x8))] [] μ (fX10_ever_L76 n x2 x3 x4 x5 x6 x7 x8 μ) := by
    intro n76
    induction n76 with
    | zero => intros; exact jr_none
    | succ n76 ih76 =>
      have B137 : ∀ (x2 : Int) (h_x2 : vr_R x2) (x3 : Int) (h_x3 : vr_R x3) (x4 : Int) (h_x4 : vr_R x4) (x5 : Int) (h_x5 : vr_R x5) (x7 : Int) (h_x7 : vr_R x7) (x8 : Int) (h_x8 : vr_R x8) (y0 : Int) (h_y0 : vr_R y0) (μ : vr_M), vr_J p l e ({ frames := 9, cells := 0, slots := 0, locals := 222 } : Room) s m args below meth c 10 0 0 G (vr_Z (vr_QI G) G args s below) 137 [(0, .ref (vr_ad G 68)), (2, .int (vr_I x2)), (3, .int (vr_I x3)), (4, .int (vr_I x4)), (5, .int (vr_I x5)), (7, .int (vr_I x7)), (8, .int (vr_I x8))] [.int (vr_I y0)] μ (fX10_ever_B137 (fX10_ever_L76 n76) x2 x3 x4 x5 x7 x8 y0 μ) := by
        intro x2 h_x2 x3 h_x3 x4 h_x4 x5 h_x5 x7 h_x7 x8 h_x8 y0 h_y0 μ
        unfold fX10_ever_B137
        refine jr_istore C0 dX10_ever_137 (by decide) (lv' := [(6, .int (vr_I y0)), (0, .ref (vr_ad G 68)), (2, .int (vr_I x2)), (3, .int (vr_I x3)), (4, .int (vr_I x4)), (5, .int (vr_I x5)), (7, .int (vr_I x7)), (8, .int (vr_I x8))]) rfl ?_
        refine jr_iinc C0 (q := 7) dX10_ever_139 rfl (by decide) (lv' := [(8, .int (vr_I (x8 + 1))), (6, .int (vr_I y0)), (0, .ref (vr_ad G 68)), (2, .int (vr_I x2)), (3, .int (vr_I x3)), (4, .int (vr_I x4)), (5, .int (vr_I x5)), (7, .int (vr_I x7))]) rfl ?_
        refine jr_goto C0 dX10_ever_142 (tgt := 76) (by decide) ?_
        refine jr_gd (fun g8 => ?_)
        refine jr_sub [2, 3, 4, 5, 6, 1, 7, 0] rfl ?_
        exact ih76 x2 h_x2 x3 h_x3 x4 h_x4 x5 h_x5 y0 h_y0 x7 h_x7 (x8 + 1) g8 _
      intro x2 h_x2 x3 h_x3 x4 h_x4 x5 h_x5 x6 h_x6 x7 h_x7 x8 h_x8 μ
      rw [fX10_ever_L76.eq_2]
      refine jr_iload C0 7 dX10_ever_76 rfl ?_
      refine jr_sipush C0 dX10_ever_78 rfl ?_
      refine jr_icmp_gt C0 h_x8 (⟨by decide, by decide⟩) dX10_ever_81 (tgt := 145) (by decide) ?_ ?_
      · refine jr_sub [0, 1, 5, 6] rfl ?_
        exact B145 x2 h_x2 x6 h_x6 x7 h_x7 _
      refine jr_iload C0 5 dX10_ever_84 rfl ?_
      refine jr_bipush C0 dX10_ever_86 rfl ?_
      refine jr_icmp_ne C0 h_x6 (⟨by decide, by decide⟩) dX10_ever_88 (tgt := 145) (by decide) ?_ ?_
      · refine jr_sub [0, 1, 5, 6] rfl ?_
        exact B145 x2 h_x2 x6 h_x6 x7 h_x7 _
      refine jr_aload_n C0 0 dX10_ever_91 rfl rfl ?_
      refine jr_getr C0 (by decide) kd_68 (by decide) rfl wx_X10 (i := 20) (by decide) wf_X10_34 (j := 76) rfl dX10_ever_92 ?_
      refine jr_iload C0 7 dX10_ever_95 rfl ?_
      refine jr_iconst C0 dX10_ever_97 ?_
      refine jr_isub C0 dX10_ever_98 ?_
      refine jr_aload_n C0 0 dX10_ever_99 rfl rfl ?_
      refine jr_iload_n C0 2 dX10_ever_100 rfl rfl ?_
      refine jr_iload C0 3 dX10_ever_101 rfl ?_
      refine jr_iconst C0 dX10_ever_103 ?_
      refine jr_vI C0 (by decide) kd_68 (by decide) rfl (ct_X10_yearBy l G x3 h_x3 x4 h_x4 0 (⟨by decide, by decide⟩) _) mi_X10_yearBy wm_X10_214 ⟨Nat.le_of_ble_eq_true rfl, Nat.le_of_ble_eq_true rfl⟩ ⟨rfl, rfl⟩ (As := [.int (vr_I x3), .int (vr_I x4), .int (vr_I 0)]) rfl (st := [.int (vr_I (x8 - 1)), .ref (vr_ad G 76)]) rfl (Nat.le_of_ble_eq_true rfl) dX10_ever_104 (fun r9 hr9 => ?_)
      refine jr_gd (fun g10 => ?_)
      refine jr_iast C0 (by decide) kd_76 kl_76 g10 (j := (x8 - 1).toNat) rfl dX10_ever_107 ?_
      refine jr_aload_n C0 0 dX10_ever_108 rfl rfl ?_
      refine jr_iload C0 7 dX10_ever_109 rfl ?_
      refine jr_iload C0 4 dX10_ever_111 rfl ?_
      refine jr_vV0 C0 (by decide) kd_68 (by decide) rfl (ct_X10_notes l G x8 h_x8 x5 h_x5 _) mi_X10_notes wm_X10_230 ⟨Nat.le_of_ble_eq_true rfl, Nat.le_of_ble_eq_true rfl⟩ ⟨rfl, rfl⟩ (As := [.int (vr_I x8), .int (vr_I x5)]) rfl (st := []) rfl (Nat.le_of_ble_eq_true rfl) dX10_ever_113 (fun r11 => ?_)
      refine jr_aload_n C0 0 dX10_ever_116 rfl rfl ?_
      refine jr_iload C0 7 dX10_ever_117 rfl ?_
      refine jr_vI C0 (by decide) kd_68 (by decide) rfl (ct_X10_formerOf l G x8 h_x8 _) mi_X10_formerOf wm_X10_234 ⟨Nat.le_of_ble_eq_true rfl, Nat.le_of_ble_eq_true rfl⟩ ⟨rfl, rfl⟩ (As := [.int (vr_I x8)]) rfl (st := []) rfl (Nat.le_of_ble_eq_true rfl) dX10_ever_119 (fun r12 hr12 => ?_)
      refine jr_istore C0 dX10_ever_122 (by decide) (lv' := [(7, .int (vr_I r12.1)), (0, .ref (vr_ad G 68)), (2, .int (vr_I x2)), (3, .int (vr_I x3)), (4, .int (vr_I x4)), (5, .int (vr_I x5)), (6, .int (vr_I x6)), (8, .int (vr_I x8))]) rfl ?_
      refine jr_iload C0 0 dX10_ever_124 rfl ?_
      refine jr_iconst C0 dX10_ever_126 ?_
      refine jr_icmp_ne C0 hr12 (⟨by decide, by decide⟩) dX10_ever_127 (tgt := 135) (by decide) ?_ ?_
      · refine jr_iload C0 7 dX10_ever_135 rfl ?_
        refine jr_sub [1, 2, 3, 4, 5, 0, 7] rfl ?_
        exact B137 x2 h_x2 x3 h_x3 x4 h_x4 x5 h_x5 r12.1 hr12 x8 h_x8 x8 h_x8 _
      refine jr_bipush C0 dX10_ever_130 rfl ?_
      refine jr_goto C0 dX10_ever_132 (tgt := 137) (by decide) ?_
      refine jr_sub [1, 2, 3, 4, 5, 0, 7] rfl ?_
      exact B137 x2 h_x2 x3 h_x3 x4 h_x4 x5 h_x5 r12.1 hr12 x8 h_x8 (-9) (⟨by decide, by decide⟩) _
  have B53 : ∀ (x2 : Int) (h_x2 : vr_R x2) (x3 : Int) (h_x3 : vr_R x3) (x4 : Int) (h_x4 : vr_R x4) (y0 : Int) (h_y0 : vr_R y0) (μ : vr_M), vr_J p l e ({ frames := 9, cells := 0, slots := 0, locals := 222 } : Room) s m args below meth c 10 0 0 G (vr_Z (vr_QI G) G args s below) 53 [(0, .ref (vr_ad G 68)), (2, .int (vr_I x2)), (3, .int (vr_I x3)), (4, .int (vr_I x4))] [.int (vr_I y0)] μ (fX10_ever_B53 x2 x3 x4 y0 μ) := by
    intro x2 h_x2 x3 h_x3 x4 h_x4 y0 h_y0 μ
    unfold fX10_ever_B53
    refine jr_istore C0 dX10_ever_53 (by decide) (lv' := [(5, .int (vr_I y0)), (0, .ref (vr_ad G 68)), (2, .int (vr_I x2)), (3, .int (vr_I x3)), (4, .int (vr_I x4))]) rfl ?_
    refine jr_aload_n C0 1 dX10_ever_55 rfl rfl ?_
    refine jr_vV0 C0 (by decide) kd_68 (by decide) rfl (ct_X10_keeps l G  _) mi_X10_keeps wm_X10_217 ⟨Nat.le_of_ble_eq_true rfl, Nat.le_of_ble_eq_true rfl⟩ ⟨rfl, rfl⟩ (As := []) rfl (st := []) rfl (Nat.le_of_ble_eq_true rfl) dX10_ever_56 (fun r13 => ?_)
    refine jr_aload_n C0 1 dX10_ever_59 rfl rfl ?_
    refine jr_iconst C0 dX10_ever_60 ?_
    refine jr_iload C0 0 dX10_ever_61 rfl ?_
    refine jr_vV0 C0 (by decide) kd_68 (by decide) rfl (ct_X10_notes l G 0 (⟨by decide, by decide⟩) y0 h_y0 _) mi_X10_notes wm_X10_230 ⟨Nat.le_of_ble_eq_true rfl, Nat.le_of_ble_eq_true rfl⟩ ⟨rfl, rfl⟩ (As := [.int (vr_I 0), .int (vr_I y0)]) rfl (st := []) rfl (Nat.le_of_ble_eq_true rfl) dX10_ever_63 (fun r14 => ?_)
    refine jr_bipush C0 dX10_ever_66 rfl ?_
    refine jr_istore C0 dX10_ever_68 (by decide) (lv' := [(6, .int (vr_I (-9))), (5, .int (vr_I y0)), (0, .ref (vr_ad G 68)), (2, .int (vr_I x2)), (3, .int (vr_I x3)), (4, .int (vr_I x4))]) rfl ?_
    refine jr_iconst C0 dX10_ever_70 ?_
    refine jr_istore C0 dX10_ever_71 (by decide) (lv' := [(7, .int (vr_I (-1))), (6, .int (vr_I (-9))), (5, .int (vr_I y0)), (0, .ref (vr_ad G 68)), (2, .int (vr_I x2)), (3, .int (vr_I x3)), (4, .int (vr_I x4))]) rfl ?_
    refine jr_iconst C0 dX10_ever_73 ?_
    refine jr_istore C0 dX10_ever_74 (by decide) (lv' := [(8, .int (vr_I 1)), (7, .int (vr_I (-1))), (6, .int (vr_I (-9))), (5, .int (vr_I y0)), (0, .ref (vr_ad G 68)), (2, .int (vr_I x2)), (3, .int (vr_I x3)), (4, .int (vr_I x4))]) rfl ?_
    refine jr_sub [4, 5, 6, 7, 3, 2, 1, 0] rfl ?_
    exact L76 9000 x2 h_x2 x3 h_x3 x4 h_x4 y0 h_y0 (-9) (⟨by decide, by decide⟩) (-1) (⟨by decide, by decide⟩) 1 (⟨by decide, by decide⟩) _
  unfold fX10_ever
  refine jr_aload_n C0 0 dX10_ever_0 rfl rfl ?_
  refine jr_iload_n C0 1 dX10_ever_1 rfl rfl ?_
  refine jr_vI C0 (by decide) kd_68 (by decide) rfl (ct_X10_isRule l G a0 h_a0 _) mi_X10_isRule wm_X10_190 ⟨Nat.le_of_ble_eq_true rfl, Nat.le_of_ble_eq_true rfl⟩ ⟨rfl, rfl⟩ (As := [.int (vr_I a0)]) rfl (st := []) rfl (Nat.le_of_ble_eq_true rfl) dX10_ever_2 (fun r15 hr15 => ?_)
  refine jr_if_eq C0 hr15 dX10_ever_5 (tgt := 17) (by decide) ?_ ?_
  · refine jr_sub [] rfl ?_
    exact B17 _
  refine jr_iload_n C0 2 dX10_ever_8 rfl rfl ?_
  refine jr_iconst C0 dX10_ever_9 ?_
  refine jr_iconst C0 dX10_ever_10 ?_
  refine jr_sI C0 (ct_X10_in l G a1 h_a1 0 (⟨by decide, by decide⟩) 2 (⟨by decide, by decide⟩) _) mi_X10_in wm_X10_44 ⟨Nat.le_of_ble_eq_true rfl, Nat.le_of_ble_eq_true rfl⟩ ⟨rfl, rfl⟩ (As := [.int (vr_I a1), .int (vr_I 0), .int (vr_I 2)]) rfl (st := []) rfl (Nat.le_of_ble_eq_true rfl) dX10_ever_11 (fun r16 hr16 => ?_)
  refine jr_if_ne C0 hr16 dX10_ever_14 (tgt := 19) (by decide) ?_ ?_
  · refine jr_aload_n C0 0 dX10_ever_19 rfl rfl ?_
    refine jr_getr C0 (by decide) kd_68 (by decide) rfl wx_X10 (i := 1) (by decide) wf_X10_9 (j := 69) rfl dX10_ever_20 ?_
    refine jr_sipush C0 dX10_ever_23 rfl ?_
    refine jr_iload_n C0 1 dX10_ever_26 rfl rfl ?_
    refine jr_iadd C0 dX10_ever_27 ?_
    refine jr_gd (fun g17 => ?_)
    refine jr_iald C0 (by decide) kd_69 kl_69 g17 (j := (170 + a0).toNat) rfl dX10_ever_28 ?_
    refine jr_istore_n C0 dX10_ever_29 rfl (by decide) (lv' := [(3, .int (vr_I (r16.2 69 (170 + a0).toNat))), (0, .ref (vr_ad G 68)), (1, .int (vr_I a0)), (2, .int (vr_I a1))]) rfl ?_
    refine jr_aload_n C0 1 dX10_ever_30 rfl rfl ?_
    refine jr_getr C0 (by decide) kd_68 (by decide) rfl wx_X10 (i := 1) (by decide) wf_X10_9 (j := 69) rfl dX10_ever_31 ?_
    refine jr_sipush C0 dX10_ever_34 rfl ?_
    refine jr_iload_n C0 2 dX10_ever_37 rfl rfl ?_
    refine jr_iadd C0 dX10_ever_38 ?_
    refine jr_gd (fun g18 => ?_)
    refine jr_iald C0 (by decide) kd_69 kl_69 g18 (j := (178 + a0).toNat) rfl dX10_ever_39 ?_
    refine jr_istore C0 dX10_ever_40 (by decide) (lv' := [(4, .int (vr_I (r16.2 69 (178 + a0).toNat))), (3, .int (vr_I (r16.2 69 (170 + a0).toNat))), (0, .ref (vr_ad G 68)), (1, .int (vr_I a0)), (2, .int (vr_I a1))]) rfl ?_
    refine jr_iload_n C0 1 dX10_ever_42 rfl rfl ?_
    refine jr_iconst C0 dX10_ever_43 ?_
    refine jr_gd (fun g19 => ?_)
    refine jr_icmp_ne C0 g19 (⟨by decide, by decide⟩) dX10_ever_44 (tgt := 52) (by decide) ?_ ?_
    · refine jr_iconst C0 dX10_ever_52 ?_
      refine jr_gd (fun g20 => ?_)
      refine jr_sub [2, 4, 1, 0] rfl ?_
      exact B53 a1 h_a1 (r16.2 69 (170 + a0).toNat) g19 (r16.2 69 (178 + a0).toNat) g20 1 (⟨by decide, by decide⟩) _
    refine jr_iload C0 0 dX10_ever_47 rfl ?_
    refine jr_goto C0 dX10_ever_49 (tgt := 53) (by decide) ?_
    refine jr_gd (fun g21 => ?_)
    refine jr_sub [2, 4, 1, 0] rfl ?_
    exact B53 a1 h_a1 (r16.2 69 (170 + a0).toNat) g19 (r16.2 69 (178 + a0).toNat) g21 (r16.2 69 (178 + a0).toNat) g21 _
  refine jr_sub [] rfl ?_
  exact B17 _
theorem dX10_less_0 : decode cX10_less 0 = .ok (.iload_n 1, 1) := by decide +kernel
theorem dX10_less_1 : decode cX10_less 1 = .ok (.iconst 1, 1) := by decide +kernel
theorem dX10_less_2 : decode cX10_less 2 = .ok (.bipush 30, 2) := by decide +kernel
theorem dX10_less_4 : decode cX10_less 4 = .ok (.invokestatic 44, 3) := by decide +kernel
theorem dX10_less_7 : decode cX10_less 7 = .ok (.ifCond .ne 6, 3) := by decide +kernel
theorem dX10_less_10 : decode cX10_less 10 = .ok (.bipush (-2), 2) := by decide +kernel
theorem dX10_less_12 : decode cX10_less 12 = .ok (.ireturn, 1) := by decide +kernel
theorem dX10_less_13 : decode cX10_less 13 = .ok (.aload_n 0, 1) := by decide +kernel
theorem dX10_less_14 : decode cX10_less 14 = .ok (.invokevirtual 217, 3) := by decide +kernel
theorem dX10_less_17 : decode cX10_less 17 = .ok (.iconst 1, 1) := by decide +kernel
theorem dX10_less_18 : decode cX10_less 18 = .ok (.istore_n 2, 1) := by decide +kernel
theorem dX10_less_19 : decode cX10_less 19 = .ok (.iload_n 2, 1) := by decide +kernel
theorem dX10_less_20 : decode cX10_less 20 = .ok (.bipush 30, 2) := by decide +kernel
theorem dX10_less_22 : decode cX10_less 22 = .ok (.if_icmp .gt 93, 3) := by decide +kernel
theorem dX10_less_25 : decode cX10_less 25 = .ok (.aload_n 0, 1) := by decide +kernel
theorem dX10_less_26 : decode cX10_less 26 = .ok (.iconst 2, 1) := by decide +kernel
theorem dX10_less_27 : decode cX10_less 27 = .ok (.iload_n 2, 1) := by decide +kernel
theorem dX10_less_28 : decode cX10_less 28 = .ok (.iload_n 1, 1) := by decide +kernel
theorem dX10_less_29 : decode cX10_less 29 = .ok (.iconst 1, 1) := by decide +kernel
theorem dX10_less_30 : decode cX10_less 30 = .ok (.invokevirtual 223, 3) := by decide +kernel
theorem dX10_less_33 : decode cX10_less 33 = .ok (.bipush (-5), 2) := by decide +kernel
theorem dX10_less_35 : decode cX10_less 35 = .ok (.if_icmp .ne 7, 3) := by decide +kernel
theorem dX10_less_38 : decode cX10_less 38 = .ok (.iconst 1, 1) := by decide +kernel
theorem dX10_less_39 : decode cX10_less 39 = .ok (.goto 4, 3) := by decide +kernel
theorem dX10_less_42 : decode cX10_less 42 = .ok (.iconst 0, 1) := by decide +kernel
theorem dX10_less_43 : decode cX10_less 43 = .ok (.istore_n 3, 1) := by decide +kernel
theorem dX10_less_44 : decode cX10_less 44 = .ok (.iconst 0, 1) := by decide +kernel
theorem dX10_less_45 : decode cX10_less 45 = .ok (.istore 4, 2) := by decide +kernel
theorem dX10_less_47 : decode cX10_less 47 = .ok (.iload 4, 2) := by decide +kernel
theorem dX10_less_49 : decode cX10_less 49 = .ok (.aload_n 0, 1) := by decide +kernel
theorem dX10_less_50 : decode cX10_less 50 = .ok (.getfield 18, 3) := by decide +kernel
theorem dX10_less_53 : decode cX10_less 53 = .ok (.iconst 0, 1) := by decide +kernel
theorem dX10_less_54 : decode cX10_less 54 = .ok (.iaload, 1) := by decide +kernel
theorem dX10_less_55 : decode cX10_less 55 = .ok (.if_icmp .ge 44, 3) := by decide +kernel
theorem dX10_less_58 : decode cX10_less 58 = .ok (.iload_n 3, 1) := by decide +kernel
theorem dX10_less_59 : decode cX10_less 59 = .ok (.ifCond .eq 32, 3) := by decide +kernel
theorem dX10_less_62 : decode cX10_less 62 = .ok (.aload_n 0, 1) := by decide +kernel
theorem dX10_less_63 : decode cX10_less 63 = .ok (.getfield 9, 3) := by decide +kernel
theorem dX10_less_66 : decode cX10_less 66 = .ok (.sipush 162, 3) := by decide +kernel
theorem dX10_less_69 : decode cX10_less 69 = .ok (.iload 4, 2) := by decide +kernel
theorem dX10_less_71 : decode cX10_less 71 = .ok (.iadd, 1) := by decide +kernel
theorem dX10_less_72 : decode cX10_less 72 = .ok (.iaload, 1) := by decide +kernel
theorem dX10_less_73 : decode cX10_less 73 = .ok (.aload_n 0, 1) := by decide +kernel
theorem dX10_less_74 : decode cX10_less 74 = .ok (.getfield 18, 3) := by decide +kernel
theorem dX10_less_77 : decode cX10_less 77 = .ok (.sipush 162, 3) := by decide +kernel
theorem dX10_less_80 : decode cX10_less 80 = .ok (.iload 4, 2) := by decide +kernel
theorem dX10_less_82 : decode cX10_less 82 = .ok (.iadd, 1) := by decide +kernel
theorem dX10_less_83 : decode cX10_less 83 = .ok (.iaload, 1) := by decide +kernel
theorem dX10_less_84 : decode cX10_less 84 = .ok (.if_icmp .gt 7, 3) := by decide +kernel
theorem dX10_less_87 : decode cX10_less 87 = .ok (.iconst 1, 1) := by decide +kernel
theorem dX10_less_88 : decode cX10_less 88 = .ok (.goto 4, 3) := by decide +kernel
theorem dX10_less_91 : decode cX10_less 91 = .ok (.iconst 0, 1) := by decide +kernel
theorem dX10_less_92 : decode cX10_less 92 = .ok (.istore_n 3, 1) := by decide +kernel
theorem dX10_less_93 : decode cX10_less 93 = .ok (.iinc 4 1, 3) := by decide +kernel
theorem dX10_less_96 : decode cX10_less 96 = .ok (.goto (-49), 3) := by decide +kernel
theorem dX10_less_99 : decode cX10_less 99 = .ok (.aload_n 0, 1) := by decide +kernel
theorem dX10_less_100 : decode cX10_less 100 = .ok (.invokevirtual 220, 3) := by decide +kernel
theorem dX10_less_103 : decode cX10_less 103 = .ok (.iload_n 3, 1) := by decide +kernel
theorem dX10_less_104 : decode cX10_less 104 = .ok (.ifCond .eq 5, 3) := by decide +kernel
theorem dX10_less_107 : decode cX10_less 107 = .ok (.iload_n 2, 1) := by decide +kernel
theorem dX10_less_108 : decode cX10_less 108 = .ok (.ireturn, 1) := by decide +kernel
theorem dX10_less_109 : decode cX10_less 109 = .ok (.iinc 2 1, 3) := by decide +kernel
theorem dX10_less_112 : decode cX10_less 112 = .ok (.goto (-93), 3) := by decide +kernel
theorem dX10_less_115 : decode cX10_less 115 = .ok (.bipush (-5), 2) := by decide +kernel
theorem dX10_less_117 : decode cX10_less 117 = .ok (.ireturn, 1) := by decide +kernel
def fX10_less_B92 (rc19 : Int → Int → vr_M → Option (Int × vr_M)) (rc47 : Int → Int → Int → Int → vr_M → Option (Int × vr_M)) (x1 : Int) (x2 : Int) (x4 : Int) (y0 : Int) (μ : vr_M) : Option (Int × vr_M) :=
  vr_gd (vr_R (x4 + 1)) (rc47 x1 x2 y0 (x4 + 1) μ)
def fX10_less_B91 (rc19 : Int → Int → vr_M → Option (Int × vr_M)) (rc47 : Int → Int → Int → Int → vr_M → Option (Int × vr_M)) (x1 : Int) (x2 : Int) (x4 : Int) (μ : vr_M) : Option (Int × vr_M) :=
  fX10_less_B92 rc19 rc47 x1 x2 x4 0 μ
def fX10_less_L47 (rc19 : Int → Int → vr_M → Option (Int × vr_M)) : Nat → Int → Int → Int → Int → vr_M → Option (Int × vr_M)
  | 0, _, _, _, _, _ => none
  | n + 1, x1, x2, x3, x4, μ => vr_gd (vr_R (μ 71 0)) (if (μ 71 0) ≤ x4 then (fX10_putsBack  μ).bind (fun r3 => if x3 = 0 then vr_gd (vr_R (x2 + 1)) (rc19 x1 (x2 + 1) r3.2) else some (x2, r3.2)) else if x3 = 0 then fX10_less_B91 rc19 (fX10_less_L47 rc19 n) x1 x2 x4 μ else vr_gd (0 ≤ (162 + x4) ∧ (162 + x4) < 933) (vr_gd (vr_R (μ 69 (162 + x4).toNat)) (vr_gd (vr_R (μ 71 (162 + x4).toNat)) (if (μ 71 (162 + x4).toNat) < (μ 69 (162 + x4).toNat) then fX10_less_B91 rc19 (fX10_less_L47 rc19 n) x1 x2 x4 μ else fX10_less_B92 rc19 (fX10_less_L47 rc19 n) x1 x2 x4 1 μ))))
def fX10_less_B43 (rc19 : Int → Int → vr_M → Option (Int × vr_M)) (x1 : Int) (x2 : Int) (y0 : Int) (μ : vr_M) : Option (Int × vr_M) :=
  fX10_less_L47 rc19 9000 x1 x2 y0 0 μ
def fX10_less_L19 : Nat → Int → Int → vr_M → Option (Int × vr_M)
  | 0, _, _, _ => none
  | n + 1, x1, x2, μ => if 30 < x2 then some ((-5), μ) else (fX10_firstHungry 2 x2 x1 1 μ).bind (fun r8 => if ¬ r8.1 = (-5) then fX10_less_B43 (fX10_less_L19 n) x1 x2 0 r8.2 else fX10_less_B43 (fX10_less_L19 n) x1 x2 1 r8.2)
def fX10_less (a0 : Int) (μ : vr_M) : Option (Int × vr_M) :=
  (fX10_in a0 1 30 μ).bind (fun r9 => if ¬ r9.1 = 0 then (fX10_keeps  r9.2).bind (fun r10 => fX10_less_L19 9000 a0 1 r10.2) else some ((-2), r9.2))
set_option maxRecDepth 100000 in
set_option maxHeartbeats 4000000 in
theorem ct_X10_less (l : Launch) (G : vr_G) (a0 : Int) (h_a0 : vr_R a0) (μ : vr_M) : vr_CI l yX10_less cX10_less 5 (some .int) ({ frames := 10, cells := 0, slots := 0, locals := 248 } : Room) G [.ref (vr_ad G 68), .int (vr_I a0)] μ (fX10_less a0 μ) := by
  refine vr_start (own := RX10) (by decide) rfl (Nat.le_of_ble_eq_true rfl) (fun p e s m args below meth c C0 => ?_)
  show vr_J p l e _ s m args below meth c 5 0 0 G (vr_Z (vr_QI G) G args s below) 0 [(0, .ref (vr_ad G 68)), (1, .int (vr_I a0))] [] μ _
  have L19 : ∀ (n : Nat) (x1 : Int) (h_x1 : vr_R x1) (x2 : Int) (h_x2 : vr_R x2) (μ : vr_M), vr_J p l e ({ frames := 10, cells := 0, slots := 0, locals := 248 } : Room) s m args below meth c 5 0 0 G (vr_Z (vr_QI G) G args s below) 19 [(0, .ref (vr_ad G 68)), (1, .int (vr_I x1)), (2, .int (vr_I x2))] [] μ (fX10_less_L19 n x1 x2 μ) := by
    intro n19
    induction n19 with
    | zero => intros; exact jr_none
    | succ n19 ih19 =>
      have L47 : ∀ (n : Nat) (x1 : Int) (h_x1 : vr_R x1) (x2 : Int) (h_x2 : vr_R x2) (x3 : Int) (h_x3 : vr_R x3) (x4 : Int) (h_x4 : vr_R x4) (μ : vr_M), vr_J p l e ({ frames := 10, cells := 0, slots := 0, locals := 248 } : Room) s m args below meth c 5 0 0 G (vr_Z (vr_QI G) G args s below) 47 [(0, .ref (vr_ad G 68)), (1, .int (vr_I x1)), (2, .int (vr_I x2)), (3, .int (vr_I x3)), (4, .int (vr_I x4))] [] μ (fX10_less_L47 (fX10_less_L19 n19) n x1 x2 x3 x4 μ) := by
        intro n47
        induction n47 with
        | zero => intros; exact jr_none
        | succ n47 ih47 =>
          have B92 : ∀ (x1 : Int) (h_x1 : vr_R x1) (x2 : Int) (h_x2 : vr_R x2) (x4 : Int) (h_x4 : vr_R x4) (y0 : Int) (h_y0 : vr_R y0) (μ : vr_M), vr_J p l e ({ frames := 10, cells := 0, slots := 0, locals := 248 } : Room) s m args below meth c 5 0 0 G (vr_Z (vr_QI G) G args s below) 92 [(0, .ref (vr_ad G 68)), (1, .int (vr_I x1)), (2, .int (vr_I x2)), (4, .int (vr_I x4))] [.int (vr_I y0)] μ (fX10_less_B92 (fX10_less_L19 n19) (fX10_less_L47 (fX10_less_L19 n19) n47) x1 x2 x4 y0 μ) := by
            intro x1 h_x1 x2 h_x2 x4 h_x4 y0 h_y0 μ
            unfold fX10_less_B92
            refine jr_istore_n C0 dX10_less_92 rfl (by decide) (lv' := [(3, .int (vr_I y0)), (0, .ref (vr_ad G 68)), (1, .int (vr_I x1)), (2, .int (vr_I x2)), (4, .int (vr_I x4))]) rfl ?_
            refine jr_iinc C0 (q := 4) dX10_less_93 rfl (by decide) (lv' := [(4, .int (vr_I (x4 + 1))), (3, .int (vr_I y0)), (0, .ref (vr_ad G 68)), (1, .int (vr_I x1)), (2, .int (vr_I x2))]) rfl ?_
            refine jr_goto C0 dX10_less_96 (tgt := 47) (by decide) ?_
            refine jr_gd (fun g1 => ?_)
            refine jr_sub [2, 3, 4, 1, 0] rfl ?_
            exact ih47 x1 h_x1 x2 h_x2 y0 h_y0 (x4 + 1) g1 _
          have B91 : ∀ (x1 : Int) (h_x1 : vr_R x1) (x2 : Int) (h_x2 : vr_R x2) (x4 : Int) (h_x4 : vr_R x4) (μ : vr_M), vr_J p l e ({ frames := 10, cells := 0, slots := 0, locals := 248 } : Room) s m args below meth c 5 0 0 G (vr_Z (vr_QI G) G args s below) 91 [(0, .ref (vr_ad G 68)), (1, .int (vr_I x1)), (2, .int (vr_I x2)), (4, .int (vr_I x4))] [] μ (fX10_less_B91 (fX10_less_L19 n19) (fX10_less_L47 (fX10_less_L19 n19) n47) x1 x2 x4 μ) := by
            intro x1 h_x1 x2 h_x2 x4 h_x4 μ
            unfold fX10_less_B91
            refine jr_iconst C0 dX10_less_91 ?_
            exact B92 x1 h_x1 x2 h_x2 x4 h_x4 0 (⟨by decide, by decide⟩) _
          intro x1 h_x1 x2 h_x2 x3 h_x3 x4 h_x4 μ
          rw [fX10_less_L47.eq_2]
          refine jr_iload C0 4 dX10_less_47 rfl ?_
          refine jr_aload_n C0 0 dX10_less_49 rfl rfl ?_
          refine jr_getr C0 (by decide) kd_68 (by decide) rfl wx_X10 (i := 3) (by decide) wf_X10_18 (j := 71) rfl dX10_less_50 ?_
          refine jr_iconst C0 dX10_less_53 ?_
          refine jr_iald C0 (by decide) kd_71 kl_71 (by decide) (j := 0) rfl dX10_less_54 ?_
          refine jr_gd (fun g2 => ?_)
          refine jr_icmp_ge C0 h_x4 g2 dX10_less_55 (tgt := 99) (by decide) ?_ ?_
          · refine jr_aload_n C0 0 dX10_less_99 rfl rfl ?_
            refine jr_vV0 C0 (by decide) kd_68 (by decide) rfl (ct_X10_putsBack l G  _) mi_X10_putsBack wm_X10_220 ⟨Nat.le_of_ble_eq_true rfl, Nat.le_of_ble_eq_true rfl⟩ ⟨rfl, rfl⟩ (As := []) rfl (st := []) rfl (Nat.le_of_ble_eq_true rfl) dX10_less_100 (fun r3 => ?_)
            refine jr_iload_n C0 3 dX10_less_103 rfl rfl ?_
            refine jr_if_eq C0 h_x3 dX10_less_104 (tgt := 109) (by decide) ?_ ?_
            · refine jr_iinc C0 (q := 2) dX10_less_109 rfl (by decide) (lv' := [(2, .int (vr_I (x2 + 1))), (0, .ref (vr_ad G 68)), (1, .int (vr_I x1)), (3, .int (vr_I x3)), (4, .int (vr_I x4))]) rfl ?_
              refine jr_goto C0 dX10_less_112 (tgt := 19) (by decide) ?_
              refine jr_gd (fun g4 => ?_)
              refine jr_sub [1, 2, 0] rfl ?_
              exact ih19 x1 h_x1 (x2 + 1) g4 _
            refine jr_iload_n C0 2 dX10_less_107 rfl rfl ?_
            exact jr_iret C0 h_x2 dX10_less_108
          refine jr_iload_n C0 3 dX10_less_58 rfl rfl ?_
          refine jr_if_eq C0 h_x3 dX10_less_59 (tgt := 91) (by decide) ?_ ?_
          · refine jr_sub [0, 1, 2, 4] rfl ?_
            exact B91 x1 h_x1 x2 h_x2 x4 h_x4 _
          refine jr_aload_n C0 0 dX10_less_62 rfl rfl ?_
          refine jr_getr C0 (by decide) kd_68 (by decide) rfl wx_X10 (i := 1) (by decide) wf_X10_9 (j := 69) rfl dX10_less_63 ?_
          refine jr_sipush C0 dX10_less_66 rfl ?_
          refine jr_iload C0 4 dX10_less_69 rfl ?_
          refine jr_iadd C0 dX10_less_71 ?_
          refine jr_gd (fun g5 => ?_)
          refine jr_iald C0 (by decide) kd_69 kl_69 g5 (j := (162 + x4).toNat) rfl dX10_less_72 ?_
          refine jr_aload_n C0 0 dX10_less_73 rfl rfl ?_
          refine jr_getr C0 (by decide) kd_68 (by decide) rfl wx_X10 (i := 3) (by decide) wf_X10_18 (j := 71) rfl dX10_less_74 ?_
          refine jr_sipush C0 dX10_less_77 rfl ?_
          refine jr_iload C0 4 dX10_less_80 rfl ?_
          refine jr_iadd C0 dX10_less_82 ?_
          refine jr_iald C0 (by decide) kd_71 kl_71 g5 (j := (162 + x4).toNat) rfl dX10_less_83 ?_
          refine jr_gd (fun g6 => ?_)
          refine jr_gd (fun g7 => ?_)
          refine jr_icmp_gt C0 g6 g7 dX10_less_84 (tgt := 91) (by decide) ?_ ?_
          · refine jr_sub [0, 1, 2, 4] rfl ?_
            exact B91 x1 h_x1 x2 h_x2 x4 h_x4 _
          refine jr_iconst C0 dX10_less_87 ?_
          refine jr_goto C0 dX10_less_88 (tgt := 92) (by decide) ?_
          refine jr_sub [0, 1, 2, 4] rfl ?_
          exact B92 x1 h_x1 x2 h_x2 x4 h_x4 1 (⟨by decide, by decide⟩) _
      have B43 : ∀ (x1 : Int) (h_x1 : vr_R x1) (x2 : Int) (h_x2 : vr_R x2) (y0 : Int) (h_y0 : vr_R y0) (μ : vr_M), vr_J p l e ({ frames := 10, cells := 0, slots := 0, locals := 248 } : Room) s m args below meth c 5 0 0 G (vr_Z (vr_QI G) G args s below) 43 [(0, .ref (vr_ad G 68)), (1, .int (vr_I x1)), (2, .int (vr_I x2))] [.int (vr_I y0)] μ (fX10_less_B43 (fX10_less_L19 n19) x1 x2 y0 μ) := by
        intro x1 h_x1 x2 h_x2 y0 h_y0 μ
        unfold fX10_less_B43
        refine jr_istore_n C0 dX10_less_43 rfl (by decide) (lv' := [(3, .int (vr_I y0)), (0, .ref (vr_ad G 68)), (1, .int (vr_I x1)), (2, .int (vr_I x2))]) rfl ?_
        refine jr_iconst C0 dX10_less_44 ?_
        refine jr_istore C0 dX10_less_45 (by decide) (lv' := [(4, .int (vr_I 0)), (3, .int (vr_I y0)), (0, .ref (vr_ad G 68)), (1, .int (vr_I x1)), (2, .int (vr_I x2))]) rfl ?_
        refine jr_sub [2, 3, 4, 1, 0] rfl ?_
        exact L47 9000 x1 h_x1 x2 h_x2 y0 h_y0 0 (⟨by decide, by decide⟩) _
      intro x1 h_x1 x2 h_x2 μ
      rw [fX10_less_L19.eq_2]
      refine jr_iload_n C0 2 dX10_less_19 rfl rfl ?_
      refine jr_bipush C0 dX10_less_20 rfl ?_
      refine jr_icmp_gt C0 h_x2 (⟨by decide, by decide⟩) dX10_less_22 (tgt := 115) (by decide) ?_ ?_
      · refine jr_bipush C0 dX10_less_115 rfl ?_
        exact jr_iret C0 (⟨by decide, by decide⟩) dX10_less_117
      refine jr_aload_n C0 0 dX10_less_25 rfl rfl ?_
      refine jr_iconst C0 dX10_less_26 ?_
      refine jr_iload_n C0 2 dX10_less_27 rfl rfl ?_
      refine jr_iload_n C0 1 dX10_less_28 rfl rfl ?_
      refine jr_iconst C0 dX10_less_29 ?_
      refine jr_vI C0 (by decide) kd_68 (by decide) rfl (ct_X10_firstHungry l G 2 (⟨by decide, by decide⟩) x2 h_x2 x1 h_x1 1 (⟨by decide, by decide⟩) _) mi_X10_firstHungry wm_X10_223 ⟨Nat.le_of_ble_eq_true rfl, Nat.le_of_ble_eq_true rfl⟩ ⟨rfl, rfl⟩ (As := [.int (vr_I 2), .int (vr_I x2), .int (vr_I x1), .int (vr_I 1)]) rfl (st := []) rfl (Nat.le_of_ble_eq_true rfl) dX10_less_30 (fun r8 hr8 => ?_)
      refine jr_bipush C0 dX10_less_33 rfl ?_
      refine jr_icmp_ne C0 hr8 (⟨by decide, by decide⟩) dX10_less_35 (tgt := 42) (by decide) ?_ ?_
      · refine jr_iconst C0 dX10_less_42 ?_
        exact B43 x1 h_x1 x2 h_x2 0 (⟨by decide, by decide⟩) _
      refine jr_iconst C0 dX10_less_38 ?_
      refine jr_goto C0 dX10_less_39 (tgt := 43) (by decide) ?_
      exact B43 x1 h_x1 x2 h_x2 1 (⟨by decide, by decide⟩) _
  unfold fX10_less
  refine jr_iload_n C0 1 dX10_less_0 rfl rfl ?_
  refine jr_iconst C0 dX10_less_1 ?_
  refine jr_bipush C0 dX10_less_2 rfl ?_
  refine jr_sI C0 (ct_X10_in l G a0 h_a0 1 (⟨by decide, by decide⟩) 30 (⟨by decide, by decide⟩) _) mi_X10_in wm_X10_44 ⟨Nat.le_of_ble_eq_true rfl, Nat.le_of_ble_eq_true rfl⟩ ⟨rfl, rfl⟩ (As := [.int (vr_I a0), .int (vr_I 1), .int (vr_I 30)]) rfl (st := []) rfl (Nat.le_of_ble_eq_true rfl) dX10_less_4 (fun r9 hr9 => ?_)
  refine jr_if_ne C0 hr9 dX10_less_7 (tgt := 13) (by decide) ?_ ?_
  · refine jr_aload_n C0 0 dX10_less_13 rfl rfl ?_
    refine jr_vV0 C0 (by decide) kd_68 (by decide) rfl (ct_X10_keeps l G  _) mi_X10_keeps wm_X10_217 ⟨Nat.le_of_ble_eq_true rfl, Nat.le_of_ble_eq_true rfl⟩ ⟨rfl, rfl⟩ (As := []) rfl (st := []) rfl (Nat.le_of_ble_eq_true rfl) dX10_less_14 (fun r10 => ?_)
    refine jr_iconst C0 dX10_less_17 ?_
    refine jr_istore_n C0 dX10_less_18 rfl (by decide) (lv' := [(2, .int (vr_I 1)), (0, .ref (vr_ad G 68)), (1, .int (vr_I a0))]) rfl ?_
    refine jr_sub [1, 2, 0] rfl ?_
    exact L19 9000 a0 h_a0 1 (⟨by decide, by decide⟩) _
  refine jr_bipush C0 dX10_less_10 rfl ?_
  exact jr_iret C0 (⟨by decide, by decide⟩) dX10_less_12
theorem dX10_divisor_0 : decode cX10_divisor 0 = .ok (.lload_n 0, 1) := by decide +kernel
theorem dX10_divisor_1 : decode cX10_divisor 1 = .ok (.lstore 4, 2) := by decide +kernel
theorem dX10_divisor_3 : decode cX10_divisor 3 = .ok (.lload_n 2, 1) := by decide +kernel
theorem dX10_divisor_4 : decode cX10_divisor 4 = .ok (.lstore 6, 2) := by decide +kernel
theorem dX10_divisor_6 : decode cX10_divisor 6 = .ok (.lload 6, 2) := by decide +kernel
theorem dX10_divisor_8 : decode cX10_divisor 8 = .ok (.lconst 0, 1) := by decide +kernel
theorem dX10_divisor_9 : decode cX10_divisor 9 = .ok (.lcmp, 1) := by decide +kernel
theorem dX10_divisor_10 : decode cX10_divisor 10 = .ok (.ifCond .eq 21, 3) := by decide +kernel
theorem dX10_divisor_13 : decode cX10_divisor 13 = .ok (.lload 4, 2) := by decide +kernel
theorem dX10_divisor_15 : decode cX10_divisor 15 = .ok (.lload 6, 2) := by decide +kernel
theorem dX10_divisor_17 : decode cX10_divisor 17 = .ok (.lrem, 1) := by decide +kernel
theorem dX10_divisor_18 : decode cX10_divisor 18 = .ok (.lstore 8, 2) := by decide +kernel
theorem dX10_divisor_20 : decode cX10_divisor 20 = .ok (.lload 6, 2) := by decide +kernel
theorem dX10_divisor_22 : decode cX10_divisor 22 = .ok (.lstore 4, 2) := by decide +kernel
theorem dX10_divisor_24 : decode cX10_divisor 24 = .ok (.lload 8, 2) := by decide +kernel
theorem dX10_divisor_26 : decode cX10_divisor 26 = .ok (.lstore 6, 2) := by decide +kernel
theorem dX10_divisor_28 : decode cX10_divisor 28 = .ok (.goto (-22), 3) := by decide +kernel
theorem dX10_divisor_31 : decode cX10_divisor 31 = .ok (.lload 4, 2) := by decide +kernel
theorem dX10_divisor_33 : decode cX10_divisor 33 = .ok (.lreturn, 1) := by decide +kernel
def fX10_divisor_L6 : Nat → Int64 → Int64 → vr_M → Option (Int64 × vr_M)
  | 0, _, _, _ => none
  | n + 1, x4, x6, μ => if (vr_lcmp x6 (0 : Int64)) = 0 then some (x4, μ) else vr_gd (¬ x6 = 0) ((fX10_divisor_L6 n) x6 (vr_lrem x4 x6) μ)
def fX10_divisor (a0 : Int64) (a1 : Int64) (μ : vr_M) : Option (Int64 × vr_M) :=
  fX10_divisor_L6 9000 a0 a1 μ
set_option maxRecDepth 100000 in
set_option maxHeartbeats 4000000 in
theorem ct_X10_divisor (l : Launch) (G : vr_G) (a0 : Int64) (a1 : Int64) (μ : vr_M) : vr_CL l yX10_divisor cX10_divisor 10 (some .long) ({ frames := 0, cells := 0, slots := 0, locals := 0 } : Room) G [.long a0, .long a1] μ (fX10_divisor a0 a1 μ) := by
  refine vr_start (own := RX10) (by decide) rfl (Nat.le_of_ble_eq_true rfl) (fun p e s m args below meth c C0 => ?_)
  show vr_J p l e _ s m args below meth c 10 0 0 G (vr_Z (vr_QL G) G args s below) 0 [(0, .long a0), (2, .long a1)] [] μ _
  have L6 : ∀ (n : Nat) (x4 : Int64) (x6 : Int64) (μ : vr_M), vr_J p l e ({ frames := 0, cells := 0, slots := 0, locals := 0 } : Room) s m args below meth c 10 0 0 G (vr_Z (vr_QL G) G args s below) 6 [(4, .long x4), (6, .long x6)] [] μ (fX10_divisor_L6 n x4 x6 μ) := by
    intro n6
    induction n6 with
    | zero => intros; exact jr_none
    | succ n6 ih6 =>
      intro x4 x6 μ
      rw [fX10_divisor_L6.eq_2]
      refine jr_lload C0 1 dX10_divisor_6 rfl ?_
      refine jr_lconst C0 dX10_divisor_8 (v := 0) rfl ?_
      refine jr_lcmp C0 dX10_divisor_9 ?_
      refine jr_if_eq C0 (vr_RT _) dX10_divisor_10 (tgt := 31) (by decide) ?_ ?_
      · refine jr_lload C0 0 dX10_divisor_31 rfl ?_
        exact jr_lret C0 dX10_divisor_33
      refine jr_lload C0 0 dX10_divisor_13 rfl ?_
      refine jr_lload C0 1 dX10_divisor_15 rfl ?_
      refine jr_gd (fun g1 => ?_)
      refine jr_lrem C0 g1 dX10_divisor_17 ?_
      refine jr_lstore C0 dX10_divisor_18 (by decide) (lv' := [(8, .long (vr_lrem x4 x6)), (4, .long x4), (6, .long x6)]) rfl ?_
      refine jr_lload C0 2 dX10_divisor_20 rfl ?_
      refine jr_lstore C0 dX10_divisor_22 (by decide) (lv' := [(4, .long x6), (8, .long (vr_lrem x4 x6)), (6, .long x6)]) rfl ?_
      refine jr_lload C0 1 dX10_divisor_24 rfl ?_
      refine jr_lstore C0 dX10_divisor_26 (by decide) (lv' := [(6, .long (vr_lrem x4 x6)), (4, .long x6), (8, .long (vr_lrem x4 x6))]) rfl ?_
      refine jr_goto C0 dX10_divisor_28 (tgt := 6) (by decide) ?_
      refine jr_sub [1, 0] rfl ?_
      exact ih6 x6 (vr_lrem x4 x6) _
  unfold fX10_divisor
  refine jr_lload_n C0 0 dX10_divisor_0 rfl rfl ?_
  refine jr_lstore C0 dX10_divisor_1 (by decide) (lv' := [(4, .long a0), (0, .long a0), (2, .long a1)]) rfl ?_
  refine jr_lload_n C0 2 dX10_divisor_3 rfl rfl ?_
  refine jr_lstore C0 dX10_divisor_4 (by decide) (lv' := [(6, .long a1), (4, .long a0), (0, .long a0), (2, .long a1)]) rfl ?_
  refine jr_sub [1, 0] rfl ?_
  exact L6 9000 a0 a1 _
theorem dX10_safe_0 : decode cX10_safe 0 = .ok (.aload_n 0, 1) := by decide +kernel
theorem dX10_safe_1 : decode cX10_safe 1 = .ok (.iload_n 1, 1) := by decide +kernel
theorem dX10_safe_2 : decode cX10_safe 2 = .ok (.invokevirtual 190, 3) := by decide +kernel
theorem dX10_safe_5 : decode cX10_safe 5 = .ok (.ifCond .eq 22, 3) := by decide +kernel
theorem dX10_safe_8 : decode cX10_safe 8 = .ok (.iload_n 2, 1) := by decide +kernel
theorem dX10_safe_9 : decode cX10_safe 9 = .ok (.iconst 1, 1) := by decide +kernel
theorem dX10_safe_10 : decode cX10_safe 10 = .ok (.bipush 6, 2) := by decide +kernel
theorem dX10_safe_12 : decode cX10_safe 12 = .ok (.invokestatic 44, 3) := by decide +kernel
theorem dX10_safe_15 : decode cX10_safe 15 = .ok (.ifCond .eq 12, 3) := by decide +kernel
theorem dX10_safe_18 : decode cX10_safe 18 = .ok (.iload_n 3, 1) := by decide +kernel
theorem dX10_safe_19 : decode cX10_safe 19 = .ok (.iconst 0, 1) := by decide +kernel
theorem dX10_safe_20 : decode cX10_safe 20 = .ok (.iconst 1, 1) := by decide +kernel
theorem dX10_safe_21 : decode cX10_safe 21 = .ok (.invokestatic 44, 3) := by decide +kernel
theorem dX10_safe_24 : decode cX10_safe 24 = .ok (.ifCond .ne 7, 3) := by decide +kernel
theorem dX10_safe_27 : decode cX10_safe 27 = .ok (.ldc2_w 237, 3) := by decide +kernel
theorem dX10_safe_30 : decode cX10_safe 30 = .ok (.lreturn, 1) := by decide +kernel
theorem dX10_safe_31 : decode cX10_safe 31 = .ok (.lconst 1, 1) := by decide +kernel
theorem dX10_safe_32 : decode cX10_safe 32 = .ok (.lstore 4, 2) := by decide +kernel
theorem dX10_safe_34 : decode cX10_safe 34 = .ok (.lconst 1, 1) := by decide +kernel
theorem dX10_safe_35 : decode cX10_safe 35 = .ok (.lstore 6, 2) := by decide +kernel
theorem dX10_safe_37 : decode cX10_safe 37 = .ok (.aload_n 0, 1) := by decide +kernel
theorem dX10_safe_38 : decode cX10_safe 38 = .ok (.sipush 223, 3) := by decide +kernel
theorem dX10_safe_41 : decode cX10_safe 41 = .ok (.iconst 0, 1) := by decide +kernel
theorem dX10_safe_42 : decode cX10_safe 42 = .ok (.invokevirtual 139, 3) := by decide +kernel
theorem dX10_safe_45 : decode cX10_safe 45 = .ok (.istore 8, 2) := by decide +kernel
theorem dX10_safe_47 : decode cX10_safe 47 = .ok (.aload_n 0, 1) := by decide +kernel
theorem dX10_safe_48 : decode cX10_safe 48 = .ok (.invokevirtual 217, 3) := by decide +kernel
theorem dX10_safe_51 : decode cX10_safe 51 = .ok (.iconst 0, 1) := by decide +kernel
theorem dX10_safe_52 : decode cX10_safe 52 = .ok (.istore 9, 2) := by decide +kernel
theorem dX10_safe_54 : decode cX10_safe 54 = .ok (.iload 9, 2) := by decide +kernel
theorem dX10_safe_56 : decode cX10_safe 56 = .ok (.iload_n 2, 1) := by decide +kernel
theorem dX10_safe_57 : decode cX10_safe 57 = .ok (.if_icmp .ge 98, 3) := by decide +kernel
theorem dX10_safe_60 : decode cX10_safe 60 = .ok (.aload_n 0, 1) := by decide +kernel
theorem dX10_safe_61 : decode cX10_safe 61 = .ok (.aload_n 0, 1) := by decide +kernel
theorem dX10_safe_62 : decode cX10_safe 62 = .ok (.getfield 9, 3) := by decide +kernel
theorem dX10_safe_65 : decode cX10_safe 65 = .ok (.sipush 170, 3) := by decide +kernel
theorem dX10_safe_68 : decode cX10_safe 68 = .ok (.iload_n 1, 1) := by decide +kernel
theorem dX10_safe_69 : decode cX10_safe 69 = .ok (.iadd, 1) := by decide +kernel
theorem dX10_safe_70 : decode cX10_safe 70 = .ok (.iaload, 1) := by decide +kernel
theorem dX10_safe_71 : decode cX10_safe 71 = .ok (.aload_n 0, 1) := by decide +kernel
theorem dX10_safe_72 : decode cX10_safe 72 = .ok (.getfield 9, 3) := by decide +kernel
theorem dX10_safe_75 : decode cX10_safe 75 = .ok (.sipush 178, 3) := by decide +kernel
theorem dX10_safe_78 : decode cX10_safe 78 = .ok (.iload_n 1, 1) := by decide +kernel
theorem dX10_safe_79 : decode cX10_safe 79 = .ok (.iadd, 1) := by decide +kernel
theorem dX10_safe_80 : decode cX10_safe 80 = .ok (.iaload, 1) := by decide +kernel
theorem dX10_safe_81 : decode cX10_safe 81 = .ok (.iconst 1, 1) := by decide +kernel
theorem dX10_safe_82 : decode cX10_safe 82 = .ok (.invokevirtual 214, 3) := by decide +kernel
theorem dX10_safe_85 : decode cX10_safe 85 = .ok (.istore 10, 2) := by decide +kernel
theorem dX10_safe_87 : decode cX10_safe 87 = .ok (.aload_n 0, 1) := by decide +kernel
theorem dX10_safe_88 : decode cX10_safe 88 = .ok (.getfield 208, 3) := by decide +kernel
theorem dX10_safe_91 : decode cX10_safe 91 = .ok (.iload 10, 2) := by decide +kernel
theorem dX10_safe_93 : decode cX10_safe 93 = .ok (.isub, 1) := by decide +kernel
theorem dX10_safe_94 : decode cX10_safe 94 = .ok (.istore 11, 2) := by decide +kernel
theorem dX10_safe_96 : decode cX10_safe 96 = .ok (.lload 4, 2) := by decide +kernel
theorem dX10_safe_98 : decode cX10_safe 98 = .ok (.aload_n 0, 1) := by decide +kernel
theorem dX10_safe_99 : decode cX10_safe 99 = .ok (.getfield 211, 3) := by decide +kernel
theorem dX10_safe_102 : decode cX10_safe 102 = .ok (.ifCond .eq 7, 3) := by decide +kernel
theorem dX10_safe_105 : decode cX10_safe 105 = .ok (.iconst 0, 1) := by decide +kernel
theorem dX10_safe_106 : decode cX10_safe 106 = .ok (.goto 8, 3) := by decide +kernel
theorem dX10_safe_109 : decode cX10_safe 109 = .ok (.bipush 10, 2) := by decide +kernel
theorem dX10_safe_111 : decode cX10_safe 111 = .ok (.iload 8, 2) := by decide +kernel
theorem dX10_safe_113 : decode cX10_safe 113 = .ok (.isub, 1) := by decide +kernel
theorem dX10_safe_114 : decode cX10_safe 114 = .ok (.aload_n 0, 1) := by decide +kernel
theorem dX10_safe_115 : decode cX10_safe 115 = .ok (.getfield 208, 3) := by decide +kernel
theorem dX10_safe_118 : decode cX10_safe 118 = .ok (.iconst 2, 1) := by decide +kernel
theorem dX10_safe_119 : decode cX10_safe 119 = .ok (.idiv, 1) := by decide +kernel
theorem dX10_safe_120 : decode cX10_safe 120 = .ok (.iload 11, 2) := by decide +kernel
theorem dX10_safe_122 : decode cX10_safe 122 = .ok (.isub, 1) := by decide +kernel
theorem dX10_safe_123 : decode cX10_safe 123 = .ok (.aload_n 0, 1) := by decide +kernel
theorem dX10_safe_124 : decode cX10_safe 124 = .ok (.getfield 205, 3) := by decide +kernel
theorem dX10_safe_127 : decode cX10_safe 127 = .ok (.if_icmp .ge 7, 3) := by decide +kernel
theorem dX10_safe_130 : decode cX10_safe 130 = .ok (.iconst 0, 1) := by decide +kernel
theorem dX10_safe_131 : decode cX10_safe 131 = .ok (.goto 5, 3) := by decide +kernel
theorem dX10_safe_134 : decode cX10_safe 134 = .ok (.iload 8, 2) := by decide +kernel
theorem dX10_safe_136 : decode cX10_safe 136 = .ok (.iadd, 1) := by decide +kernel
theorem dX10_safe_137 : decode cX10_safe 137 = .ok (.i2l, 1) := by decide +kernel
theorem dX10_safe_138 : decode cX10_safe 138 = .ok (.lmul, 1) := by decide +kernel
theorem dX10_safe_139 : decode cX10_safe 139 = .ok (.lstore 4, 2) := by decide +kernel
theorem dX10_safe_141 : decode cX10_safe 141 = .ok (.lload 6, 2) := by decide +kernel
theorem dX10_safe_143 : decode cX10_safe 143 = .ok (.ldc2_w 239, 3) := by decide +kernel
theorem dX10_safe_146 : decode cX10_safe 146 = .ok (.lmul, 1) := by decide +kernel
theorem dX10_safe_147 : decode cX10_safe 147 = .ok (.lstore 6, 2) := by decide +kernel
theorem dX10_safe_149 : decode cX10_safe 149 = .ok (.iinc 9 1, 3) := by decide +kernel
theorem dX10_safe_152 : decode cX10_safe 152 = .ok (.goto (-98), 3) := by decide +kernel
theorem dX10_safe_155 : decode cX10_safe 155 = .ok (.aload_n 0, 1) := by decide +kernel
theorem dX10_safe_156 : decode cX10_safe 156 = .ok (.invokevirtual 220, 3) := by decide +kernel
theorem dX10_safe_159 : decode cX10_safe 159 = .ok (.iload_n 3, 1) := by decide +kernel
theorem dX10_safe_160 : decode cX10_safe 160 = .ok (.ifCond .ne 8, 3) := by decide +kernel
theorem dX10_safe_163 : decode cX10_safe 163 = .ok (.lload 4, 2) := by decide +kernel
theorem dX10_safe_165 : decode cX10_safe 165 = .ok (.goto 5, 3) := by decide +kernel
theorem dX10_safe_168 : decode cX10_safe 168 = .ok (.lload 6, 2) := by decide +kernel
theorem dX10_safe_170 : decode cX10_safe 170 = .ok (.lload 4, 2) := by decide +kernel
theorem dX10_safe_172 : decode cX10_safe 172 = .ok (.lload 6, 2) := by decide +kernel
theorem dX10_safe_174 : decode cX10_safe 174 = .ok (.invokestatic 241, 3) := by decide +kernel
theorem dX10_safe_177 : decode cX10_safe 177 = .ok (.ldiv, 1) := by decide +kernel
theorem dX10_safe_178 : decode cX10_safe 178 = .ok (.lreturn, 1) := by decide +kernel
def fX10_safe_B27 (μ : vr_M) : Option (Int64 × vr_M) :=
  some (((-9223372036854775808) : Int64), μ)
def fX10_safe_B170 (x4 : Int64) (x6 : Int64) (y0 : Int64) (μ : vr_M) : Option (Int64 × vr_M) :=
  (fX10_divisor x4 x6 μ).bind (fun r1 => vr_gd (¬ r1.1 = 0) (some (y0 / r1.1, r1.2)))
def fX10_safe_B136 (rc54 : Int → Int → Int → Int64 → Int64 → Int → Int → vr_M → Option (Int64 × vr_M)) (x1 : Int) (x2 : Int) (x3 : Int) (x6 : Int64) (x8 : Int) (x9 : Int) (y0 : Int64) (y1 : Int) (y2 : Int) (μ : vr_M) : Option (Int64 × vr_M) :=
  vr_gd (vr_R (x9 + 1)) (rc54 x1 x2 x3 (y0 * (vr_i2l (y1 + y2))) (x6 * (10 : Int64)) x8 (x9 + 1) μ)
def fX10_safe_B114 (rc54 : Int → Int → Int → Int64 → Int64 → Int → Int → vr_M → Option (Int64 × vr_M)) (x1 : Int) (x2 : Int) (x3 : Int) (x6 : Int64) (x8 : Int) (x9 : Int) (x11 : Int) (y0 : Int64) (y1 : Int) (μ : vr_M) : Option (Int64 × vr_M) :=
  vr_gd (vr_R (μ 68 17)) (vr_gd (vr_R (((μ 68 17).tdiv 2) - x11)) (vr_gd (vr_R (μ 68 18)) (if (μ 68 18) ≤ (((μ 68 17).tdiv 2) - x11) then fX10_safe_B136 rc54 x1 x2 x3 x6 x8 x9 y0 y1 x8 μ else fX10_safe_B136 rc54 x1 x2 x3 x6 x8 x9 y0 y1 0 μ)))
def fX10_safe_L54 : Nat → Int → Int → Int → Int64 → Int64 → Int → Int → vr_M → Option (Int64 × vr_M)
  | 0, _, _, _, _, _, _, _, _ => none
  | n + 1, x1, x2, x3, x4, x6, x8, x9, μ => if x2 ≤ x9 then (fX10_putsBack  μ).bind (fun r7 => if ¬ x3 = 0 then fX10_safe_B170 x4 x6 x6 r7.2 else fX10_safe_B170 x4 x6 x4 r7.2) else vr_gd (0 ≤ (170 + x1) ∧ (170 + x1) < 933) (vr_gd (0 ≤ (178 + x1) ∧ (178 + x1) < 933) (vr_gd (vr_R (μ 69 (170 + x1).toNat)) (vr_gd (vr_R (μ 69 (178 + x1).toNat)) ((fX10_yearBy (μ 69 (170 + x1).toNat) (μ 69 (178 + x1).toNat) 1 μ).bind (fun r12 => vr_gd (vr_R (r12.2 68 15)) (if (r12.2 68 15) = 0 then vr_gd (vr_R ((r12.2 68 17) - r12.1)) (vr_gd (vr_R (10 - x8)) (fX10_safe_B114 (fX10_safe_L54 n) x1 x2 x3 x6 x8 x9 ((r12.2 68 17) - r12.1) x4 (10 - x8) r12.2)) else vr_gd (vr_R ((r12.2 68 17) - r12.1)) (fX10_safe_B114 (fX10_safe_L54 n) x1 x2 x3 x6 x8 x9 ((r12.2 68 17) - r12.1) x4 0 r12.2)))))))
def fX10_safe (a0 : Int) (a1 : Int) (a2 : Int) (μ : vr_M) : Option (Int64 × vr_M) :=
  (fX10_isRule a0 μ).bind (fun r17 => if r17.1 = 0 then fX10_safe_B27 r17.2 else (fX10_in a1 1 6 r17.2).bind (fun r18 => if r18.1 = 0 then fX10_safe_B27 r18.2 else (fX10_in a2 0 1 r18.2).bind (fun r19 => if ¬ r19.1 = 0 then (fX10_tellsOf 223 0 r19.2).bind (fun r20 => (fX10_keeps  r20.2).bind (fun r21 => fX10_safe_L54 9000 a0 a1 a2 (1 : Int64) (1 : Int64) r20.1 0 r21.2)) else fX10_safe_B27 r19.2)))
set_option maxRecDepth 100000 in
set_option maxHeartbeats 4000000 in
theorem ct_X10_safe (l : Launch) (G : vr_G) (a0 : Int) (h_a0 : vr_R a0) (a1 : Int) (h_a1 : vr_R a1) (a2 : Int) (h_a2 : vr_R a2) (μ : vr_M) : vr_CL l yX10_safe cX10_safe 12 (some .long) ({ frames := 9, cells := 0, slots := 0, locals := 222 } : Room) G [.ref (vr_ad G 68), .int (vr_I a0), .int (vr_I a1), .int (vr_I a2)] μ (fX10_safe a0 a1 a2 μ) := by
  refine vr_start (own := RX10) (by decide) rfl (Nat.le_of_ble_eq_true rfl) (fun p e s m args below meth c C0 => ?_)
  show vr_J p l e _ s m args below meth c 12 0 0 G (vr_Z (vr_QL G) G args s below) 0 [(0, .ref (vr_ad G 68)), (1, .int (vr_I a0)), (2, .int (vr_I a1)), (3, .int (vr_I a2))] [] μ _
  have B27 : ∀ (μ : vr_M), vr_J p l e ({ frames := 9, cells := 0, slots := 0, locals := 222 } : Room) s m args below meth c 12 0 0 G (vr_Z (vr_QL G) G args s below) 27 [] [] μ (fX10_safe_B27 μ) := by
    intro μ
    unfold fX10_safe_B27
    refine jr_ldc2 C0 wk_X10_237 dX10_safe_27 ?_
    exact jr_lret C0 dX10_safe_30
  have B170 : ∀ (x4 : Int64) (x6 : Int64) (y0 : Int64) (μ : vr_M), vr_J p l e ({ frames := 9, cells := 0, slots := 0, locals := 222 } : Room) s m args below meth c 12 0 0 G (vr_Z (vr_QL G) G args s below) 170 [(4, .long x4), (6, .long x6)] [.long y0] μ (fX10_safe_B170 x4 x6 y0 μ) := by
    intro x4 x6 y0 μ
    unfold fX10_safe_B170
    refine jr_lload C0 0 dX10_safe_170 rfl ?_
    refine jr_lload C0 1 dX10_safe_172 rfl ?_
    refine jr_sL C0 (ct_X10_divisor l G x4 x6 _) mi_X10_divisor wm_X10_241 ⟨Nat.le_of_ble_eq_true rfl, Nat.le_of_ble_eq_true rfl⟩ ⟨rfl, rfl⟩ (As := [.long x4, .long x6]) rfl (st := [.long y0]) rfl (Nat.le_of_ble_eq_true rfl) dX10_safe_174 (fun r1 => ?_)
    refine jr_gd (fun g2 => ?_)
    refine jr_ldiv C0 g2 dX10_safe_177 ?_
    exact jr_lret C0 dX10_safe_178
  have L54 : ∀ (n : Nat) (x1 : Int) (h_x1 : vr_R x1) (x2 : Int) (h_x2 : vr_R x2) (x3 : Int) (h_x3 : vr_R x3) (x4 : Int64) (x6 : Int64) (x8 : Int) (h_x8 : vr_R x8) (x9 : Int) (h_x9 : vr_R x9) (μ : vr_M), vr_J p l e ({ frames := 9, cells := 0, slots := 0, locals := 222 } : Room) s m args below meth c 12 0 0 G (vr_Z (vr_QL G) G args s below) 54 [(0, .ref (vr_ad G 68)), (1, .int (vr_I x1)), (2, .int (vr_I x2)), (3, .int (vr_I x3)), (4, .long x4), (6, .long x6), (8, .int (vr_I x8)), (9, .int (vr_I x9))] [] μ (fX10_safe_L54 n x1 x2 x3 x4 x6 x8 x9 μ) := by
    intro n54
    induction n54 with
    | zero => intros; exact jr_none
    | succ n54 ih54 =>
      have B136 : ∀ (x1 : Int) (h_x1 : vr_R x1) (x2 : Int) (h_x2 : vr_R x2) (x3 : Int) (h_x3 : vr_R x3) (x6 : Int64) (x8 : Int) (h_x8 : vr_R x8) (x9 : Int) (h_x9 : vr_R x9) (y0 : Int64) (y1 : Int) (h_y1 : vr_R y1) (y2 : Int) (h_y2 : vr_R y2) (μ : vr_M), vr_J p l e ({ frames := 9, cells := 0, slots := 0, locals := 222 } : Room) s m args below meth c 12 0 0 G (vr_Z (vr_QL G) G args s below) 136 [(0, .ref (vr_ad G 68)), (1, .int (vr_I x1)), (2, .int (vr_I x2)), (3, .int (vr_I x3)), (6, .long x6), (8, .int (vr_I x8)), (9, .int (vr_I x9))] [.int (vr_I y2), .int (vr_I y1), .long y0] μ (fX10_safe_B136 (fX10_safe_L54 n54) x1 x2 x3 x6 x8 x9 y0 y1 y2 μ) := by
        intro x1 h_x1 x2 h_x2 x3 h_x3 x6 x8 h_x8 x9 h_x9 y0 y1 h_y1 y2 h_y2 μ
        unfold fX10_safe_B136
        refine jr_iadd C0 dX10_safe_136 ?_
        refine jr_i2l C0 dX10_safe_137 ?_
        refine jr_lmul C0 dX10_safe_138 ?_
        refine jr_lstore C0 dX10_safe_139 (by decide) (lv' := [(4, .long (y0 * (vr_i2l (y1 + y2)))), (0, .ref (vr_ad G 68)), (1, .int (vr_I x1)), (2, .int (vr_I x2)), (3, .int (vr_I x3)), (6, .long x6), (8, .int (vr_I x8)), (9, .int (vr_I x9))]) rfl ?_
        refine jr_lload C0 5 dX10_safe_141 rfl ?_
        refine jr_ldc2 C0 wk_X10_239 dX10_safe_143 ?_
        refine jr_lmul C0 dX10_safe_146 ?_
        refine jr_lstore C0 dX10_safe_147 (by decide) (lv' := [(6, .long (x6 * (10 : Int64))), (4, .long (y0 * (vr_i2l (y1 + y2)))), (0, .ref (vr_ad G 68)), (1, .int (vr_I x1)), (2, .int (vr_I x2)), (3, .int (vr_I x3)), (8, .int (vr_I x8)), (9, .int (vr_I x9))]) rfl ?_
        refine jr_iinc C0 (q := 7) dX10_safe_149 rfl (by decide) (lv' := [(9, .int (vr_I (x9 + 1))), (6, .long (x6 * (10 : Int64))), (4, .long (y0 * (vr_i2l (y1 + y2)))), (0, .ref (vr_ad G 68)), (1, .int (vr_I x1)), (2, .int (vr_I x2)), (3, .int (vr_I x3)), (8, .int (vr_I x8))]) rfl ?_
        refine jr_goto C0 dX10_safe_152 (tgt := 54) (by decide) ?_
        refine jr_gd (fun g3 => ?_)
        refine jr_sub [3, 4, 5, 6, 2, 1, 7, 0] rfl ?_
        exact ih54 x1 h_x1 x2 h_x2 x3 h_x3 (y0 * (vr_i2l (y1 + y2))) (x6 * (10 : Int64)) x8 h_x8 (x9 + 1) g3 _
      have B114 : ∀ (x1 : Int) (h_x1 : vr_R x1) (x2 : Int) (h_x2 : vr_R x2) (x3 : Int) (h_x3 : vr_R x3) (x6 : Int64) (x8 : Int) (h_x8 : vr_R x8) (x9 : Int) (h_x9 : vr_R x9) (x11 : Int) (h_x11 : vr_R x11) (y0 : Int64) (y1 : Int) (h_y1 : vr_R y1) (μ : vr_M), vr_J p l e ({ frames := 9, cells := 0, slots := 0, locals := 222 } : Room) s m args below meth c 12 0 0 G (vr_Z (vr_QL G) G args s below) 114 [(0, .ref (vr_ad G 68)), (1, .int (vr_I x1)), (2, .int (vr_I x2)), (3, .int (vr_I x3)), (6, .long x6), (8, .int (vr_I x8)), (9, .int (vr_I x9)), (11, .int (vr_I x11))] [.int (vr_I y1), .long y0] μ (fX10_safe_B114 (fX10_safe_L54 n54) x1 x2 x3 x6 x8 x9 x11 y0 y1 μ) := by
        intro x1 h_x1 x2 h_x2 x3 h_x3 x6 x8 h_x8 x9 h_x9 x11 h_x11 y0 y1 h_y1 μ
        unfold fX10_safe_B114
        refine jr_aload_n C0 0 dX10_safe_114 rfl rfl ?_
        refine jr_geti C0 (by decide) kd_68 (by decide) rfl wx_X10 (i := 17) (by decide) wf_X10_208 rfl dX10_safe_115 ?_
        refine jr_iconst C0 dX10_safe_118 ?_
        refine jr_gd (fun g4 => ?_)
        refine jr_idiv C0 g4 (⟨by decide, by decide⟩) (by decide) dX10_safe_119 ?_
        refine jr_iload C0 7 dX10_safe_120 rfl ?_
        refine jr_isub C0 dX10_safe_122 ?_
        refine jr_aload_n C0 0 dX10_safe_123 rfl rfl ?_
        refine jr_geti C0 (by decide) kd_68 (by decide) rfl wx_X10 (i := 18) (by decide) wf_X10_205 rfl dX10_safe_124 ?_
        refine jr_gd (fun g5 => ?_)
        refine jr_gd (fun g6 => ?_)
        refine jr_icmp_ge C0 g5 g6 dX10_safe_127 (tgt := 134) (by decide) ?_ ?_
        · refine jr_iload C0 5 dX10_safe_134 rfl ?_
          refine jr_sub [0, 1, 2, 3, 4, 5, 6] rfl ?_
          exact B136 x1 h_x1 x2 h_x2 x3 h_x3 x6 x8 h_x8 x9 h_x9 y0 y1 h_y1 x8 h_x8 _
        refine jr_iconst C0 dX10_safe_130 ?_
        refine jr_goto C0 dX10_safe_131 (tgt := 136) (by decide) ?_
        refine jr_sub [0, 1, 2, 3, 4, 5, 6] rfl ?_
        exact B136 x1 h_x1 x2 h_x2 x3 h_x3 x6 x8 h_x8 x9 h_x9 y0 y1 h_y1 0 (⟨by decide, by decide⟩) _
      intro x1 h_x1 x2 h_x2 x3 h_x3 x4 x6 x8 h_x8 x9 h_x9 μ
      rw [fX10_safe_L54.eq_2]
      refine jr_iload C0 7 dX10_safe_54 rfl ?_
      refine jr_iload_n C0 2 dX10_safe_56 rfl rfl ?_
      refine jr_icmp_ge C0 h_x9 h_x2 dX10_safe_57 (tgt := 155) (by decide) ?_ ?_
      · refine jr_aload_n C0 0 dX10_safe_155 rfl rfl ?_
        refine jr_vV0 C0 (by decide) kd_68 (by decide) rfl (ct_X10_putsBack l G  _) mi_X10_putsBack wm_X10_220 ⟨Nat.le_of_ble_eq_true rfl, Nat.le_of_ble_eq_true rfl⟩ ⟨rfl, rfl⟩ (As := []) rfl (st := []) rfl (Nat.le_of_ble_eq_true rfl) dX10_safe_156 (fun r7 => ?_)
        refine jr_iload_n C0 3 dX10_safe_159 rfl rfl ?_
        refine jr_if_ne C0 h_x3 dX10_safe_160 (tgt := 168) (by decide) ?_ ?_
        · refine jr_lload C0 5 dX10_safe_168 rfl ?_
          refine jr_sub [4, 5] rfl ?_
          exact B170 x4 x6 x6 _
        refine jr_lload C0 4 dX10_safe_163 rfl ?_
        refine jr_goto C0 dX10_safe_165 (tgt := 170) (by decide) ?_
        refine jr_sub [4, 5] rfl ?_
        exact B170 x4 x6 x4 _
      refine jr_aload_n C0 0 dX10_safe_60 rfl rfl ?_
      refine jr_aload_n C0 0 dX10_safe_61 rfl rfl ?_
      refine jr_getr C0 (by decide) kd_68 (by decide) rfl wx_X10 (i := 1) (by decide) wf_X10_9 (j := 69) rfl dX10_safe_62 ?_
      refine jr_sipush C0 dX10_safe_65 rfl ?_
      refine jr_iload_n C0 1 dX10_safe_68 rfl rfl ?_
      refine jr_iadd C0 dX10_safe_69 ?_
      refine jr_gd (fun g8 => ?_)
      refine jr_iald C0 (by decide) kd_69 kl_69 g8 (j := (170 + x1).toNat) rfl dX10_safe_70 ?_
      refine jr_aload_n C0 0 dX10_safe_71 rfl rfl ?_
      refine jr_getr C0 (by decide) kd_68 (by decide) rfl wx_X10 (i := 1) (by decide) wf_X10_9 (j := 69) rfl dX10_safe_72 ?_
      refine jr_sipush C0 dX10_safe_75 rfl ?_
      refine jr_iload_n C0 1 dX10_safe_78 rfl rfl ?_
      refine jr_iadd C0 dX10_safe_79 ?_
      refine jr_gd (fun g9 => ?_)
      refine jr_iald C0 (by decide) kd_69 kl_69 g9 (j := (178 + x1).toNat) rfl dX10_safe_80 ?_
      refine jr_iconst C0 dX10_safe_81 ?_
      refine jr_gd (fun g10 => ?_)
      refine jr_gd (fun g11 => ?_)
      refine jr_vI C0 (by decide) kd_68 (by decide) rfl (ct_X10_yearBy l G (μ 69 (170 + x1).toNat) g10 (μ 69 (178 + x1).toNat) g11 1 (⟨by decide, by decide⟩) _) mi_X10_yearBy wm_X10_214 ⟨Nat.le_of_ble_eq_true rfl, Nat.le_of_ble_eq_true rfl⟩ ⟨rfl, rfl⟩ (As := [.int (vr_I (μ 69 (170 + x1).toNat)), .int (vr_I (μ 69 (178 + x1).toNat)), .int (vr_I 1)]) rfl (st := []) rfl (Nat.le_of_ble_eq_true rfl) dX10_safe_82 (fun r12 hr12 => ?_)
      refine jr_istore C0 dX10_safe_85 (by decide) (lv' := [(10, .int (vr_I r12.1)), (0, .ref (vr_ad G 68)), (1, .int (vr_I x1)), (2, .int (vr_I x2)), (3, .int (vr_I x3)), (4, .long x4), (6, .long x6), (8, .int (vr_I x8)), (9, .int (vr_I x9))]) rfl ?_
      refine jr_aload_n C0 1 dX10_safe_87 rfl rfl ?_
      refine jr_geti C0 (by decide) kd_68 (by decide) rfl wx_X10 (i := 17) (by decide) wf_X10_208 rfl dX10_safe_88 ?_
      refine jr_iload C0 0 dX10_safe_91 rfl ?_
      refine jr_isub C0 dX10_safe_93 ?_
      refine jr_istore C0 dX10_safe_94 (by decide) (lv' := [(11, .int (vr_I ((r12.2 68 17) - r12.1))), (10, .int (vr_I r12.1)), (0, .ref (vr_ad G 68)), (1, .int (vr_I x1)), (2, .int (vr_I x2)), (3, .int (vr_I x3)), (4, .long x4), (6, .long x6), (8, .int (vr_I x8)), (9, .int (vr_I x9))]) rfl ?_
      refine jr_lload C0 6 dX10_safe_96 rfl ?_
      refine jr_aload_n C0 2 dX10_safe_98 rfl rfl ?_
      refine jr_geti C0 (by decide) kd_68 (by decide) rfl wx_X10 (i := 15) (by decide) wf_X10_211 rfl dX10_safe_99 ?_
      refine jr_gd (fun g13 => ?_)
      refine jr_if_eq C0 g13 dX10_safe_102 (tgt := 109) (by decide) ?_ ?_
      · refine jr_bipush C0 dX10_safe_109 rfl ?_
        refine jr_iload C0 8 dX10_safe_111 rfl ?_
        refine jr_isub C0 dX10_safe_113 ?_
        refine jr_gd (fun g14 => ?_)
        refine jr_gd (fun g15 => ?_)
        refine jr_sub [2, 3, 4, 5, 7, 8, 9, 0] rfl ?_
        exact B114 x1 h_x1 x2 h_x2 x3 h_x3 x6 x8 h_x8 x9 h_x9 ((r12.2 68 17) - r12.1) g14 x4 (10 - x8) g15 _
      refine jr_iconst C0 dX10_safe_105 ?_
      refine jr_goto C0 dX10_safe_106 (tgt := 114) (by decide) ?_
      refine jr_gd (fun g16 => ?_)
      refine jr_sub [2, 3, 4, 5, 7, 8, 9, 0] rfl ?_
      exact B114 x1 h_x1 x2 h_x2 x3 h_x3 x6 x8 h_x8 x9 h_x9 ((r12.2 68 17) - r12.1) g16 x4 0 (⟨by decide, by decide⟩) _
  unfold fX10_safe
  refine jr_aload_n C0 0 dX10_safe_0 rfl rfl ?_
  refine jr_iload_n C0 1 dX10_safe_1 rfl rfl ?_
  refine jr_vI C0 (by decide) kd_68 (by decide) rfl (ct_X10_isRule l G a0 h_a0 _) mi_X10_isRule wm_X10_190 ⟨Nat.le_of_ble_eq_true rfl, Nat.le_of_ble_eq_true rfl⟩ ⟨rfl, rfl⟩ (As := [.int (vr_I a0)]) rfl (st := []) rfl (Nat.le_of_ble_eq_true rfl) dX10_safe_2 (fun r17 hr17 => ?_)
  refine jr_if_eq C0 hr17 dX10_safe_5 (tgt := 27) (by decide) ?_ ?_
  · refine jr_sub [] rfl ?_
    exact B27 _
  refine jr_iload_n C0 2 dX10_safe_8 rfl rfl ?_
  refine jr_iconst C0 dX10_safe_9 ?_
  refine jr_bipush C0 dX10_safe_10 rfl ?_
  refine jr_sI C0 (ct_X10_in l G a1 h_a1 1 (⟨by decide, by decide⟩) 6 (⟨by decide, by decide⟩) _) mi_X10_in wm_X10_44 ⟨Nat.le_of_ble_eq_true rfl, Nat.le_of_ble_eq_true rfl⟩ ⟨rfl, rfl⟩ (As := [.int (vr_I a1), .int (vr_I 1), .int (vr_I 6)]) rfl (st := []) rfl (Nat.le_of_ble_eq_true rfl) dX10_safe_12 (fun r18 hr18 => ?_)
  refine jr_if_eq C0 hr18 dX10_safe_15 (tgt := 27) (by decide) ?_ ?_
  · refine jr_sub [] rfl ?_
    exact B27 _
  refine jr_iload_n C0 3 dX10_safe_18 rfl rfl ?_
  refine jr_iconst C0 dX10_safe_19 ?_
  refine jr_iconst C0 dX10_safe_20 ?_
  refine jr_sI C0 (ct_X10_in l G a2 h_a2 0 (⟨by decide, by decide⟩) 1 (⟨by decide, by decide⟩) _) mi_X10_in wm_X10_44 ⟨Nat.le_of_ble_eq_true rfl, Nat.le_of_ble_eq_true rfl⟩ ⟨rfl, rfl⟩ (As := [.int (vr_I a2), .int (vr_I 0), .int (vr_I 1)]) rfl (st := []) rfl (Nat.le_of_ble_eq_true rfl) dX10_safe_21 (fun r19 hr19 => ?_)
  refine jr_if_ne C0 hr19 dX10_safe_24 (tgt := 31) (by decide) ?_ ?_
  · refine jr_lconst C0 dX10_safe_31 (v := 1) rfl ?_
    refine jr_lstore C0 dX10_safe_32 (by decide) (lv' := [(4, .long (1 : Int64)), (0, .ref (vr_ad G 68)), (1, .int (vr_I a0)), (2, .int (vr_I a1)), (3, .int (vr_I a2))]) rfl ?_
    refine jr_lconst C0 dX10_safe_34 (v := 1) rfl ?_
    refine jr_lstore C0 dX10_safe_35 (by decide) (lv' := [(6, .long (1 : Int64)), (4, .long (1 : Int64)), (0, .ref (vr_ad G 68)), (1, .int (vr_I a0)), (2, .int (vr_I a1)), (3, .int (vr_I a2))]) rfl ?_
    refine jr_aload_n C0 2 dX10_safe_37 rfl rfl ?_
    refine jr_sipush C0 dX10_safe_38 rfl ?_
    refine jr_iconst C0 dX10_safe_41 ?_
    refine jr_vI C0 (by decide) kd_68 (by decide) rfl (ct_X10_tellsOf l G 223 (⟨by decide, by decide⟩) 0 (⟨by decide, by decide⟩) _) mi_X10_tellsOf wm_X10_139 ⟨Nat.le_of_ble_eq_true rfl, Nat.le_of_ble_eq_true rfl⟩ ⟨rfl, rfl⟩ (As := [.int (vr_I 223), .int (vr_I 0)]) rfl (st := []) rfl (Nat.le_of_ble_eq_true rfl) dX10_safe_42 (fun r20 hr20 => ?_)
    refine jr_istore C0 dX10_safe_45 (by decide) (lv' := [(8, .int (vr_I r20.1)), (6, .long (1 : Int64)), (4, .long (1 : Int64)), (0, .ref (vr_ad G 68)), (1, .int (vr_I a0)), (2, .int (vr_I a1)), (3, .int (vr_I a2))]) rfl ?_
    refine jr_aload_n C0 3 dX10_safe_47 rfl rfl ?_
    refine jr_vV0 C0 (by decide) kd_68 (by decide) rfl (ct_X10_keeps l G  _) mi_X10_keeps wm_X10_217 ⟨Nat.le_of_ble_eq_true rfl, Nat.le_of_ble_eq_true rfl⟩ ⟨rfl, rfl⟩ (As := []) rfl (st := []) rfl (Nat.le_of_ble_eq_true rfl) dX10_safe_48 (fun r21 => ?_)
    refine jr_iconst C0 dX10_safe_51 ?_
    refine jr_istore C0 dX10_safe_52 (by decide) (lv' := [(9, .int (vr_I 0)), (8, .int (vr_I r20.1)), (6, .long (1 : Int64)), (4, .long (1 : Int64)), (0, .ref (vr_ad G 68)), (1, .int (vr_I a0)), (2, .int (vr_I a1)), (3, .int (vr_I a2))]) rfl ?_
    refine jr_sub [4, 5, 6, 7, 3, 2, 1, 0] rfl ?_
    exact L54 9000 a0 h_a0 a1 h_a1 a2 h_a2 (1 : Int64) (1 : Int64) r20.1 hr20 0 (⟨by decide, by decide⟩) _
  refine jr_sub [] rfl ?_
  exact B27 _
theorem dX10_two_0 : decode cX10_two 0 = .ok (.iload_n 1, 1) := by decide +kernel
theorem dX10_two_1 : decode cX10_two 1 = .ok (.iconst 0, 1) := by decide +kernel
theorem dX10_two_2 : decode cX10_two 2 = .ok (.bipush 40, 2) := by decide +kernel
theorem dX10_two_4 : decode cX10_two 4 = .ok (.invokestatic 44, 3) := by decide +kernel
theorem dX10_two_7 : decode cX10_two 7 = .ok (.ifCond .ne 6, 3) := by decide +kernel
theorem dX10_two_10 : decode cX10_two 10 = .ok (.bipush (-2), 2) := by decide +kernel
theorem dX10_two_12 : decode cX10_two 12 = .ok (.ireturn, 1) := by decide +kernel
theorem dX10_two_13 : decode cX10_two 13 = .ok (.aload_n 0, 1) := by decide +kernel
theorem dX10_two_14 : decode cX10_two 14 = .ok (.getfield 9, 3) := by decide +kernel
theorem dX10_two_17 : decode cX10_two 17 = .ok (.bipush 8, 2) := by decide +kernel
theorem dX10_two_19 : decode cX10_two 19 = .ok (.iaload, 1) := by decide +kernel
theorem dX10_two_20 : decode cX10_two 20 = .ok (.iconst 1, 1) := by decide +kernel
theorem dX10_two_21 : decode cX10_two 21 = .ok (.iadd, 1) := by decide +kernel
theorem dX10_two_22 : decode cX10_two 22 = .ok (.iconst 2, 1) := by decide +kernel
theorem dX10_two_23 : decode cX10_two 23 = .ok (.idiv, 1) := by decide +kernel
theorem dX10_two_24 : decode cX10_two 24 = .ok (.istore_n 2, 1) := by decide +kernel
theorem dX10_two_25 : decode cX10_two 25 = .ok (.iconst 1, 1) := by decide +kernel
theorem dX10_two_26 : decode cX10_two 26 = .ok (.aload_n 0, 1) := by decide +kernel
theorem dX10_two_27 : decode cX10_two 27 = .ok (.getfield 9, 3) := by decide +kernel
theorem dX10_two_30 : decode cX10_two 30 = .ok (.iconst 0, 1) := by decide +kernel
theorem dX10_two_31 : decode cX10_two 31 = .ok (.iaload, 1) := by decide +kernel
theorem dX10_two_32 : decode cX10_two 32 = .ok (.ishl, 1) := by decide +kernel
theorem dX10_two_33 : decode cX10_two 33 = .ok (.iconst 1, 1) := by decide +kernel
theorem dX10_two_34 : decode cX10_two 34 = .ok (.isub, 1) := by decide +kernel
theorem dX10_two_35 : decode cX10_two 35 = .ok (.istore_n 3, 1) := by decide +kernel
theorem dX10_two_36 : decode cX10_two 36 = .ok (.iconst 0, 1) := by decide +kernel
theorem dX10_two_37 : decode cX10_two 37 = .ok (.istore 4, 2) := by decide +kernel
theorem dX10_two_39 : decode cX10_two 39 = .ok (.iconst 0, 1) := by decide +kernel
theorem dX10_two_40 : decode cX10_two 40 = .ok (.istore 5, 2) := by decide +kernel
theorem dX10_two_42 : decode cX10_two 42 = .ok (.iload 5, 2) := by decide +kernel
theorem dX10_two_44 : decode cX10_two 44 = .ok (.iload_n 3, 1) := by decide +kernel
theorem dX10_two_45 : decode cX10_two 45 = .ok (.if_icmp .gt 51, 3) := by decide +kernel
theorem dX10_two_48 : decode cX10_two 48 = .ok (.iload 4, 2) := by decide +kernel
theorem dX10_two_50 : decode cX10_two 50 = .ok (.aload_n 0, 1) := by decide +kernel
theorem dX10_two_51 : decode cX10_two 51 = .ok (.iload 5, 2) := by decide +kernel
theorem dX10_two_53 : decode cX10_two 53 = .ok (.aload_n 0, 1) := by decide +kernel
theorem dX10_two_54 : decode cX10_two 54 = .ok (.getfield 9, 3) := by decide +kernel
theorem dX10_two_57 : decode cX10_two 57 = .ok (.bipush 7, 2) := by decide +kernel
theorem dX10_two_59 : decode cX10_two 59 = .ok (.iaload, 1) := by decide +kernel
theorem dX10_two_60 : decode cX10_two 60 = .ok (.invokevirtual 161, 3) := by decide +kernel
theorem dX10_two_63 : decode cX10_two 63 = .ok (.iload_n 2, 1) := by decide +kernel
theorem dX10_two_64 : decode cX10_two 64 = .ok (.if_icmp .lt 22, 3) := by decide +kernel
theorem dX10_two_67 : decode cX10_two 67 = .ok (.aload_n 0, 1) := by decide +kernel
theorem dX10_two_68 : decode cX10_two 68 = .ok (.iload_n 3, 1) := by decide +kernel
theorem dX10_two_69 : decode cX10_two 69 = .ok (.iload 5, 2) := by decide +kernel
theorem dX10_two_71 : decode cX10_two 71 = .ok (.iconst (-1), 1) := by decide +kernel
theorem dX10_two_72 : decode cX10_two 72 = .ok (.ixor, 1) := by decide +kernel
theorem dX10_two_73 : decode cX10_two 73 = .ok (.iand, 1) := by decide +kernel
theorem dX10_two_74 : decode cX10_two 74 = .ok (.iload_n 1, 1) := by decide +kernel
theorem dX10_two_75 : decode cX10_two 75 = .ok (.invokevirtual 161, 3) := by decide +kernel
theorem dX10_two_78 : decode cX10_two 78 = .ok (.iload_n 2, 1) := by decide +kernel
theorem dX10_two_79 : decode cX10_two 79 = .ok (.if_icmp .lt 7, 3) := by decide +kernel
theorem dX10_two_82 : decode cX10_two 82 = .ok (.iconst 1, 1) := by decide +kernel
theorem dX10_two_83 : decode cX10_two 83 = .ok (.goto 4, 3) := by decide +kernel
theorem dX10_two_86 : decode cX10_two 86 = .ok (.iconst 0, 1) := by decide +kernel
theorem dX10_two_87 : decode cX10_two 87 = .ok (.iadd, 1) := by decide +kernel
theorem dX10_two_88 : decode cX10_two 88 = .ok (.istore 4, 2) := by decide +kernel
theorem dX10_two_90 : decode cX10_two 90 = .ok (.iinc 5 1, 3) := by decide +kernel
theorem dX10_two_93 : decode cX10_two 93 = .ok (.goto (-51), 3) := by decide +kernel
theorem dX10_two_96 : decode cX10_two 96 = .ok (.iload 4, 2) := by decide +kernel
theorem dX10_two_98 : decode cX10_two 98 = .ok (.ireturn, 1) := by decide +kernel
def fX10_two_B87 (rc42 : Int → Int → Int → Int → Int → vr_M → Option (Int × vr_M)) (x1 : Int) (x2 : Int) (x3 : Int) (x5 : Int) (y0 : Int) (y1 : Int) (μ : vr_M) : Option (Int × vr_M) :=
  vr_gd (vr_R (y0 + y1)) (vr_gd (vr_R (x5 + 1)) (rc42 x1 x2 x3 (y0 + y1) (x5 + 1) μ))
def fX10_two_B86 (rc42 : Int → Int → Int → Int → Int → vr_M → Option (Int × vr_M)) (x1 : Int) (x2 : Int) (x3 : Int) (x5 : Int) (y0 : Int) (μ : vr_M) : Option (Int × vr_M) :=
  fX10_two_B87 rc42 x1 x2 x3 x5 y0 0 μ
def fX10_two_L42 : Nat → Int → Int → Int → Int → Int → vr_M → Option (Int × vr_M)
  | 0, _, _, _, _, _, _ => none
  | n + 1, x1, x2, x3, x4, x5, μ => if x3 < x5 then some (x4, μ) else vr_gd (vr_R (μ 69 7)) ((fX10_sumOf x5 (μ 69 7) μ).bind (fun r4 => if r4.1 < x2 then fX10_two_B86 (fX10_two_L42 n) x1 x2 x3 x5 x4 r4.2 else (fX10_sumOf (vr_and x3 (vr_xor x5 (-1))) x1 r4.2).bind (fun r5 => if r5.1 < x2 then fX10_two_B86 (fX10_two_L42 n) x1 x2 x3 x5 x4 r5.2 else fX10_two_B87 (fX10_two_L42 n) x1 x2 x3 x5 x4 1 r5.2)))
def fX10_two (a0 : Int) (μ : vr_M) : Option (Int × vr_M) :=
  (fX10_in a0 0 40 μ).bind (fun r6 => if ¬ r6.1 = 0 then vr_gd (vr_R ((r6.2 69 8) + 1)) (vr_gd (vr_R (((r6.2 69 8) + 1).tdiv 2)) (vr_gd (vr_R ((vr_shl 1 (r6.2 69 0)) - 1)) (fX10_two_L42 9000 a0 (((r6.2 69 8) + 1).tdiv 2) ((vr_shl 1 (r6.2 69 0)) - 1) 0 0 r6.2))) else some ((-2), r6.2))
set_option maxRecDepth 100000 in
set_option maxHeartbeats 4000000 in
theorem ct_X10_two (l : Launch) (G : vr_G) (a0 : Int) (h_a0 : vr_R a0) (μ : vr_M) : vr_CI l yX10_two cX10_two 6 (some .int) ({ frames := 5, cells := 0, slots := 0, locals := 122 } : Room) G [.ref (vr_ad G 68), .int (vr_I a0)] μ (fX10_two a0 μ) := by
  refine vr_start (own := RX10) (by decide) rfl (Nat.le_of_ble_eq_true rfl) (fun p e s m args below meth c C0 => ?_)
  show vr_J p l e _ s m args below meth c 6 0 0 G (vr_Z (vr_QI G) G args s below) 0 [(0, .ref (vr_ad G 68)), (1, .int (vr_I a0))] [] μ _
  have L42 : ∀ (n : Nat) (x1 : Int) (h_x1 : vr_R x1) (x2 : Int) (h_x2 : vr_R x2) (x3 : Int) (h_x3 : vr_R x3) (x4 : Int) (h_x4 : vr_R x4) (x5 : Int) (h_x5 : vr_R x5) (μ : vr_M), vr_J p l e ({ frames := 5, cells := 0, slots := 0, locals := 122 } : Room) s m args below meth c 6 0 0 G (vr_Z (vr_QI G) G args s below) 42 [(0, .ref (vr_ad G 68)), (1, .int (vr_I x1)), (2, .int (vr_I x2)), (3, .int (vr_I x3)), (4, .int (vr_I x4)), (5, .int (vr_I x5))] [] μ (fX10_two_L42 n x1 x2 x3 x4 x5 μ) := by
    intro n42
    induction n42 with
    | zero => intros; exact jr_none
    | succ n42 ih42 =>
      have B87 : ∀ (x1 : Int) (h_x1 : vr_R x1) (x2 : Int) (h_x2 : vr_R x2) (x3 : Int) (h_x3 : vr_R x3) (x5 : Int) (h_x5 : vr_R x5) (y0 : Int) (h_y0 : vr_R y0) (y1 : Int) (h_y1 : vr_R y1) (μ : vr_M), vr_J p l e ({ frames := 5, cells := 0, slots := 0, locals := 122 } : Room) s m args below meth c 6 0 0 G (vr_Z (vr_QI G) G args s below) 87 [(0, .ref (vr_ad G 68)), (1, .int (vr_I x1)), (2, .int (vr_I x2)), (3, .int (vr_I x3)), (5, .int (vr_I x5))] [.int (vr_I y1), .int (vr_I y0)] μ (fX10_two_B87 (fX10_two_L42 n42) x1 x2 x3 x5 y0 y1 μ) := by
        intro x1 h_x1 x2 h_x2 x3 h_x3 x5 h_x5 y0 h_y0 y1 h_y1 μ
        unfold fX10_two_B87
        refine jr_iadd C0 dX10_two_87 ?_
        refine jr_istore C0 dX10_two_88 (by decide) (lv' := [(4, .int (vr_I (y0 + y1))), (0, .ref (vr_ad G 68)), (1, .int (vr_I x1)), (2, .int (vr_I x2)), (3, .int (vr_I x3)), (5, .int (vr_I x5))]) rfl ?_
        refine jr_iinc C0 (q := 5) dX10_two_90 rfl (by decide) (lv' := [(5, .int (vr_I (x5 + 1))), (4, .int (vr_I (y0 + y1))), (0, .ref (vr_ad G 68)), (1, .int (vr_I x1)), (2, .int (vr_I x2)), (3, .int (vr_I x3))]) rfl ?_
        refine jr_goto C0 dX10_two_93 (tgt := 42) (by decide) ?_
        refine jr_gd (fun g1 => ?_)
        refine jr_gd (fun g2 => ?_)
        refine jr_sub [2, 3, 4, 5, 1, 0] rfl ?_
        exact ih42 x1 h_x1 x2 h_x2 x3 h_x3 (y0 + y1) g1 (x5 + 1) g2 _
      have B86 : ∀ (x1 : Int) (h_x1 : vr_R x1) (x2 : Int) (h_x2 : vr_R x2) (x3 : Int) (h_x3 : vr_R x3) (x5 : Int) (h_x5 : vr_R x5) (y0 : Int) (h_y0 : vr_R y0) (μ : vr_M), vr_J p l e ({ frames := 5, cells := 0, slots := 0, locals := 122 } : Room) s m args below meth c 6 0 0 G (vr_Z (vr_QI G) G args s below) 86 [(0, .ref (vr_ad G 68)), (1, .int (vr_I x1)), (2, .int (vr_I x2)), (3, .int (vr_I x3)), (5, .int (vr_I x5))] [.int (vr_I y0)] μ (fX10_two_B86 (fX10_two_L42 n42) x1 x2 x3 x5 y0 μ) := by
        intro x1 h_x1 x2 h_x2 x3 h_x3 x5 h_x5 y0 h_y0 μ
        unfold fX10_two_B86
        refine jr_iconst C0 dX10_two_86 ?_
        exact B87 x1 h_x1 x2 h_x2 x3 h_x3 x5 h_x5 y0 h_y0 0 (⟨by decide, by decide⟩) _
      intro x1 h_x1 x2 h_x2 x3 h_x3 x4 h_x4 x5 h_x5 μ
      rw [fX10_two_L42.eq_2]
      refine jr_iload C0 5 dX10_two_42 rfl ?_
      refine jr_iload_n C0 3 dX10_two_44 rfl rfl ?_
      refine jr_icmp_gt C0 h_x5 h_x3 dX10_two_45 (tgt := 96) (by decide) ?_ ?_
      · refine jr_iload C0 4 dX10_two_96 rfl ?_
        exact jr_iret C0 h_x4 dX10_two_98
      refine jr_iload C0 4 dX10_two_48 rfl ?_
      refine jr_aload_n C0 0 dX10_two_50 rfl rfl ?_
      refine jr_iload C0 5 dX10_two_51 rfl ?_
      refine jr_aload_n C0 0 dX10_two_53 rfl rfl ?_
      refine jr_getr C0 (by decide) kd_68 (by decide) rfl wx_X10 (i := 1) (by decide) wf_X10_9 (j := 69) rfl dX10_two_54 ?_
      refine jr_bipush C0 dX10_two_57 rfl ?_
      refine jr_iald C0 (by decide) kd_69 kl_69 (by decide) (j := 7) rfl dX10_two_59 ?_
      refine jr_gd (fun g3 => ?_)
      refine jr_vI C0 (by decide) kd_68 (by decide) rfl (ct_X10_sumOf l G x5 h_x5 (μ 69 7) g3 _) mi_X10_sumOf wm_X10_161 ⟨Nat.le_of_ble_eq_true rfl, Nat.le_of_ble_eq_true rfl⟩ ⟨rfl, rfl⟩ (As := [.int (vr_I x5), .int (vr_I (μ 69 7))]) rfl (st := [.int (vr_I x4)]) rfl (Nat.le_of_ble_eq_true rfl) dX10_two_60 (fun r4 hr4 => ?_)
      refine jr_iload_n C0 2 dX10_two_63 rfl rfl ?_
      refine jr_icmp_lt C0 hr4 h_x2 dX10_two_64 (tgt := 86) (by decide) ?_ ?_
      · refine jr_sub [0, 1, 2, 3, 5] rfl ?_
        exact B86 x1 h_x1 x2 h_x2 x3 h_x3 x5 h_x5 x4 h_x4 _
      refine jr_aload_n C0 0 dX10_two_67 rfl rfl ?_
      refine jr_iload_n C0 3 dX10_two_68 rfl rfl ?_
      refine jr_iload C0 5 dX10_two_69 rfl ?_
      refine jr_iconst C0 dX10_two_71 ?_
      refine jr_ixor C0 dX10_two_72 ?_
      refine jr_iand C0 dX10_two_73 ?_
      refine jr_iload_n C0 1 dX10_two_74 rfl rfl ?_
      refine jr_vI C0 (by decide) kd_68 (by decide) rfl (ct_X10_sumOf l G (vr_and x3 (vr_xor x5 (-1))) (vr_RT _) x1 h_x1 _) mi_X10_sumOf wm_X10_161 ⟨Nat.le_of_ble_eq_true rfl, Nat.le_of_ble_eq_true rfl⟩ ⟨rfl, rfl⟩ (As := [.int (vr_I (vr_and x3 (vr_xor x5 (-1)))), .int (vr_I x1)]) rfl (st := [.int (vr_I x4)]) rfl (Nat.le_of_ble_eq_true rfl) dX10_two_75 (fun r5 hr5 => ?_)
      refine jr_iload_n C0 2 dX10_two_78 rfl rfl ?_
      refine jr_icmp_lt C0 hr5 h_x2 dX10_two_79 (tgt := 86) (by decide) ?_ ?_
      · refine jr_sub [0, 1, 2, 3, 5] rfl ?_
        exact B86 x1 h_x1 x2 h_x2 x3 h_x3 x5 h_x5 x4 h_x4 _
      refine jr_iconst C0 dX10_two_82 ?_
      refine jr_goto C0 dX10_two_83 (tgt := 87) (by decide) ?_
      refine jr_sub [0, 1, 2, 3, 5] rfl ?_
      exact B87 x1 h_x1 x2 h_x2 x3 h_x3 x5 h_x5 x4 h_x4 1 (⟨by decide, by decide⟩) _
  unfold fX10_two
  refine jr_iload_n C0 1 dX10_two_0 rfl rfl ?_
  refine jr_iconst C0 dX10_two_1 ?_
  refine jr_bipush C0 dX10_two_2 rfl ?_
  refine jr_sI C0 (ct_X10_in l G a0 h_a0 0 (⟨by decide, by decide⟩) 40 (⟨by decide, by decide⟩) _) mi_X10_in wm_X10_44 ⟨Nat.le_of_ble_eq_true rfl, Nat.le_of_ble_eq_true rfl⟩ ⟨rfl, rfl⟩ (As := [.int (vr_I a0), .int (vr_I 0), .int (vr_I 40)]) rfl (st := []) rfl (Nat.le_of_ble_eq_true rfl) dX10_two_4 (fun r6 hr6 => ?_)
  refine jr_if_ne C0 hr6 dX10_two_7 (tgt := 13) (by decide) ?_ ?_
  · refine jr_aload_n C0 0 dX10_two_13 rfl rfl ?_
    refine jr_getr C0 (by decide) kd_68 (by decide) rfl wx_X10 (i := 1) (by decide) wf_X10_9 (j := 69) rfl dX10_two_14 ?_
    refine jr_bipush C0 dX10_two_17 rfl ?_
    refine jr_iald C0 (by decide) kd_69 kl_69 (by decide) (j := 8) rfl dX10_two_19 ?_
    refine jr_iconst C0 dX10_two_20 ?_
    refine jr_iadd C0 dX10_two_21 ?_
    refine jr_iconst C0 dX10_two_22 ?_
    refine jr_gd (fun g7 => ?_)
    refine jr_idiv C0 g7 (⟨by decide, by decide⟩) (by decide) dX10_two_23 ?_
    refine jr_istore_n C0 dX10_two_24 rfl (by decide) (lv' := [(2, .int (vr_I (((r6.2 69 8) + 1).tdiv 2))), (0, .ref (vr_ad G 68)), (1, .int (vr_I a0))]) rfl ?_
    refine jr_iconst C0 dX10_two_25 ?_
    refine jr_aload_n C0 1 dX10_two_26 rfl rfl ?_
    refine jr_getr C0 (by decide) kd_68 (by decide) rfl wx_X10 (i := 1) (by decide) wf_X10_9 (j := 69) rfl dX10_two_27 ?_
    refine jr_iconst C0 dX10_two_30 ?_
    refine jr_iald C0 (by decide) kd_69 kl_69 (by decide) (j := 0) rfl dX10_two_31 ?_
    refine jr_ishl C0 dX10_two_32 ?_
    refine jr_iconst C0 dX10_two_33 ?_
    refine jr_isub C0 dX10_two_34 ?_
    refine jr_istore_n C0 dX10_two_35 rfl (by decide) (lv' := [(3, .int (vr_I ((vr_shl 1 (r6.2 69 0)) - 1))), (2, .int (vr_I (((r6.2 69 8) + 1).tdiv 2))), (0, .ref (vr_ad G 68)), (1, .int (vr_I a0))]) rfl ?_
    refine jr_iconst C0 dX10_two_36 ?_
    refine jr_istore C0 dX10_two_37 (by decide) (lv' := [(4, .int (vr_I 0)), (3, .int (vr_I ((vr_shl 1 (r6.2 69 0)) - 1))), (2, .int (vr_I (((r6.2 69 8) + 1).tdiv 2))), (0, .ref (vr_ad G 68)), (1, .int (vr_I a0))]) rfl ?_
    refine jr_iconst C0 dX10_two_39 ?_
    refine jr_istore C0 dX10_two_40 (by decide) (lv' := [(5, .int (vr_I 0)), (4, .int (vr_I 0)), (3, .int (vr_I ((vr_shl 1 (r6.2 69 0)) - 1))), (2, .int (vr_I (((r6.2 69 8) + 1).tdiv 2))), (0, .ref (vr_ad G 68)), (1, .int (vr_I a0))]) rfl ?_
    refine jr_gd (fun g8 => ?_)
    refine jr_gd (fun g9 => ?_)
    refine jr_sub [4, 5, 3, 2, 1, 0] rfl ?_
    exact L42 9000 a0 h_a0 (((r6.2 69 8) + 1).tdiv 2) g8 ((vr_shl 1 (r6.2 69 0)) - 1) g9 0 (⟨by decide, by decide⟩) 0 (⟨by decide, by decide⟩) _
  refine jr_bipush C0 dX10_two_10 rfl ?_
  exact jr_iret C0 (⟨by decide, by decide⟩) dX10_two_12
theorem dX10_way_0 : decode cX10_way 0 = .ok (.iload_n 1, 1) := by decide +kernel
theorem dX10_way_1 : decode cX10_way 1 = .ok (.iconst 0, 1) := by decide +kernel
theorem dX10_way_2 : decode cX10_way 2 = .ok (.bipush 40, 2) := by decide +kernel
theorem dX10_way_4 : decode cX10_way 4 = .ok (.invokestatic 44, 3) := by decide +kernel
theorem dX10_way_7 : decode cX10_way 7 = .ok (.ifCond .ne 6, 3) := by decide +kernel
theorem dX10_way_10 : decode cX10_way 10 = .ok (.bipush (-2), 2) := by decide +kernel
theorem dX10_way_12 : decode cX10_way 12 = .ok (.ireturn, 1) := by decide +kernel
theorem dX10_way_13 : decode cX10_way 13 = .ok (.iconst 0, 1) := by decide +kernel
theorem dX10_way_14 : decode cX10_way 14 = .ok (.istore_n 2, 1) := by decide +kernel
theorem dX10_way_15 : decode cX10_way 15 = .ok (.iconst 0, 1) := by decide +kernel
theorem dX10_way_16 : decode cX10_way 16 = .ok (.istore_n 3, 1) := by decide +kernel
theorem dX10_way_17 : decode cX10_way 17 = .ok (.iload_n 3, 1) := by decide +kernel
theorem dX10_way_18 : decode cX10_way 18 = .ok (.aload_n 0, 1) := by decide +kernel
theorem dX10_way_19 : decode cX10_way 19 = .ok (.getfield 9, 3) := by decide +kernel
theorem dX10_way_22 : decode cX10_way 22 = .ok (.iconst 0, 1) := by decide +kernel
theorem dX10_way_23 : decode cX10_way 23 = .ok (.iaload, 1) := by decide +kernel
theorem dX10_way_24 : decode cX10_way 24 = .ok (.if_icmp .ge 47, 3) := by decide +kernel
theorem dX10_way_27 : decode cX10_way 27 = .ok (.iload_n 2, 1) := by decide +kernel
theorem dX10_way_28 : decode cX10_way 28 = .ok (.aload_n 0, 1) := by decide +kernel
theorem dX10_way_29 : decode cX10_way 29 = .ok (.iload_n 3, 1) := by decide +kernel
theorem dX10_way_30 : decode cX10_way 30 = .ok (.aload_n 0, 1) := by decide +kernel
theorem dX10_way_31 : decode cX10_way 31 = .ok (.getfield 9, 3) := by decide +kernel
theorem dX10_way_34 : decode cX10_way 34 = .ok (.bipush 7, 2) := by decide +kernel
theorem dX10_way_36 : decode cX10_way 36 = .ok (.iaload, 1) := by decide +kernel
theorem dX10_way_37 : decode cX10_way 37 = .ok (.aload_n 0, 1) := by decide +kernel
theorem dX10_way_38 : decode cX10_way 38 = .ok (.invokevirtual 154, 3) := by decide +kernel
theorem dX10_way_41 : decode cX10_way 41 = .ok (.iload_n 1, 1) := by decide +kernel
theorem dX10_way_42 : decode cX10_way 42 = .ok (.iadd, 1) := by decide +kernel
theorem dX10_way_43 : decode cX10_way 43 = .ok (.invokevirtual 157, 3) := by decide +kernel
theorem dX10_way_46 : decode cX10_way 46 = .ok (.aload_n 0, 1) := by decide +kernel
theorem dX10_way_47 : decode cX10_way 47 = .ok (.iload_n 3, 1) := by decide +kernel
theorem dX10_way_48 : decode cX10_way 48 = .ok (.aload_n 0, 1) := by decide +kernel
theorem dX10_way_49 : decode cX10_way 49 = .ok (.getfield 9, 3) := by decide +kernel
theorem dX10_way_52 : decode cX10_way 52 = .ok (.bipush 7, 2) := by decide +kernel
theorem dX10_way_54 : decode cX10_way 54 = .ok (.iaload, 1) := by decide +kernel
theorem dX10_way_55 : decode cX10_way 55 = .ok (.aload_n 0, 1) := by decide +kernel
theorem dX10_way_56 : decode cX10_way 56 = .ok (.invokevirtual 154, 3) := by decide +kernel
theorem dX10_way_59 : decode cX10_way 59 = .ok (.invokevirtual 157, 3) := by decide +kernel
theorem dX10_way_62 : decode cX10_way 62 = .ok (.isub, 1) := by decide +kernel
theorem dX10_way_63 : decode cX10_way 63 = .ok (.iadd, 1) := by decide +kernel
theorem dX10_way_64 : decode cX10_way 64 = .ok (.istore_n 2, 1) := by decide +kernel
theorem dX10_way_65 : decode cX10_way 65 = .ok (.iinc 3 1, 3) := by decide +kernel
theorem dX10_way_68 : decode cX10_way 68 = .ok (.goto (-51), 3) := by decide +kernel
theorem dX10_way_71 : decode cX10_way 71 = .ok (.iload_n 2, 1) := by decide +kernel
theorem dX10_way_72 : decode cX10_way 72 = .ok (.ireturn, 1) := by decide +kernel
def fX10_way_L17 : Nat → Int → Int → Int → vr_M → Option (Int × vr_M)
  | 0, _, _, _, _ => none
  | n + 1, x1, x2, x3, μ => vr_gd (vr_R (μ 69 0)) (if (μ 69 0) ≤ x3 then some (x2, μ) else (fX10_walk  μ).bind (fun r2 => vr_gd (vr_R (μ 69 7)) (vr_gd (vr_R (r2.1 + x1)) ((fX10_givesOf x3 (μ 69 7) (r2.1 + x1) r2.2).bind (fun r5 => (fX10_walk  r5.2).bind (fun r6 => vr_gd (vr_R (r5.2 69 7)) ((fX10_givesOf x3 (r5.2 69 7) r6.1 r6.2).bind (fun r8 => vr_gd (vr_R (x2 + (r5.1 - r8.1))) (vr_gd (vr_R (x3 + 1)) ((fX10_way_L17 n) x1 (x2 + (r5.1 - r8.1)) (x3 + 1) r8.2))))))))))
def fX10_way (a0 : Int) (μ : vr_M) : Option (Int × vr_M) :=
  (fX10_in a0 0 40 μ).bind (fun r11 => if ¬ r11.1 = 0 then fX10_way_L17 9000 a0 0 0 r11.2 else some ((-2), r11.2))
set_option maxRecDepth 100000 in
set_option maxHeartbeats 4000000 in
theorem ct_X10_way (l : Launch) (G : vr_G) (a0 : Int) (h_a0 : vr_R a0) (μ : vr_M) : vr_CI l yX10_way cX10_way 4 (some .int) ({ frames := 4, cells := 0, slots := 0, locals := 98 } : Room) G [.ref (vr_ad G 68), .int (vr_I a0)] μ (fX10_way a0 μ) := by
  refine vr_start (own := RX10) (by decide) rfl (Nat.le_of_ble_eq_true rfl) (fun p e s m args below meth c C0 => ?_)
  show vr_J p l e _ s m args below meth c 4 0 0 G (vr_Z (vr_QI G) G args s below) 0 [(0, .ref (vr_ad G 68)), (1, .int (vr_I a0))] [] μ _
  have L17 : ∀ (n : Nat) (x1 : Int) (h_x1 : vr_R x1) (x2 : Int) (h_x2 : vr_R x2) (x3 : Int) (h_x3 : vr_R x3) (μ : vr_M), vr_J p l e ({ frames := 4, cells := 0, slots := 0, locals := 98 } : Room) s m args below meth c 4 0 0 G (vr_Z (vr_QI G) G args s below) 17 [(0, .ref (vr_ad G 68)), (1, .int (vr_I x1)), (2, .int (vr_I x2)), (3, .int (vr_I x3))] [] μ (fX10_way_L17 n x1 x2 x3 μ) := by
    intro n17
    induction n17 with
    | zero => intros; exact jr_none
    | succ n17 ih17 =>
      intro x1 h_x1 x2 h_x2 x3 h_x3 μ
      rw [fX10_way_L17.eq_2]
      refine jr_iload_n C0 3 dX10_way_17 rfl rfl ?_
      refine jr_aload_n C0 0 dX10_way_18 rfl rfl ?_
      refine jr_getr C0 (by decide) kd_68 (by decide) rfl wx_X10 (i := 1) (by decide) wf_X10_9 (j := 69) rfl dX10_way_19 ?_
      refine jr_iconst C0 dX10_way_22 ?_
      refine jr_iald C0 (by decide) kd_69 kl_69 (by decide) (j := 0) rfl dX10_way_23 ?_
      refine jr_gd (fun g1 => ?_)
      refine jr_icmp_ge C0 h_x3 g1 dX10_way_24 (tgt := 71) (by decide) ?_ ?_
      · refine jr_iload_n C0 2 dX10_way_71 rfl rfl ?_
        exact jr_iret C0 h_x2 dX10_way_72
      refine jr_iload_n C0 2 dX10_way_27 rfl rfl ?_
      refine jr_aload_n C0 0 dX10_way_28 rfl rfl ?_
      refine jr_iload_n C0 3 dX10_way_29 rfl rfl ?_
      refine jr_aload_n C0 0 dX10_way_30 rfl rfl ?_
      refine jr_getr C0 (by decide) kd_68 (by decide) rfl wx_X10 (i := 1) (by decide) wf_X10_9 (j := 69) rfl dX10_way_31 ?_
      refine jr_bipush C0 dX10_way_34 rfl ?_
      refine jr_iald C0 (by decide) kd_69 kl_69 (by decide) (j := 7) rfl dX10_way_36 ?_
      refine jr_aload_n C0 0 dX10_way_37 rfl rfl ?_
      refine jr_vI C0 (by decide) kd_68 (by decide) rfl (ct_X10_walk l G  _) mi_X10_walk wm_X10_154 ⟨Nat.le_of_ble_eq_true rfl, Nat.le_of_ble_eq_true rfl⟩ ⟨rfl, rfl⟩ (As := []) rfl (st := [.int (vr_I (μ 69 7)), .int (vr_I x3), .ref (vr_ad G 68), .int (vr_I x2)]) rfl (Nat.le_of_ble_eq_true rfl) dX10_way_38 (fun r2 hr2 => ?_)
      refine jr_iload_n C0 1 dX10_way_41 rfl rfl ?_
      refine jr_iadd C0 dX10_way_42 ?_
      refine jr_gd (fun g3 => ?_)
      refine jr_gd (fun g4 => ?_)
      refine jr_vI C0 (by decide) kd_68 (by decide) rfl (ct_X10_givesOf l G x3 h_x3 (μ 69 7) g3 (r2.1 + x1) g4 _) mi_X10_givesOf wm_X10_157 ⟨Nat.le_of_ble_eq_true rfl, Nat.le_of_ble_eq_true rfl⟩ ⟨rfl, rfl⟩ (As := [.int (vr_I x3), .int (vr_I (μ 69 7)), .int (vr_I (r2.1 + x1))]) rfl (st := [.int (vr_I x2)]) rfl (Nat.le_of_ble_eq_true rfl) dX10_way_43 (fun r5 hr5 => ?_)
      refine jr_aload_n C0 0 dX10_way_46 rfl rfl ?_
      refine jr_iload_n C0 3 dX10_way_47 rfl rfl ?_
      refine jr_aload_n C0 0 dX10_way_48 rfl rfl ?_
      refine jr_getr C0 (by decide) kd_68 (by decide) rfl wx_X10 (i := 1) (by decide) wf_X10_9 (j := 69) rfl dX10_way_49 ?_
      refine jr_bipush C0 dX10_way_52 rfl ?_
      refine jr_iald C0 (by decide) kd_69 kl_69 (by decide) (j := 7) rfl dX10_way_54 ?_
      refine jr_aload_n C0 0 dX10_way_55 rfl rfl ?_
      refine jr_vI C0 (by decide) kd_68 (by decide) rfl (ct_X10_walk l G  _) mi_X10_walk wm_X10_154 ⟨Nat.le_of_ble_eq_true rfl, Nat.le_of_ble_eq_true rfl⟩ ⟨rfl, rfl⟩ (As := []) rfl (st := [.int (vr_I (r5.2 69 7)), .int (vr_I x3), .ref (vr_ad G 68), .int (vr_I r5.1), .int (vr_I x2)]) rfl (Nat.le_of_ble_eq_true rfl) dX10_way_56 (fun r6 hr6 => ?_)
      refine jr_gd (fun g7 => ?_)
      refine jr_vI C0 (by decide) kd_68 (by decide) rfl (ct_X10_givesOf l G x3 h_x3 (r5.2 69 7) g7 r6.1 hr6 _) mi_X10_givesOf wm_X10_157 ⟨Nat.le_of_ble_eq_true rfl, Nat.le_of_ble_eq_true rfl⟩ ⟨rfl, rfl⟩ (As := [.int (vr_I x3), .int (vr_I (r5.2 69 7)), .int (vr_I r6.1)]) rfl (st := [.int (vr_I r5.1), .int (vr_I x2)]) rfl (Nat.le_of_ble_eq_true rfl) dX10_way_59 (fun r8 hr8 => ?_)
      refine jr_isub C0 dX10_way_62 ?_
      refine jr_iadd C0 dX10_way_63 ?_
      refine jr_istore_n C0 dX10_way_64 rfl (by decide) (lv' := [(2, .int (vr_I (x2 + (r5.1 - r8.1)))), (0, .ref (vr_ad G 68)), (1, .int (vr_I x1)), (3, .int (vr_I x3))]) rfl ?_
      refine jr_iinc C0 (q := 3) dX10_way_65 rfl (by decide) (lv' := [(3, .int (vr_I (x3 + 1))), (2, .int (vr_I (x2 + (r5.1 - r8.1)))), (0, .ref (vr_ad G 68)), (1, .int (vr_I x1))]) rfl ?_
      refine jr_goto C0 dX10_way_68 (tgt := 17) (by decide) ?_
      refine jr_gd (fun g9 => ?_)
      refine jr_gd (fun g10 => ?_)
      refine jr_sub [2, 3, 1, 0] rfl ?_
      exact ih17 x1 h_x1 (x2 + (r5.1 - r8.1)) g9 (x3 + 1) g10 _
  unfold fX10_way
  refine jr_iload_n C0 1 dX10_way_0 rfl rfl ?_
  refine jr_iconst C0 dX10_way_1 ?_
  refine jr_bipush C0 dX10_way_2 rfl ?_
  refine jr_sI C0 (ct_X10_in l G a0 h_a0 0 (⟨by decide, by decide⟩) 40 (⟨by decide, by decide⟩) _) mi_X10_in wm_X10_44 ⟨Nat.le_of_ble_eq_true rfl, Nat.le_of_ble_eq_true rfl⟩ ⟨rfl, rfl⟩ (As := [.int (vr_I a0), .int (vr_I 0), .int (vr_I 40)]) rfl (st := []) rfl (Nat.le_of_ble_eq_true rfl) dX10_way_4 (fun r11 hr11 => ?_)
  refine jr_if_ne C0 hr11 dX10_way_7 (tgt := 13) (by decide) ?_ ?_
  · refine jr_iconst C0 dX10_way_13 ?_
    refine jr_istore_n C0 dX10_way_14 rfl (by decide) (lv' := [(2, .int (vr_I 0)), (0, .ref (vr_ad G 68)), (1, .int (vr_I a0))]) rfl ?_
    refine jr_iconst C0 dX10_way_15 ?_
    refine jr_istore_n C0 dX10_way_16 rfl (by decide) (lv' := [(3, .int (vr_I 0)), (2, .int (vr_I 0)), (0, .ref (vr_ad G 68)), (1, .int (vr_I a0))]) rfl ?_
    refine jr_sub [2, 3, 1, 0] rfl ?_
    exact L17 9000 a0 h_a0 0 (⟨by decide, by decide⟩) 0 (⟨by decide, by decide⟩) _
  refine jr_bipush C0 dX10_way_10 rfl ?_
  exact jr_iret C0 (⟨by decide, by decide⟩) dX10_way_12
