theorem dX0_rankOf_0 : decode cX0_rankOf 0 = .ok (.aload_n 0, 1) := by decide +kernel
theorem dX0_rankOf_1 : decode cX0_rankOf 1 = .ok (.getfield 28, 3) := by decide +kernel
theorem dX0_rankOf_4 : decode cX0_rankOf 4 = .ok (.iload_n 1, 1) := by decide +kernel
theorem dX0_rankOf_5 : decode cX0_rankOf 5 = .ok (.invokevirtual 44, 3) := by decide +kernel
theorem dX0_rankOf_8 : decode cX0_rankOf 8 = .ok (.ifCond .eq 12, 3) := by decide +kernel
theorem dX0_rankOf_11 : decode cX0_rankOf 11 = .ok (.aload_n 0, 1) := by decide +kernel
theorem dX0_rankOf_12 : decode cX0_rankOf 12 = .ok (.getfield 19, 3) := by decide +kernel
theorem dX0_rankOf_15 : decode cX0_rankOf 15 = .ok (.iload_n 1, 1) := by decide +kernel
theorem dX0_rankOf_16 : decode cX0_rankOf 16 = .ok (.iaload, 1) := by decide +kernel
theorem dX0_rankOf_17 : decode cX0_rankOf 17 = .ok (.ifCond .ne 5, 3) := by decide +kernel
theorem dX0_rankOf_20 : decode cX0_rankOf 20 = .ok (.iconst 0, 1) := by decide +kernel
theorem dX0_rankOf_21 : decode cX0_rankOf 21 = .ok (.ireturn, 1) := by decide +kernel
theorem dX0_rankOf_22 : decode cX0_rankOf 22 = .ok (.aload_n 0, 1) := by decide +kernel
theorem dX0_rankOf_23 : decode cX0_rankOf 23 = .ok (.getfield 28, 3) := by decide +kernel
theorem dX0_rankOf_26 : decode cX0_rankOf 26 = .ok (.getfield 127, 3) := by decide +kernel
theorem dX0_rankOf_29 : decode cX0_rankOf 29 = .ok (.iload_n 1, 1) := by decide +kernel
theorem dX0_rankOf_30 : decode cX0_rankOf 30 = .ok (.iaload, 1) := by decide +kernel
theorem dX0_rankOf_31 : decode cX0_rankOf 31 = .ok (.ifCond .ne 7, 3) := by decide +kernel
theorem dX0_rankOf_34 : decode cX0_rankOf 34 = .ok (.iconst 1, 1) := by decide +kernel
theorem dX0_rankOf_35 : decode cX0_rankOf 35 = .ok (.goto 4, 3) := by decide +kernel
theorem dX0_rankOf_38 : decode cX0_rankOf 38 = .ok (.iconst 0, 1) := by decide +kernel
theorem dX0_rankOf_39 : decode cX0_rankOf 39 = .ok (.istore_n 3, 1) := by decide +kernel
theorem dX0_rankOf_40 : decode cX0_rankOf 40 = .ok (.iload_n 3, 1) := by decide +kernel
theorem dX0_rankOf_41 : decode cX0_rankOf 41 = .ok (.ifCond .eq 23, 3) := by decide +kernel
theorem dX0_rankOf_44 : decode cX0_rankOf 44 = .ok (.aload_n 0, 1) := by decide +kernel
theorem dX0_rankOf_45 : decode cX0_rankOf 45 = .ok (.getfield 28, 3) := by decide +kernel
theorem dX0_rankOf_48 : decode cX0_rankOf 48 = .ok (.getfield 130, 3) := by decide +kernel
theorem dX0_rankOf_51 : decode cX0_rankOf 51 = .ok (.iload_n 1, 1) := by decide +kernel
theorem dX0_rankOf_52 : decode cX0_rankOf 52 = .ok (.iaload, 1) := by decide +kernel
theorem dX0_rankOf_53 : decode cX0_rankOf 53 = .ok (.aload_n 0, 1) := by decide +kernel
theorem dX0_rankOf_54 : decode cX0_rankOf 54 = .ok (.getfield 9, 3) := by decide +kernel
theorem dX0_rankOf_57 : decode cX0_rankOf 57 = .ok (.if_icmp .ge 7, 3) := by decide +kernel
theorem dX0_rankOf_60 : decode cX0_rankOf 60 = .ok (.iconst 1, 1) := by decide +kernel
theorem dX0_rankOf_61 : decode cX0_rankOf 61 = .ok (.goto 4, 3) := by decide +kernel
theorem dX0_rankOf_64 : decode cX0_rankOf 64 = .ok (.iconst 0, 1) := by decide +kernel
theorem dX0_rankOf_65 : decode cX0_rankOf 65 = .ok (.istore 4, 2) := by decide +kernel
theorem dX0_rankOf_67 : decode cX0_rankOf 67 = .ok (.aload_n 0, 1) := by decide +kernel
theorem dX0_rankOf_68 : decode cX0_rankOf 68 = .ok (.getfield 28, 3) := by decide +kernel
theorem dX0_rankOf_71 : decode cX0_rankOf 71 = .ok (.getfield 58, 3) := by decide +kernel
theorem dX0_rankOf_74 : decode cX0_rankOf 74 = .ok (.iload_n 1, 1) := by decide +kernel
theorem dX0_rankOf_75 : decode cX0_rankOf 75 = .ok (.iaload, 1) := by decide +kernel
theorem dX0_rankOf_76 : decode cX0_rankOf 76 = .ok (.iload_n 2, 1) := by decide +kernel
theorem dX0_rankOf_77 : decode cX0_rankOf 77 = .ok (.isub, 1) := by decide +kernel
theorem dX0_rankOf_78 : decode cX0_rankOf 78 = .ok (.invokestatic 61, 3) := by decide +kernel
theorem dX0_rankOf_81 : decode cX0_rankOf 81 = .ok (.istore 5, 2) := by decide +kernel
theorem dX0_rankOf_83 : decode cX0_rankOf 83 = .ok (.aload_n 0, 1) := by decide +kernel
theorem dX0_rankOf_84 : decode cX0_rankOf 84 = .ok (.getfield 36, 3) := by decide +kernel
theorem dX0_rankOf_87 : decode cX0_rankOf 87 = .ok (.tableswitch 144 2 6 #[33, 114, 144, 49, 82], 33) := by decide +kernel
theorem dX0_rankOf_120 : decode cX0_rankOf 120 = .ok (.iload 4, 2) := by decide +kernel
theorem dX0_rankOf_122 : decode cX0_rankOf 122 = .ok (.ifCond .eq 7, 3) := by decide +kernel
theorem dX0_rankOf_125 : decode cX0_rankOf 125 = .ok (.iconst 0, 1) := by decide +kernel
theorem dX0_rankOf_126 : decode cX0_rankOf 126 = .ok (.goto 9, 3) := by decide +kernel
theorem dX0_rankOf_129 : decode cX0_rankOf 129 = .ok (.aload_n 0, 1) := by decide +kernel
theorem dX0_rankOf_130 : decode cX0_rankOf 130 = .ok (.getfield 19, 3) := by decide +kernel
theorem dX0_rankOf_133 : decode cX0_rankOf 133 = .ok (.iload_n 1, 1) := by decide +kernel
theorem dX0_rankOf_134 : decode cX0_rankOf 134 = .ok (.iaload, 1) := by decide +kernel
theorem dX0_rankOf_135 : decode cX0_rankOf 135 = .ok (.ireturn, 1) := by decide +kernel
theorem dX0_rankOf_136 : decode cX0_rankOf 136 = .ok (.iload 4, 2) := by decide +kernel
theorem dX0_rankOf_138 : decode cX0_rankOf 138 = .ok (.ifCond .eq 7, 3) := by decide +kernel
theorem dX0_rankOf_141 : decode cX0_rankOf 141 = .ok (.iconst 0, 1) := by decide +kernel
theorem dX0_rankOf_142 : decode cX0_rankOf 142 = .ok (.goto 26, 3) := by decide +kernel
theorem dX0_rankOf_145 : decode cX0_rankOf 145 = .ok (.iload_n 3, 1) := by decide +kernel
theorem dX0_rankOf_146 : decode cX0_rankOf 146 = .ok (.ifCond .eq 12, 3) := by decide +kernel
theorem dX0_rankOf_149 : decode cX0_rankOf 149 = .ok (.aload_n 0, 1) := by decide +kernel
theorem dX0_rankOf_150 : decode cX0_rankOf 150 = .ok (.getfield 19, 3) := by decide +kernel
theorem dX0_rankOf_153 : decode cX0_rankOf 153 = .ok (.iload_n 1, 1) := by decide +kernel
theorem dX0_rankOf_154 : decode cX0_rankOf 154 = .ok (.iaload, 1) := by decide +kernel
theorem dX0_rankOf_155 : decode cX0_rankOf 155 = .ok (.goto 13, 3) := by decide +kernel
theorem dX0_rankOf_158 : decode cX0_rankOf 158 = .ok (.aload_n 0, 1) := by decide +kernel
theorem dX0_rankOf_159 : decode cX0_rankOf 159 = .ok (.getfield 19, 3) := by decide +kernel
theorem dX0_rankOf_162 : decode cX0_rankOf 162 = .ok (.iload_n 1, 1) := by decide +kernel
theorem dX0_rankOf_163 : decode cX0_rankOf 163 = .ok (.iaload, 1) := by decide +kernel
theorem dX0_rankOf_164 : decode cX0_rankOf 164 = .ok (.sipush 1000, 3) := by decide +kernel
theorem dX0_rankOf_167 : decode cX0_rankOf 167 = .ok (.iadd, 1) := by decide +kernel
theorem dX0_rankOf_168 : decode cX0_rankOf 168 = .ok (.ireturn, 1) := by decide +kernel
theorem dX0_rankOf_169 : decode cX0_rankOf 169 = .ok (.iload 4, 2) := by decide +kernel
theorem dX0_rankOf_171 : decode cX0_rankOf 171 = .ok (.ifCond .ne 19, 3) := by decide +kernel
theorem dX0_rankOf_174 : decode cX0_rankOf 174 = .ok (.aload_n 0, 1) := by decide +kernel
theorem dX0_rankOf_175 : decode cX0_rankOf 175 = .ok (.getfield 28, 3) := by decide +kernel
theorem dX0_rankOf_178 : decode cX0_rankOf 178 = .ok (.getfield 127, 3) := by decide +kernel
theorem dX0_rankOf_181 : decode cX0_rankOf 181 = .ok (.iload_n 1, 1) := by decide +kernel
theorem dX0_rankOf_182 : decode cX0_rankOf 182 = .ok (.iaload, 1) := by decide +kernel
theorem dX0_rankOf_183 : decode cX0_rankOf 183 = .ok (.aload_n 0, 1) := by decide +kernel
theorem dX0_rankOf_184 : decode cX0_rankOf 184 = .ok (.getfield 9, 3) := by decide +kernel
theorem dX0_rankOf_187 : decode cX0_rankOf 187 = .ok (.if_icmp .lt 7, 3) := by decide +kernel
theorem dX0_rankOf_190 : decode cX0_rankOf 190 = .ok (.iconst 0, 1) := by decide +kernel
theorem dX0_rankOf_191 : decode cX0_rankOf 191 = .ok (.goto 9, 3) := by decide +kernel
theorem dX0_rankOf_194 : decode cX0_rankOf 194 = .ok (.aload_n 0, 1) := by decide +kernel
theorem dX0_rankOf_195 : decode cX0_rankOf 195 = .ok (.getfield 19, 3) := by decide +kernel
theorem dX0_rankOf_198 : decode cX0_rankOf 198 = .ok (.iload_n 1, 1) := by decide +kernel
theorem dX0_rankOf_199 : decode cX0_rankOf 199 = .ok (.iaload, 1) := by decide +kernel
theorem dX0_rankOf_200 : decode cX0_rankOf 200 = .ok (.ireturn, 1) := by decide +kernel
theorem dX0_rankOf_201 : decode cX0_rankOf 201 = .ok (.iload 5, 2) := by decide +kernel
theorem dX0_rankOf_203 : decode cX0_rankOf 203 = .ok (.aload_n 0, 1) := by decide +kernel
theorem dX0_rankOf_204 : decode cX0_rankOf 204 = .ok (.getfield 9, 3) := by decide +kernel
theorem dX0_rankOf_207 : decode cX0_rankOf 207 = .ok (.if_icmp .le 7, 3) := by decide +kernel
theorem dX0_rankOf_210 : decode cX0_rankOf 210 = .ok (.iconst 0, 1) := by decide +kernel
theorem dX0_rankOf_211 : decode cX0_rankOf 211 = .ok (.goto 19, 3) := by decide +kernel
theorem dX0_rankOf_214 : decode cX0_rankOf 214 = .ok (.bipush 40, 2) := by decide +kernel
theorem dX0_rankOf_216 : decode cX0_rankOf 216 = .ok (.iload 5, 2) := by decide +kernel
theorem dX0_rankOf_218 : decode cX0_rankOf 218 = .ok (.isub, 1) := by decide +kernel
theorem dX0_rankOf_219 : decode cX0_rankOf 219 = .ok (.sipush 1000, 3) := by decide +kernel
theorem dX0_rankOf_222 : decode cX0_rankOf 222 = .ok (.imul, 1) := by decide +kernel
theorem dX0_rankOf_223 : decode cX0_rankOf 223 = .ok (.aload_n 0, 1) := by decide +kernel
theorem dX0_rankOf_224 : decode cX0_rankOf 224 = .ok (.getfield 19, 3) := by decide +kernel
theorem dX0_rankOf_227 : decode cX0_rankOf 227 = .ok (.iload_n 1, 1) := by decide +kernel
theorem dX0_rankOf_228 : decode cX0_rankOf 228 = .ok (.iaload, 1) := by decide +kernel
theorem dX0_rankOf_229 : decode cX0_rankOf 229 = .ok (.iadd, 1) := by decide +kernel
theorem dX0_rankOf_230 : decode cX0_rankOf 230 = .ok (.ireturn, 1) := by decide +kernel
theorem dX0_rankOf_231 : decode cX0_rankOf 231 = .ok (.aload_n 0, 1) := by decide +kernel
theorem dX0_rankOf_232 : decode cX0_rankOf 232 = .ok (.getfield 19, 3) := by decide +kernel
theorem dX0_rankOf_235 : decode cX0_rankOf 235 = .ok (.iload_n 1, 1) := by decide +kernel
theorem dX0_rankOf_236 : decode cX0_rankOf 236 = .ok (.iaload, 1) := by decide +kernel
theorem dX0_rankOf_237 : decode cX0_rankOf 237 = .ok (.ireturn, 1) := by decide +kernel
def fX0_rankOf_B20 (μ : vr_M) : Option (Int × vr_M) :=
  some (0, μ)
def fX0_rankOf_B231 (x1 : Int) (μ : vr_M) : Option (Int × vr_M) :=
  vr_gd (0 ≤ x1 ∧ x1 < 8) (vr_gd (vr_R (μ 60 x1.toNat)) (some (μ 60 x1.toNat, μ)))
def fX0_rankOf_B135 (y0 : Int) (μ : vr_M) : Option (Int × vr_M) :=
  some (y0, μ)
def fX0_rankOf_B230 (y0 : Int) (μ : vr_M) : Option (Int × vr_M) :=
  some (y0, μ)
def fX0_rankOf_B168 (y0 : Int) (μ : vr_M) : Option (Int × vr_M) :=
  some (y0, μ)
def fX0_rankOf_B200 (y0 : Int) (μ : vr_M) : Option (Int × vr_M) :=
  some (y0, μ)
def fX0_rankOf_B190 (μ : vr_M) : Option (Int × vr_M) :=
  fX0_rankOf_B200 0 μ
def fX0_rankOf_B65 (x1 : Int) (x2 : Int) (x3 : Int) (y0 : Int) (μ : vr_M) : Option (Int × vr_M) :=
  vr_gd (0 ≤ x1 ∧ x1 < 8) (vr_gd (vr_R ((μ 54 x1.toNat) - x2)) (vr_gd (vr_R (μ 58 2)) (vr_sw (μ 58 2) 2 [if y0 = 0 then vr_gd (vr_R (μ 60 x1.toNat)) (fX0_rankOf_B135 (μ 60 x1.toNat) μ) else fX0_rankOf_B135 0 μ, vr_gd (vr_R (if 0 ≤ ((μ 54 x1.toNat) - x2) then ((μ 54 x1.toNat) - x2) else -((μ 54 x1.toNat) - x2))) (vr_gd (vr_R (μ 58 3)) (if (if 0 ≤ ((μ 54 x1.toNat) - x2) then ((μ 54 x1.toNat) - x2) else -((μ 54 x1.toNat) - x2)) ≤ (μ 58 3) then vr_gd (vr_R (((40 - (if 0 ≤ ((μ 54 x1.toNat) - x2) then ((μ 54 x1.toNat) - x2) else -((μ 54 x1.toNat) - x2))) * 1000) + (μ 60 x1.toNat))) (fX0_rankOf_B230 (((40 - (if 0 ≤ ((μ 54 x1.toNat) - x2) then ((μ 54 x1.toNat) - x2) else -((μ 54 x1.toNat) - x2))) * 1000) + (μ 60 x1.toNat)) μ) else fX0_rankOf_B230 0 μ)), fX0_rankOf_B231 x1 μ, if y0 = 0 then if x3 = 0 then vr_gd (vr_R ((μ 60 x1.toNat) + 1000)) (fX0_rankOf_B168 ((μ 60 x1.toNat) + 1000) μ) else vr_gd (vr_R (μ 60 x1.toNat)) (fX0_rankOf_B168 (μ 60 x1.toNat) μ) else fX0_rankOf_B168 0 μ, if ¬ y0 = 0 then fX0_rankOf_B190 μ else vr_gd (vr_R (μ 55 x1.toNat)) (vr_gd (vr_R (μ 58 3)) (if (μ 55 x1.toNat) < (μ 58 3) then vr_gd (vr_R (μ 60 x1.toNat)) (fX0_rankOf_B200 (μ 60 x1.toNat) μ) else fX0_rankOf_B190 μ))] (fX0_rankOf_B231 x1 μ))))
def fX0_rankOf_B64 (x1 : Int) (x2 : Int) (x3 : Int) (μ : vr_M) : Option (Int × vr_M) :=
  fX0_rankOf_B65 x1 x2 x3 0 μ
def fX0_rankOf_B39 (x1 : Int) (x2 : Int) (y0 : Int) (μ : vr_M) : Option (Int × vr_M) :=
  if y0 = 0 then fX0_rankOf_B64 x1 x2 y0 μ else vr_gd (0 ≤ x1 ∧ x1 < 8) (vr_gd (vr_R (μ 56 x1.toNat)) (vr_gd (vr_R (μ 58 3)) (if (μ 58 3) ≤ (μ 56 x1.toNat) then fX0_rankOf_B64 x1 x2 y0 μ else fX0_rankOf_B65 x1 x2 y0 1 μ)))
def fX0_rankOf (a0 : Int) (a1 : Int) (μ : vr_M) : Option (Int × vr_M) :=
  (fX2_has 52 a0 μ).bind (fun r18 => if r18.1 = 0 then fX0_rankOf_B20 r18.2 else vr_gd (0 ≤ a0 ∧ a0 < 8) (vr_gd (vr_R (r18.2 60 a0.toNat)) (if ¬ (r18.2 60 a0.toNat) = 0 then vr_gd (vr_R (r18.2 55 a0.toNat)) (if ¬ (r18.2 55 a0.toNat) = 0 then fX0_rankOf_B39 a0 a1 0 r18.2 else fX0_rankOf_B39 a0 a1 1 r18.2) else fX0_rankOf_B20 r18.2)))
set_option maxRecDepth 100000 in
set_option maxHeartbeats 4000000 in
theorem ct_X0_rankOf (l : Launch) (G : vr_G) (a0 : Int) (h_a0 : vr_R a0) (a1 : Int) (h_a1 : vr_R a1) (μ : vr_M) : vr_CI l yX0_rankOf cX0_rankOf 6 (some .int) ({ frames := 1, cells := 0, slots := 0, locals := 21 } : Room) G [.ref (vr_ad G 58), .int (vr_I a0), .int (vr_I a1)] μ (fX0_rankOf a0 a1 μ) := by
  refine vr_start (own := RX0) (by decide) rfl (Nat.le_of_ble_eq_true rfl) (fun p e s m args below meth c C0 => ?_)
  show vr_J p l e _ s m args below meth c 6 0 0 G (vr_Z (vr_QI G) G args s below) 0 [(0, .ref (vr_ad G 58)), (1, .int (vr_I a0)), (2, .int (vr_I a1))] [] μ _
  have B20 : ∀ (μ : vr_M), vr_J p l e ({ frames := 1, cells := 0, slots := 0, locals := 21 } : Room) s m args below meth c 6 0 0 G (vr_Z (vr_QI G) G args s below) 20 [] [] μ (fX0_rankOf_B20 μ) := by
    intro μ
    unfold fX0_rankOf_B20
    refine jr_iconst C0 dX0_rankOf_20 ?_
    exact jr_iret C0 (⟨by decide, by decide⟩) dX0_rankOf_21
  have B231 : ∀ (x1 : Int) (h_x1 : vr_R x1) (μ : vr_M), vr_J p l e ({ frames := 1, cells := 0, slots := 0, locals := 21 } : Room) s m args below meth c 6 0 0 G (vr_Z (vr_QI G) G args s below) 231 [(0, .ref (vr_ad G 58)), (1, .int (vr_I x1))] [] μ (fX0_rankOf_B231 x1 μ) := by
    intro x1 h_x1 μ
    unfold fX0_rankOf_B231
    refine jr_aload_n C0 0 dX0_rankOf_231 rfl rfl ?_
    refine jr_getr C0 (by decide) kd_58 (by decide) rfl wx_X0 (i := 5) (by decide) wf_X0_19 (j := 60) rfl dX0_rankOf_232 ?_
    refine jr_iload_n C0 1 dX0_rankOf_235 rfl rfl ?_
    refine jr_gd (fun g1 => ?_)
    refine jr_iald C0 (by decide) kd_60 kl_60 g1 (j := x1.toNat) rfl dX0_rankOf_236 ?_
    refine jr_gd (fun g2 => ?_)
    exact jr_iret C0 g2 dX0_rankOf_237
  have B135 : ∀ (y0 : Int) (h_y0 : vr_R y0) (μ : vr_M), vr_J p l e ({ frames := 1, cells := 0, slots := 0, locals := 21 } : Room) s m args below meth c 6 0 0 G (vr_Z (vr_QI G) G args s below) 135 [] [.int (vr_I y0)] μ (fX0_rankOf_B135 y0 μ) := by
    intro y0 h_y0 μ
    unfold fX0_rankOf_B135
    exact jr_iret C0 h_y0 dX0_rankOf_135
  have B230 : ∀ (y0 : Int) (h_y0 : vr_R y0) (μ : vr_M), vr_J p l e ({ frames := 1, cells := 0, slots := 0, locals := 21 } : Room) s m args below meth c 6 0 0 G (vr_Z (vr_QI G) G args s below) 230 [] [.int (vr_I y0)] μ (fX0_rankOf_B230 y0 μ) := by
    intro y0 h_y0 μ
    unfold fX0_rankOf_B230
    exact jr_iret C0 h_y0 dX0_rankOf_230
  have B168 : ∀ (y0 : Int) (h_y0 : vr_R y0) (μ : vr_M), vr_J p l e ({ frames := 1, cells := 0, slots := 0, locals := 21 } : Room) s m args below meth c 6 0 0 G (vr_Z (vr_QI G) G args s below) 168 [] [.int (vr_I y0)] μ (fX0_rankOf_B168 y0 μ) := by
    intro y0 h_y0 μ
    unfold fX0_rankOf_B168
    exact jr_iret C0 h_y0 dX0_rankOf_168
  have B200 : ∀ (y0 : Int) (h_y0 : vr_R y0) (μ : vr_M), vr_J p l e ({ frames := 1, cells := 0, slots := 0, locals := 21 } : Room) s m args below meth c 6 0 0 G (vr_Z (vr_QI G) G args s below) 200 [] [.int (vr_I y0)] μ (fX0_rankOf_B200 y0 μ) := by
    intro y0 h_y0 μ
    unfold fX0_rankOf_B200
    exact jr_iret C0 h_y0 dX0_rankOf_200
  have B190 : ∀ (μ : vr_M), vr_J p l e ({ frames := 1, cells := 0, slots := 0, locals := 21 } : Room) s m args below meth c 6 0 0 G (vr_Z (vr_QI G) G args s below) 190 [] [] μ (fX0_rankOf_B190 μ) := by
    intro μ
    unfold fX0_rankOf_B190
    refine jr_iconst C0 dX0_rankOf_190 ?_
    refine jr_goto C0 dX0_rankOf_191 (tgt := 200) (by decide) ?_
    exact B200 0 (⟨by decide, by decide⟩) _
  have B65 : ∀ (x1 : Int) (h_x1 : vr_R x1) (x2 : Int) (h_x2 : vr_R x2) (x3 : Int) (h_x3 : vr_R x3) (y0 : Int) (h_y0 : vr_R y0) (μ : vr_M), vr_J p l e ({ frames := 1, cells := 0, slots := 0, locals := 21 } : Room) s m args below meth c 6 0 0 G (vr_Z (vr_QI G) G args s below) 65 [(0, .ref (vr_ad G 58)), (1, .int (vr_I x1)), (2, .int (vr_I x2)), (3, .int (vr_I x3))] [.int (vr_I y0)] μ (fX0_rankOf_B65 x1 x2 x3 y0 μ) := by
    intro x1 h_x1 x2 h_x2 x3 h_x3 y0 h_y0 μ
    unfold fX0_rankOf_B65
    refine jr_istore C0 dX0_rankOf_65 (by decide) (lv' := [(4, .int (vr_I y0)), (0, .ref (vr_ad G 58)), (1, .int (vr_I x1)), (2, .int (vr_I x2)), (3, .int (vr_I x3))]) rfl ?_
    refine jr_aload_n C0 1 dX0_rankOf_67 rfl rfl ?_
    refine jr_getr C0 (by decide) kd_58 (by decide) rfl wx_X0 (i := 0) (by decide) wf_X0_28 (j := 52) rfl dX0_rankOf_68 ?_
    refine jr_getr C0 (by decide) kd_52 (by decide) rfl wx_X2 (i := 1) (by decide) wf_X0_58 (j := 54) rfl dX0_rankOf_71 ?_
    refine jr_iload_n C0 2 dX0_rankOf_74 rfl rfl ?_
    refine jr_gd (fun g3 => ?_)
    refine jr_iald C0 (by decide) kd_54 kl_54 g3 (j := x1.toNat) rfl dX0_rankOf_75 ?_
    refine jr_iload_n C0 3 dX0_rankOf_76 rfl rfl ?_
    refine jr_isub C0 dX0_rankOf_77 ?_
    refine jr_gd (fun g4 => ?_)
    refine jr_abs C0 g4 wm_X0_61 wt_yJ9_abs_0f7a4 wz_J9 wc_yJ9_abs_0f7a4 (Nat.le_of_ble_eq_true rfl) (Nat.le_of_ble_eq_true rfl) dX0_rankOf_78 ?_
    refine jr_istore C0 dX0_rankOf_81 (by decide) (lv' := [(5, .int (vr_I (if 0 ≤ ((μ 54 x1.toNat) - x2) then ((μ 54 x1.toNat) - x2) else -((μ 54 x1.toNat) - x2)))), (4, .int (vr_I y0)), (0, .ref (vr_ad G 58)), (1, .int (vr_I x1)), (2, .int (vr_I x2)), (3, .int (vr_I x3))]) rfl ?_
    refine jr_aload_n C0 2 dX0_rankOf_83 rfl rfl ?_
    refine jr_geti C0 (by decide) kd_58 (by decide) rfl wx_X0 (i := 2) (by decide) wf_X0_36 rfl dX0_rankOf_84 ?_
    refine jr_gd (fun g5 => ?_)
    refine jr_tsw C0 g5 dX0_rankOf_87 (by decide) (td := 231) (by decide) (vr_TS_cons (tgt := 120) (by decide) ?_ (vr_TS_cons (tgt := 201) (by decide) ?_ (vr_TS_cons (tgt := 231) (by decide) ?_ (vr_TS_cons (tgt := 136) (by decide) ?_ (vr_TS_cons (tgt := 169) (by decide) ?_ vr_TS_nil))))) ?_
    · show vr_J p l e _ s m args below meth c _ _ _ G _ 120 _ _ _ _
      refine jr_iload C0 1 dX0_rankOf_120 rfl ?_
      refine jr_if_eq C0 h_y0 dX0_rankOf_122 (tgt := 129) (by decide) ?_ ?_
      · refine jr_aload_n C0 2 dX0_rankOf_129 rfl rfl ?_
        refine jr_getr C0 (by decide) kd_58 (by decide) rfl wx_X0 (i := 5) (by decide) wf_X0_19 (j := 60) rfl dX0_rankOf_130 ?_
        refine jr_iload_n C0 3 dX0_rankOf_133 rfl rfl ?_
        refine jr_iald C0 (by decide) kd_60 kl_60 g3 (j := x1.toNat) rfl dX0_rankOf_134 ?_
        refine jr_gd (fun g6 => ?_)
        refine jr_sub [] rfl ?_
        exact B135 (μ 60 x1.toNat) g6 _
      refine jr_iconst C0 dX0_rankOf_125 ?_
      refine jr_goto C0 dX0_rankOf_126 (tgt := 135) (by decide) ?_
      refine jr_sub [] rfl ?_
      exact B135 0 (⟨by decide, by decide⟩) _
    · show vr_J p l e _ s m args below meth c _ _ _ G _ 201 _ _ _ _
      refine jr_iload C0 0 dX0_rankOf_201 rfl ?_
      refine jr_aload_n C0 2 dX0_rankOf_203 rfl rfl ?_
      refine jr_geti C0 (by decide) kd_58 (by decide) rfl wx_X0 (i := 3) (by decide) wf_X0_9 rfl dX0_rankOf_204 ?_
      refine jr_gd (fun g7 => ?_)
      refine jr_gd (fun g8 => ?_)
      refine jr_icmp_le C0 g7 g8 dX0_rankOf_207 (tgt := 214) (by decide) ?_ ?_
      · refine jr_bipush C0 dX0_rankOf_214 rfl ?_
        refine jr_iload C0 0 dX0_rankOf_216 rfl ?_
        refine jr_isub C0 dX0_rankOf_218 ?_
        refine jr_sipush C0 dX0_rankOf_219 rfl ?_
        refine jr_imul C0 dX0_rankOf_222 ?_
        refine jr_aload_n C0 2 dX0_rankOf_223 rfl rfl ?_
        refine jr_getr C0 (by decide) kd_58 (by decide) rfl wx_X0 (i := 5) (by decide) wf_X0_19 (j := 60) rfl dX0_rankOf_224 ?_
        refine jr_iload_n C0 3 dX0_rankOf_227 rfl rfl ?_
        refine jr_iald C0 (by decide) kd_60 kl_60 g3 (j := x1.toNat) rfl dX0_rankOf_228 ?_
        refine jr_iadd C0 dX0_rankOf_229 ?_
        refine jr_gd (fun g9 => ?_)
        refine jr_sub [] rfl ?_
        exact B230 (((40 - (if 0 ≤ ((μ 54 x1.toNat) - x2) then ((μ 54 x1.toNat) - x2) else -((μ 54 x1.toNat) - x2))) * 1000) + (μ 60 x1.toNat)) g9 _
      refine jr_iconst C0 dX0_rankOf_210 ?_
      refine jr_goto C0 dX0_rankOf_211 (tgt := 230) (by decide) ?_
      refine jr_sub [] rfl ?_
      exact B230 0 (⟨by decide, by decide⟩) _
    · show vr_J p l e _ s m args below meth c _ _ _ G _ 231 _ _ _ _
      refine jr_sub [2, 3] rfl ?_
      exact B231 x1 h_x1 _
    · show vr_J p l e _ s m args below meth c _ _ _ G _ 136 _ _ _ _
      refine jr_iload C0 1 dX0_rankOf_136 rfl ?_
      refine jr_if_eq C0 h_y0 dX0_rankOf_138 (tgt := 145) (by decide) ?_ ?_
      · refine jr_iload_n C0 5 dX0_rankOf_145 rfl rfl ?_
        refine jr_if_eq C0 h_x3 dX0_rankOf_146 (tgt := 158) (by decide) ?_ ?_
        · refine jr_aload_n C0 2 dX0_rankOf_158 rfl rfl ?_
          refine jr_getr C0 (by decide) kd_58 (by decide) rfl wx_X0 (i := 5) (by decide) wf_X0_19 (j := 60) rfl dX0_rankOf_159 ?_
          refine jr_iload_n C0 3 dX0_rankOf_162 rfl rfl ?_
          refine jr_iald C0 (by decide) kd_60 kl_60 g3 (j := x1.toNat) rfl dX0_rankOf_163 ?_
          refine jr_sipush C0 dX0_rankOf_164 rfl ?_
          refine jr_iadd C0 dX0_rankOf_167 ?_
          refine jr_gd (fun g10 => ?_)
          refine jr_sub [] rfl ?_
          exact B168 ((μ 60 x1.toNat) + 1000) g10 _
        refine jr_aload_n C0 2 dX0_rankOf_149 rfl rfl ?_
        refine jr_getr C0 (by decide) kd_58 (by decide) rfl wx_X0 (i := 5) (by decide) wf_X0_19 (j := 60) rfl dX0_rankOf_150 ?_
        refine jr_iload_n C0 3 dX0_rankOf_153 rfl rfl ?_
        refine jr_iald C0 (by decide) kd_60 kl_60 g3 (j := x1.toNat) rfl dX0_rankOf_154 ?_
        refine jr_goto C0 dX0_rankOf_155 (tgt := 168) (by decide) ?_
        refine jr_gd (fun g11 => ?_)
        refine jr_sub [] rfl ?_
        exact B168 (μ 60 x1.toNat) g11 _
      refine jr_iconst C0 dX0_rankOf_141 ?_
      refine jr_goto C0 dX0_rankOf_142 (tgt := 168) (by decide) ?_
      refine jr_sub [] rfl ?_
      exact B168 0 (⟨by decide, by decide⟩) _
    · show vr_J p l e _ s m args below meth c _ _ _ G _ 169 _ _ _ _
      refine jr_iload C0 1 dX0_rankOf_169 rfl ?_
      refine jr_if_ne C0 h_y0 dX0_rankOf_171 (tgt := 190) (by decide) ?_ ?_
      · refine jr_sub [] rfl ?_
        exact B190 _
      refine jr_aload_n C0 2 dX0_rankOf_174 rfl rfl ?_
      refine jr_getr C0 (by decide) kd_58 (by decide) rfl wx_X0 (i := 0) (by decide) wf_X0_28 (j := 52) rfl dX0_rankOf_175 ?_
      refine jr_getr C0 (by decide) kd_52 (by decide) rfl wx_X2 (i := 2) (by decide) wf_X0_127 (j := 55) rfl dX0_rankOf_178 ?_
      refine jr_iload_n C0 3 dX0_rankOf_181 rfl rfl ?_
      refine jr_iald C0 (by decide) kd_55 kl_55 g3 (j := x1.toNat) rfl dX0_rankOf_182 ?_
      refine jr_aload_n C0 2 dX0_rankOf_183 rfl rfl ?_
      refine jr_geti C0 (by decide) kd_58 (by decide) rfl wx_X0 (i := 3) (by decide) wf_X0_9 rfl dX0_rankOf_184 ?_
      refine jr_gd (fun g12 => ?_)
      refine jr_gd (fun g13 => ?_)
      refine jr_icmp_lt C0 g12 g13 dX0_rankOf_187 (tgt := 194) (by decide) ?_ ?_
      · refine jr_aload_n C0 2 dX0_rankOf_194 rfl rfl ?_
        refine jr_getr C0 (by decide) kd_58 (by decide) rfl wx_X0 (i := 5) (by decide) wf_X0_19 (j := 60) rfl dX0_rankOf_195 ?_
        refine jr_iload_n C0 3 dX0_rankOf_198 rfl rfl ?_
        refine jr_iald C0 (by decide) kd_60 kl_60 g3 (j := x1.toNat) rfl dX0_rankOf_199 ?_
        refine jr_gd (fun g14 => ?_)
        refine jr_sub [] rfl ?_
        exact B200 (μ 60 x1.toNat) g14 _
      refine jr_sub [] rfl ?_
      exact B190 _
    refine jr_sub [2, 3] rfl ?_
    exact B231 x1 h_x1 _
  have B64 : ∀ (x1 : Int) (h_x1 : vr_R x1) (x2 : Int) (h_x2 : vr_R x2) (x3 : Int) (h_x3 : vr_R x3) (μ : vr_M), vr_J p l e ({ frames := 1, cells := 0, slots := 0, locals := 21 } : Room) s m args below meth c 6 0 0 G (vr_Z (vr_QI G) G args s below) 64 [(0, .ref (vr_ad G 58)), (1, .int (vr_I x1)), (2, .int (vr_I x2)), (3, .int (vr_I x3))] [] μ (fX0_rankOf_B64 x1 x2 x3 μ) := by
    intro x1 h_x1 x2 h_x2 x3 h_x3 μ
    unfold fX0_rankOf_B64
    refine jr_iconst C0 dX0_rankOf_64 ?_
    exact B65 x1 h_x1 x2 h_x2 x3 h_x3 0 (⟨by decide, by decide⟩) _
  have B39 : ∀ (x1 : Int) (h_x1 : vr_R x1) (x2 : Int) (h_x2 : vr_R x2) (y0 : Int) (h_y0 : vr_R y0) (μ : vr_M), vr_J p l e ({ frames := 1, cells := 0, slots := 0, locals := 21 } : Room) s m args below meth c 6 0 0 G (vr_Z (vr_QI G) G args s below) 39 [(0, .ref (vr_ad G 58)), (1, .int (vr_I x1)), (2, .int (vr_I x2))] [.int (vr_I y0)] μ (fX0_rankOf_B39 x1 x2 y0 μ) := by
    intro x1 h_x1 x2 h_x2 y0 h_y0 μ
    unfold fX0_rankOf_B39
    refine jr_istore_n C0 dX0_rankOf_39 rfl (by decide) (lv' := [(3, .int (vr_I y0)), (0, .ref (vr_ad G 58)), (1, .int (vr_I x1)), (2, .int (vr_I x2))]) rfl ?_
    refine jr_iload_n C0 0 dX0_rankOf_40 rfl rfl ?_
    refine jr_if_eq C0 h_y0 dX0_rankOf_41 (tgt := 64) (by decide) ?_ ?_
    · refine jr_sub [1, 2, 3, 0] rfl ?_
      exact B64 x1 h_x1 x2 h_x2 y0 h_y0 _
    refine jr_aload_n C0 1 dX0_rankOf_44 rfl rfl ?_
    refine jr_getr C0 (by decide) kd_58 (by decide) rfl wx_X0 (i := 0) (by decide) wf_X0_28 (j := 52) rfl dX0_rankOf_45 ?_
    refine jr_getr C0 (by decide) kd_52 (by decide) rfl wx_X2 (i := 3) (by decide) wf_X0_130 (j := 56) rfl dX0_rankOf_48 ?_
    refine jr_iload_n C0 2 dX0_rankOf_51 rfl rfl ?_
    refine jr_gd (fun g15 => ?_)
    refine jr_iald C0 (by decide) kd_56 kl_56 g15 (j := x1.toNat) rfl dX0_rankOf_52 ?_
    refine jr_aload_n C0 1 dX0_rankOf_53 rfl rfl ?_
    refine jr_geti C0 (by decide) kd_58 (by decide) rfl wx_X0 (i := 3) (by decide) wf_X0_9 rfl dX0_rankOf_54 ?_
    refine jr_gd (fun g16 => ?_)
    refine jr_gd (fun g17 => ?_)
    refine jr_icmp_ge C0 g16 g17 dX0_rankOf_57 (tgt := 64) (by decide) ?_ ?_
    · refine jr_sub [1, 2, 3, 0] rfl ?_
      exact B64 x1 h_x1 x2 h_x2 y0 h_y0 _
    refine jr_iconst C0 dX0_rankOf_60 ?_
    refine jr_goto C0 dX0_rankOf_61 (tgt := 65) (by decide) ?_
    refine jr_sub [1, 2, 3, 0] rfl ?_
    exact B65 x1 h_x1 x2 h_x2 y0 h_y0 1 (⟨by decide, by decide⟩) _
  unfold fX0_rankOf
  refine jr_aload_n C0 0 dX0_rankOf_0 rfl rfl ?_
  refine jr_getr C0 (by decide) kd_58 (by decide) rfl wx_X0 (i := 0) (by decide) wf_X0_28 (j := 52) rfl dX0_rankOf_1 ?_
  refine jr_iload_n C0 1 dX0_rankOf_4 rfl rfl ?_
  refine jr_vI C0 (by decide) kd_52 (by decide) rfl (ct_X2_has l G (by decide) kd_52 a0 h_a0 _) mi_X2_has wm_X0_44 ⟨Nat.le_of_ble_eq_true rfl, Nat.le_of_ble_eq_true rfl⟩ ⟨rfl, rfl⟩ (As := [.int (vr_I a0)]) rfl (st := []) rfl (Nat.le_of_ble_eq_true rfl) dX0_rankOf_5 (fun r18 hr18 => ?_)
  refine jr_if_eq C0 hr18 dX0_rankOf_8 (tgt := 20) (by decide) ?_ ?_
  · refine jr_sub [] rfl ?_
    exact B20 _
  refine jr_aload_n C0 0 dX0_rankOf_11 rfl rfl ?_
  refine jr_getr C0 (by decide) kd_58 (by decide) rfl wx_X0 (i := 5) (by decide) wf_X0_19 (j := 60) rfl dX0_rankOf_12 ?_
  refine jr_iload_n C0 1 dX0_rankOf_15 rfl rfl ?_
  refine jr_gd (fun g19 => ?_)
  refine jr_iald C0 (by decide) kd_60 kl_60 g19 (j := a0.toNat) rfl dX0_rankOf_16 ?_
  refine jr_gd (fun g20 => ?_)
  refine jr_if_ne C0 g20 dX0_rankOf_17 (tgt := 22) (by decide) ?_ ?_
  · refine jr_aload_n C0 0 dX0_rankOf_22 rfl rfl ?_
    refine jr_getr C0 (by decide) kd_58 (by decide) rfl wx_X0 (i := 0) (by decide) wf_X0_28 (j := 52) rfl dX0_rankOf_23 ?_
    refine jr_getr C0 (by decide) kd_52 (by decide) rfl wx_X2 (i := 2) (by decide) wf_X0_127 (j := 55) rfl dX0_rankOf_26 ?_
    refine jr_iload_n C0 1 dX0_rankOf_29 rfl rfl ?_
    refine jr_iald C0 (by decide) kd_55 kl_55 g19 (j := a0.toNat) rfl dX0_rankOf_30 ?_
    refine jr_gd (fun g21 => ?_)
    refine jr_if_ne C0 g21 dX0_rankOf_31 (tgt := 38) (by decide) ?_ ?_
    · refine jr_iconst C0 dX0_rankOf_38 ?_
      exact B39 a0 h_a0 a1 h_a1 0 (⟨by decide, by decide⟩) _
    refine jr_iconst C0 dX0_rankOf_34 ?_
    refine jr_goto C0 dX0_rankOf_35 (tgt := 39) (by decide) ?_
    exact B39 a0 h_a0 a1 h_a1 1 (⟨by decide, by decide⟩) _
  refine jr_sub [] rfl ?_
  exact B20 _
theorem dX0_firstInRank_0 : decode cX0_firstInRank 0 = .ok (.iconst 0, 1) := by decide +kernel
theorem dX0_firstInRank_1 : decode cX0_firstInRank 1 = .ok (.istore_n 1, 1) := by decide +kernel
theorem dX0_firstInRank_2 : decode cX0_firstInRank 2 = .ok (.iconst 1, 1) := by decide +kernel
theorem dX0_firstInRank_3 : decode cX0_firstInRank 3 = .ok (.istore_n 2, 1) := by decide +kernel
theorem dX0_firstInRank_4 : decode cX0_firstInRank 4 = .ok (.iload_n 2, 1) := by decide +kernel
theorem dX0_firstInRank_5 : decode cX0_firstInRank 5 = .ok (.bipush 8, 2) := by decide +kernel
theorem dX0_firstInRank_7 : decode cX0_firstInRank 7 = .ok (.if_icmp .ge 26, 3) := by decide +kernel
theorem dX0_firstInRank_10 : decode cX0_firstInRank 10 = .ok (.aload_n 0, 1) := by decide +kernel
theorem dX0_firstInRank_11 : decode cX0_firstInRank 11 = .ok (.getfield 22, 3) := by decide +kernel
theorem dX0_firstInRank_14 : decode cX0_firstInRank 14 = .ok (.iload_n 2, 1) := by decide +kernel
theorem dX0_firstInRank_15 : decode cX0_firstInRank 15 = .ok (.iaload, 1) := by decide +kernel
theorem dX0_firstInRank_16 : decode cX0_firstInRank 16 = .ok (.aload_n 0, 1) := by decide +kernel
theorem dX0_firstInRank_17 : decode cX0_firstInRank 17 = .ok (.getfield 22, 3) := by decide +kernel
theorem dX0_firstInRank_20 : decode cX0_firstInRank 20 = .ok (.iload_n 1, 1) := by decide +kernel
theorem dX0_firstInRank_21 : decode cX0_firstInRank 21 = .ok (.iaload, 1) := by decide +kernel
theorem dX0_firstInRank_22 : decode cX0_firstInRank 22 = .ok (.if_icmp .le 5, 3) := by decide +kernel
theorem dX0_firstInRank_25 : decode cX0_firstInRank 25 = .ok (.iload_n 2, 1) := by decide +kernel
theorem dX0_firstInRank_26 : decode cX0_firstInRank 26 = .ok (.istore_n 1, 1) := by decide +kernel
theorem dX0_firstInRank_27 : decode cX0_firstInRank 27 = .ok (.iinc 2 1, 3) := by decide +kernel
theorem dX0_firstInRank_30 : decode cX0_firstInRank 30 = .ok (.goto (-26), 3) := by decide +kernel
theorem dX0_firstInRank_33 : decode cX0_firstInRank 33 = .ok (.iload_n 1, 1) := by decide +kernel
theorem dX0_firstInRank_34 : decode cX0_firstInRank 34 = .ok (.ireturn, 1) := by decide +kernel
def fX0_firstInRank_B27 (rc4 : Int → Int → vr_M → Option (Int × vr_M)) (x1 : Int) (x2 : Int) (μ : vr_M) : Option (Int × vr_M) :=
  vr_gd (vr_R (x2 + 1)) (rc4 x1 (x2 + 1) μ)
def fX0_firstInRank_L4 : Nat → Int → Int → vr_M → Option (Int × vr_M)
  | 0, _, _, _ => none
  | n + 1, x1, x2, μ => if 8 ≤ x2 then some (x1, μ) else vr_gd (0 ≤ x2 ∧ x2 < 8) (vr_gd (0 ≤ x1 ∧ x1 < 8) (vr_gd (vr_R (μ 61 x2.toNat)) (vr_gd (vr_R (μ 61 x1.toNat)) (if (μ 61 x2.toNat) ≤ (μ 61 x1.toNat) then fX0_firstInRank_B27 (fX0_firstInRank_L4 n) x1 x2 μ else fX0_firstInRank_B27 (fX0_firstInRank_L4 n) x2 x2 μ))))
def fX0_firstInRank (μ : vr_M) : Option (Int × vr_M) :=
  fX0_firstInRank_L4 9000 0 1 μ
set_option maxRecDepth 100000 in
set_option maxHeartbeats 4000000 in
theorem ct_X0_firstInRank (l : Launch) (G : vr_G) (μ : vr_M) : vr_CI l yX0_firstInRank cX0_firstInRank 3 (some .int) ({ frames := 0, cells := 0, slots := 0, locals := 0 } : Room) G [.ref (vr_ad G 58)] μ (fX0_firstInRank μ) := by
  refine vr_start (own := RX0) (by decide) rfl (Nat.le_of_ble_eq_true rfl) (fun p e s m args below meth c C0 => ?_)
  show vr_J p l e _ s m args below meth c 3 0 0 G (vr_Z (vr_QI G) G args s below) 0 [(0, .ref (vr_ad G 58))] [] μ _
  have L4 : ∀ (n : Nat) (x1 : Int) (h_x1 : vr_R x1) (x2 : Int) (h_x2 : vr_R x2) (μ : vr_M), vr_J p l e ({ frames := 0, cells := 0, slots := 0, locals := 0 } : Room) s m args below meth c 3 0 0 G (vr_Z (vr_QI G) G args s below) 4 [(0, .ref (vr_ad G 58)), (1, .int (vr_I x1)), (2, .int (vr_I x2))] [] μ (fX0_firstInRank_L4 n x1 x2 μ) := by
    intro n4
    induction n4 with
    | zero => intros; exact jr_none
    | succ n4 ih4 =>
      have B27 : ∀ (x1 : Int) (h_x1 : vr_R x1) (x2 : Int) (h_x2 : vr_R x2) (μ : vr_M), vr_J p l e ({ frames := 0, cells := 0, slots := 0, locals := 0 } : Room) s m args below meth c 3 0 0 G (vr_Z (vr_QI G) G args s below) 27 [(0, .ref (vr_ad G 58)), (1, .int (vr_I x1)), (2, .int (vr_I x2))] [] μ (fX0_firstInRank_B27 (fX0_firstInRank_L4 n4) x1 x2 μ) := by
        intro x1 h_x1 x2 h_x2 μ
        unfold fX0_firstInRank_B27
        refine jr_iinc C0 (q := 2) dX0_firstInRank_27 rfl (by decide) (lv' := [(2, .int (vr_I (x2 + 1))), (0, .ref (vr_ad G 58)), (1, .int (vr_I x1))]) rfl ?_
        refine jr_goto C0 dX0_firstInRank_30 (tgt := 4) (by decide) ?_
        refine jr_gd (fun g1 => ?_)
        refine jr_sub [1, 2, 0] rfl ?_
        exact ih4 x1 h_x1 (x2 + 1) g1 _
      intro x1 h_x1 x2 h_x2 μ
      rw [fX0_firstInRank_L4.eq_2]
      refine jr_iload_n C0 2 dX0_firstInRank_4 rfl rfl ?_
      refine jr_bipush C0 dX0_firstInRank_5 rfl ?_
      refine jr_icmp_ge C0 h_x2 (⟨by decide, by decide⟩) dX0_firstInRank_7 (tgt := 33) (by decide) ?_ ?_
      · refine jr_iload_n C0 1 dX0_firstInRank_33 rfl rfl ?_
        exact jr_iret C0 h_x1 dX0_firstInRank_34
      refine jr_aload_n C0 0 dX0_firstInRank_10 rfl rfl ?_
      refine jr_getr C0 (by decide) kd_58 (by decide) rfl wx_X0 (i := 6) (by decide) wf_X0_22 (j := 61) rfl dX0_firstInRank_11 ?_
      refine jr_iload_n C0 2 dX0_firstInRank_14 rfl rfl ?_
      refine jr_gd (fun g2 => ?_)
      refine jr_iald C0 (by decide) kd_61 kl_61 g2 (j := x2.toNat) rfl dX0_firstInRank_15 ?_
      refine jr_aload_n C0 0 dX0_firstInRank_16 rfl rfl ?_
      refine jr_getr C0 (by decide) kd_58 (by decide) rfl wx_X0 (i := 6) (by decide) wf_X0_22 (j := 61) rfl dX0_firstInRank_17 ?_
      refine jr_iload_n C0 1 dX0_firstInRank_20 rfl rfl ?_
      refine jr_gd (fun g3 => ?_)
      refine jr_iald C0 (by decide) kd_61 kl_61 g3 (j := x1.toNat) rfl dX0_firstInRank_21 ?_
      refine jr_gd (fun g4 => ?_)
      refine jr_gd (fun g5 => ?_)
      refine jr_icmp_le C0 g4 g5 dX0_firstInRank_22 (tgt := 27) (by decide) ?_ ?_
      · exact B27 x1 h_x1 x2 h_x2 _
      refine jr_iload_n C0 2 dX0_firstInRank_25 rfl rfl ?_
      refine jr_istore_n C0 dX0_firstInRank_26 rfl (by decide) (lv' := [(1, .int (vr_I x2)), (0, .ref (vr_ad G 58)), (2, .int (vr_I x2))]) rfl ?_
      refine jr_sub [1, 0, 2] rfl ?_
      exact B27 x2 h_x2 x2 h_x2 _
  unfold fX0_firstInRank
  refine jr_iconst C0 dX0_firstInRank_0 ?_
  refine jr_istore_n C0 dX0_firstInRank_1 rfl (by decide) (lv' := [(1, .int (vr_I 0)), (0, .ref (vr_ad G 58))]) rfl ?_
  refine jr_iconst C0 dX0_firstInRank_2 ?_
  refine jr_istore_n C0 dX0_firstInRank_3 rfl (by decide) (lv' := [(2, .int (vr_I 1)), (1, .int (vr_I 0)), (0, .ref (vr_ad G 58))]) rfl ?_
  refine jr_sub [2, 1, 0] rfl ?_
  exact L4 9000 0 (⟨by decide, by decide⟩) 1 (⟨by decide, by decide⟩) _
theorem dX0_picksByRank_0 : decode cX0_picksByRank 0 = .ok (.iconst 0, 1) := by decide +kernel
theorem dX0_picksByRank_1 : decode cX0_picksByRank 1 = .ok (.istore_n 2, 1) := by decide +kernel
theorem dX0_picksByRank_2 : decode cX0_picksByRank 2 = .ok (.iload_n 2, 1) := by decide +kernel
theorem dX0_picksByRank_3 : decode cX0_picksByRank 3 = .ok (.bipush 8, 2) := by decide +kernel
theorem dX0_picksByRank_5 : decode cX0_picksByRank 5 = .ok (.if_icmp .ge 21, 3) := by decide +kernel
theorem dX0_picksByRank_8 : decode cX0_picksByRank 8 = .ok (.aload_n 0, 1) := by decide +kernel
theorem dX0_picksByRank_9 : decode cX0_picksByRank 9 = .ok (.getfield 22, 3) := by decide +kernel
theorem dX0_picksByRank_12 : decode cX0_picksByRank 12 = .ok (.iload_n 2, 1) := by decide +kernel
theorem dX0_picksByRank_13 : decode cX0_picksByRank 13 = .ok (.aload_n 0, 1) := by decide +kernel
theorem dX0_picksByRank_14 : decode cX0_picksByRank 14 = .ok (.iload_n 2, 1) := by decide +kernel
theorem dX0_picksByRank_15 : decode cX0_picksByRank 15 = .ok (.iload_n 1, 1) := by decide +kernel
theorem dX0_picksByRank_16 : decode cX0_picksByRank 16 = .ok (.invokevirtual 121, 3) := by decide +kernel
theorem dX0_picksByRank_19 : decode cX0_picksByRank 19 = .ok (.iastore, 1) := by decide +kernel
theorem dX0_picksByRank_20 : decode cX0_picksByRank 20 = .ok (.iinc 2 1, 3) := by decide +kernel
theorem dX0_picksByRank_23 : decode cX0_picksByRank 23 = .ok (.goto (-21), 3) := by decide +kernel
theorem dX0_picksByRank_26 : decode cX0_picksByRank 26 = .ok (.iconst 0, 1) := by decide +kernel
theorem dX0_picksByRank_27 : decode cX0_picksByRank 27 = .ok (.istore_n 2, 1) := by decide +kernel
theorem dX0_picksByRank_28 : decode cX0_picksByRank 28 = .ok (.iconst 0, 1) := by decide +kernel
theorem dX0_picksByRank_29 : decode cX0_picksByRank 29 = .ok (.istore_n 3, 1) := by decide +kernel
theorem dX0_picksByRank_30 : decode cX0_picksByRank 30 = .ok (.iconst 0, 1) := by decide +kernel
theorem dX0_picksByRank_31 : decode cX0_picksByRank 31 = .ok (.istore 4, 2) := by decide +kernel
theorem dX0_picksByRank_33 : decode cX0_picksByRank 33 = .ok (.iload 4, 2) := by decide +kernel
theorem dX0_picksByRank_35 : decode cX0_picksByRank 35 = .ok (.bipush 8, 2) := by decide +kernel
theorem dX0_picksByRank_37 : decode cX0_picksByRank 37 = .ok (.if_icmp .ge 63, 3) := by decide +kernel
theorem dX0_picksByRank_40 : decode cX0_picksByRank 40 = .ok (.iload_n 3, 1) := by decide +kernel
theorem dX0_picksByRank_41 : decode cX0_picksByRank 41 = .ok (.aload_n 0, 1) := by decide +kernel
theorem dX0_picksByRank_42 : decode cX0_picksByRank 42 = .ok (.getfield 28, 3) := by decide +kernel
theorem dX0_picksByRank_45 : decode cX0_picksByRank 45 = .ok (.getfield 84, 3) := by decide +kernel
theorem dX0_picksByRank_48 : decode cX0_picksByRank 48 = .ok (.if_icmp .ge 52, 3) := by decide +kernel
theorem dX0_picksByRank_51 : decode cX0_picksByRank 51 = .ok (.aload_n 0, 1) := by decide +kernel
theorem dX0_picksByRank_52 : decode cX0_picksByRank 52 = .ok (.invokevirtual 124, 3) := by decide +kernel
theorem dX0_picksByRank_55 : decode cX0_picksByRank 55 = .ok (.istore 5, 2) := by decide +kernel
theorem dX0_picksByRank_57 : decode cX0_picksByRank 57 = .ok (.aload_n 0, 1) := by decide +kernel
theorem dX0_picksByRank_58 : decode cX0_picksByRank 58 = .ok (.getfield 22, 3) := by decide +kernel
theorem dX0_picksByRank_61 : decode cX0_picksByRank 61 = .ok (.iload 5, 2) := by decide +kernel
theorem dX0_picksByRank_63 : decode cX0_picksByRank 63 = .ok (.iaload, 1) := by decide +kernel
theorem dX0_picksByRank_64 : decode cX0_picksByRank 64 = .ok (.ifCond .ne 5, 3) := by decide +kernel
theorem dX0_picksByRank_67 : decode cX0_picksByRank 67 = .ok (.iload_n 2, 1) := by decide +kernel
theorem dX0_picksByRank_68 : decode cX0_picksByRank 68 = .ok (.ireturn, 1) := by decide +kernel
theorem dX0_picksByRank_69 : decode cX0_picksByRank 69 = .ok (.aload_n 0, 1) := by decide +kernel
theorem dX0_picksByRank_70 : decode cX0_picksByRank 70 = .ok (.getfield 22, 3) := by decide +kernel
theorem dX0_picksByRank_73 : decode cX0_picksByRank 73 = .ok (.iload 5, 2) := by decide +kernel
theorem dX0_picksByRank_75 : decode cX0_picksByRank 75 = .ok (.iconst 0, 1) := by decide +kernel
theorem dX0_picksByRank_76 : decode cX0_picksByRank 76 = .ok (.iastore, 1) := by decide +kernel
theorem dX0_picksByRank_77 : decode cX0_picksByRank 77 = .ok (.iload_n 2, 1) := by decide +kernel
theorem dX0_picksByRank_78 : decode cX0_picksByRank 78 = .ok (.iconst 1, 1) := by decide +kernel
theorem dX0_picksByRank_79 : decode cX0_picksByRank 79 = .ok (.iload 5, 2) := by decide +kernel
theorem dX0_picksByRank_81 : decode cX0_picksByRank 81 = .ok (.ishl, 1) := by decide +kernel
theorem dX0_picksByRank_82 : decode cX0_picksByRank 82 = .ok (.ior, 1) := by decide +kernel
theorem dX0_picksByRank_83 : decode cX0_picksByRank 83 = .ok (.istore_n 2, 1) := by decide +kernel
theorem dX0_picksByRank_84 : decode cX0_picksByRank 84 = .ok (.iload_n 3, 1) := by decide +kernel
theorem dX0_picksByRank_85 : decode cX0_picksByRank 85 = .ok (.aload_n 0, 1) := by decide +kernel
theorem dX0_picksByRank_86 : decode cX0_picksByRank 86 = .ok (.getfield 19, 3) := by decide +kernel
theorem dX0_picksByRank_89 : decode cX0_picksByRank 89 = .ok (.iload 5, 2) := by decide +kernel
theorem dX0_picksByRank_91 : decode cX0_picksByRank 91 = .ok (.iaload, 1) := by decide +kernel
theorem dX0_picksByRank_92 : decode cX0_picksByRank 92 = .ok (.iadd, 1) := by decide +kernel
theorem dX0_picksByRank_93 : decode cX0_picksByRank 93 = .ok (.istore_n 3, 1) := by decide +kernel
theorem dX0_picksByRank_94 : decode cX0_picksByRank 94 = .ok (.iinc 4 1, 3) := by decide +kernel
theorem dX0_picksByRank_97 : decode cX0_picksByRank 97 = .ok (.goto (-64), 3) := by decide +kernel
theorem dX0_picksByRank_100 : decode cX0_picksByRank 100 = .ok (.iload_n 2, 1) := by decide +kernel
theorem dX0_picksByRank_101 : decode cX0_picksByRank 101 = .ok (.ireturn, 1) := by decide +kernel
def fX0_picksByRank_B100 (x2 : Int) (μ : vr_M) : Option (Int × vr_M) :=
  some (x2, μ)
def fX0_picksByRank_L33 : Nat → Int → Int → Int → vr_M → Option (Int × vr_M)
  | 0, _, _, _, _ => none
  | n + 1, x2, x3, x4, μ => if 8 ≤ x4 then fX0_picksByRank_B100 x2 μ else vr_gd (vr_R (μ 52 7)) (if (μ 52 7) ≤ x3 then fX0_picksByRank_B100 x2 μ else (fX0_firstInRank  μ).bind (fun r2 => vr_gd (0 ≤ r2.1 ∧ r2.1 < 8) (vr_gd (vr_R (r2.2 61 r2.1.toNat)) (if ¬ (r2.2 61 r2.1.toNat) = 0 then vr_let (vr_u r2.2 61 r2.1.toNat 0) (fun μ5 => vr_gd (vr_R (x3 + (μ5 60 r2.1.toNat))) (vr_gd (vr_R (x4 + 1)) ((fX0_picksByRank_L33 n) (vr_or x2 (vr_shl 1 r2.1)) (x3 + (μ5 60 r2.1.toNat)) (x4 + 1) μ5))) else some (x2, r2.2)))))
def fX0_picksByRank_L2 : Nat → Int → Int → vr_M → Option (Int × vr_M)
  | 0, _, _, _ => none
  | n + 1, x1, x2, μ => if 8 ≤ x2 then fX0_picksByRank_L33 9000 0 0 0 μ else (fX0_rankOf x2 x1 μ).bind (fun r8 => vr_gd (0 ≤ x2 ∧ x2 < 8) (vr_gd (vr_R (x2 + 1)) ((fX0_picksByRank_L2 n) x1 (x2 + 1) (vr_u r8.2 61 x2.toNat r8.1))))
def fX0_picksByRank (a0 : Int) (μ : vr_M) : Option (Int × vr_M) :=
  fX0_picksByRank_L2 9000 a0 0 μ
set_option maxRecDepth 100000 in
set_option maxHeartbeats 4000000 in
theorem ct_X0_picksByRank (l : Launch) (G : vr_G) (a0 : Int) (h_a0 : vr_R a0) (μ : vr_M) : vr_CI l yX0_picksByRank cX0_picksByRank 6 (some .int) ({ frames := 2, cells := 0, slots := 0, locals := 46 } : Room) G [.ref (vr_ad G 58), .int (vr_I a0)] μ (fX0_picksByRank a0 μ) := by
  refine vr_start (own := RX0) (by decide) rfl (Nat.le_of_ble_eq_true rfl) (fun p e s m args below meth c C0 => ?_)
  show vr_J p l e _ s m args below meth c 6 0 0 G (vr_Z (vr_QI G) G args s below) 0 [(0, .ref (vr_ad G 58)), (1, .int (vr_I a0))] [] μ _
  have B100 : ∀ (x2 : Int) (h_x2 : vr_R x2) (μ : vr_M), vr_J p l e ({ frames := 2, cells := 0, slots := 0, locals := 46 } : Room) s m args below meth c 6 0 0 G (vr_Z (vr_QI G) G args s below) 100 [(2, .int (vr_I x2))] [] μ (fX0_picksByRank_B100 x2 μ) := by
    intro x2 h_x2 μ
    unfold fX0_picksByRank_B100
    refine jr_iload_n C0 0 dX0_picksByRank_100 rfl rfl ?_
    exact jr_iret C0 h_x2 dX0_picksByRank_101
  have L33 : ∀ (n : Nat) (x2 : Int) (h_x2 : vr_R x2) (x3 : Int) (h_x3 : vr_R x3) (x4 : Int) (h_x4 : vr_R x4) (μ : vr_M), vr_J p l e ({ frames := 2, cells := 0, slots := 0, locals := 46 } : Room) s m args below meth c 6 0 0 G (vr_Z (vr_QI G) G args s below) 33 [(0, .ref (vr_ad G 58)), (2, .int (vr_I x2)), (3, .int (vr_I x3)), (4, .int (vr_I x4))] [] μ (fX0_picksByRank_L33 n x2 x3 x4 μ) := by
    intro n33
    induction n33 with
    | zero => intros; exact jr_none
    | succ n33 ih33 =>
      intro x2 h_x2 x3 h_x3 x4 h_x4 μ
      rw [fX0_picksByRank_L33.eq_2]
      refine jr_iload C0 3 dX0_picksByRank_33 rfl ?_
      refine jr_bipush C0 dX0_picksByRank_35 rfl ?_
      refine jr_icmp_ge C0 h_x4 (⟨by decide, by decide⟩) dX0_picksByRank_37 (tgt := 100) (by decide) ?_ ?_
      · refine jr_sub [1] rfl ?_
        exact B100 x2 h_x2 _
      refine jr_iload_n C0 2 dX0_picksByRank_40 rfl rfl ?_
      refine jr_aload_n C0 0 dX0_picksByRank_41 rfl rfl ?_
      refine jr_getr C0 (by decide) kd_58 (by decide) rfl wx_X0 (i := 0) (by decide) wf_X0_28 (j := 52) rfl dX0_picksByRank_42 ?_
      refine jr_geti C0 (by decide) kd_52 (by decide) rfl wx_X2 (i := 7) (by decide) wf_X0_84 rfl dX0_picksByRank_45 ?_
      refine jr_gd (fun g1 => ?_)
      refine jr_icmp_ge C0 h_x3 g1 dX0_picksByRank_48 (tgt := 100) (by decide) ?_ ?_
      · refine jr_sub [1] rfl ?_
        exact B100 x2 h_x2 _
      refine jr_aload_n C0 0 dX0_picksByRank_51 rfl rfl ?_
      refine jr_vI C0 (by decide) kd_58 (by decide) rfl (ct_X0_firstInRank l G  _) mi_X0_firstInRank wm_X0_124 ⟨Nat.le_of_ble_eq_true rfl, Nat.le_of_ble_eq_true rfl⟩ ⟨rfl, rfl⟩ (As := []) rfl (st := []) rfl (Nat.le_of_ble_eq_true rfl) dX0_picksByRank_52 (fun r2 hr2 => ?_)
      refine jr_istore C0 dX0_picksByRank_55 (by decide) (lv' := [(5, .int (vr_I r2.1)), (0, .ref (vr_ad G 58)), (2, .int (vr_I x2)), (3, .int (vr_I x3)), (4, .int (vr_I x4))]) rfl ?_
      refine jr_aload_n C0 1 dX0_picksByRank_57 rfl rfl ?_
      refine jr_getr C0 (by decide) kd_58 (by decide) rfl wx_X0 (i := 6) (by decide) wf_X0_22 (j := 61) rfl dX0_picksByRank_58 ?_
      refine jr_iload C0 0 dX0_picksByRank_61 rfl ?_
      refine jr_gd (fun g3 => ?_)
      refine jr_iald C0 (by decide) kd_61 kl_61 g3 (j := r2.1.toNat) rfl dX0_picksByRank_63 ?_
      refine jr_gd (fun g4 => ?_)
      refine jr_if_ne C0 g4 dX0_picksByRank_64 (tgt := 69) (by decide) ?_ ?_
      · refine jr_aload_n C0 1 dX0_picksByRank_69 rfl rfl ?_
        refine jr_getr C0 (by decide) kd_58 (by decide) rfl wx_X0 (i := 6) (by decide) wf_X0_22 (j := 61) rfl dX0_picksByRank_70 ?_
        refine jr_iload C0 0 dX0_picksByRank_73 rfl ?_
        refine jr_iconst C0 dX0_picksByRank_75 ?_
        refine jr_iast C0 (by decide) kd_61 kl_61 g3 (j := r2.1.toNat) rfl dX0_picksByRank_76 ?_
        refine jr_iload_n C0 2 dX0_picksByRank_77 rfl rfl ?_
        refine jr_iconst C0 dX0_picksByRank_78 ?_
        refine jr_iload C0 0 dX0_picksByRank_79 rfl ?_
        refine jr_ishl C0 dX0_picksByRank_81 ?_
        refine jr_ior C0 dX0_picksByRank_82 ?_
        refine jr_istore_n C0 dX0_picksByRank_83 rfl (by decide) (lv' := [(2, .int (vr_I (vr_or x2 (vr_shl 1 r2.1)))), (5, .int (vr_I r2.1)), (0, .ref (vr_ad G 58)), (3, .int (vr_I x3)), (4, .int (vr_I x4))]) rfl ?_
        refine jr_iload_n C0 3 dX0_picksByRank_84 rfl rfl ?_
        refine jr_aload_n C0 2 dX0_picksByRank_85 rfl rfl ?_
        refine jr_getr C0 (by decide) kd_58 (by decide) rfl wx_X0 (i := 5) (by decide) wf_X0_19 (j := 60) rfl dX0_picksByRank_86 ?_
        refine jr_iload C0 1 dX0_picksByRank_89 rfl ?_
        refine jr_let (fun μ5 => ?_)
        refine jr_iald C0 (by decide) kd_60 kl_60 g3 (j := r2.1.toNat) rfl dX0_picksByRank_91 ?_
        refine jr_iadd C0 dX0_picksByRank_92 ?_
        refine jr_istore_n C0 dX0_picksByRank_93 rfl (by decide) (lv' := [(3, .int (vr_I (x3 + (μ5 60 r2.1.toNat)))), (2, .int (vr_I (vr_or x2 (vr_shl 1 r2.1)))), (5, .int (vr_I r2.1)), (0, .ref (vr_ad G 58)), (4, .int (vr_I x4))]) rfl ?_
        refine jr_iinc C0 (q := 4) dX0_picksByRank_94 rfl (by decide) (lv' := [(4, .int (vr_I (x4 + 1))), (3, .int (vr_I (x3 + (μ5 60 r2.1.toNat)))), (2, .int (vr_I (vr_or x2 (vr_shl 1 r2.1)))), (5, .int (vr_I r2.1)), (0, .ref (vr_ad G 58))]) rfl ?_
        refine jr_goto C0 dX0_picksByRank_97 (tgt := 33) (by decide) ?_
        refine jr_gd (fun g6 => ?_)
        refine jr_gd (fun g7 => ?_)
        refine jr_sub [4, 2, 1, 0] rfl ?_
        exact ih33 (vr_or x2 (vr_shl 1 r2.1)) (vr_RT _) (x3 + (μ5 60 r2.1.toNat)) g6 (x4 + 1) g7 _
      refine jr_iload_n C0 2 dX0_picksByRank_67 rfl rfl ?_
      exact jr_iret C0 h_x2 dX0_picksByRank_68
  have L2 : ∀ (n : Nat) (x1 : Int) (h_x1 : vr_R x1) (x2 : Int) (h_x2 : vr_R x2) (μ : vr_M), vr_J p l e ({ frames := 2, cells := 0, slots := 0, locals := 46 } : Room) s m args below meth c 6 0 0 G (vr_Z (vr_QI G) G args s below) 2 [(0, .ref (vr_ad G 58)), (1, .int (vr_I x1)), (2, .int (vr_I x2))] [] μ (fX0_picksByRank_L2 n x1 x2 μ) := by
    intro n2
    induction n2 with
    | zero => intros; exact jr_none
    | succ n2 ih2 =>
      intro x1 h_x1 x2 h_x2 μ
      rw [fX0_picksByRank_L2.eq_2]
      refine jr_iload_n C0 2 dX0_picksByRank_2 rfl rfl ?_
      refine jr_bipush C0 dX0_picksByRank_3 rfl ?_
      refine jr_icmp_ge C0 h_x2 (⟨by decide, by decide⟩) dX0_picksByRank_5 (tgt := 26) (by decide) ?_ ?_
      · refine jr_iconst C0 dX0_picksByRank_26 ?_
        refine jr_istore_n C0 dX0_picksByRank_27 rfl (by decide) (lv' := [(2, .int (vr_I 0)), (0, .ref (vr_ad G 58)), (1, .int (vr_I x1))]) rfl ?_
        refine jr_iconst C0 dX0_picksByRank_28 ?_
        refine jr_istore_n C0 dX0_picksByRank_29 rfl (by decide) (lv' := [(3, .int (vr_I 0)), (2, .int (vr_I 0)), (0, .ref (vr_ad G 58)), (1, .int (vr_I x1))]) rfl ?_
        refine jr_iconst C0 dX0_picksByRank_30 ?_
        refine jr_istore C0 dX0_picksByRank_31 (by decide) (lv' := [(4, .int (vr_I 0)), (3, .int (vr_I 0)), (2, .int (vr_I 0)), (0, .ref (vr_ad G 58)), (1, .int (vr_I x1))]) rfl ?_
        refine jr_sub [3, 2, 1, 0] rfl ?_
        exact L33 9000 0 (⟨by decide, by decide⟩) 0 (⟨by decide, by decide⟩) 0 (⟨by decide, by decide⟩) _
      refine jr_aload_n C0 0 dX0_picksByRank_8 rfl rfl ?_
      refine jr_getr C0 (by decide) kd_58 (by decide) rfl wx_X0 (i := 6) (by decide) wf_X0_22 (j := 61) rfl dX0_picksByRank_9 ?_
      refine jr_iload_n C0 2 dX0_picksByRank_12 rfl rfl ?_
      refine jr_aload_n C0 0 dX0_picksByRank_13 rfl rfl ?_
      refine jr_iload_n C0 2 dX0_picksByRank_14 rfl rfl ?_
      refine jr_iload_n C0 1 dX0_picksByRank_15 rfl rfl ?_
      refine jr_vI C0 (by decide) kd_58 (by decide) rfl (ct_X0_rankOf l G x2 h_x2 x1 h_x1 _) mi_X0_rankOf wm_X0_121 ⟨Nat.le_of_ble_eq_true rfl, Nat.le_of_ble_eq_true rfl⟩ ⟨rfl, rfl⟩ (As := [.int (vr_I x2), .int (vr_I x1)]) rfl (st := [.int (vr_I x2), .ref (vr_ad G 61)]) rfl (Nat.le_of_ble_eq_true rfl) dX0_picksByRank_16 (fun r8 hr8 => ?_)
      refine jr_gd (fun g9 => ?_)
      refine jr_iast C0 (by decide) kd_61 kl_61 g9 (j := x2.toNat) rfl dX0_picksByRank_19 ?_
      refine jr_iinc C0 (q := 2) dX0_picksByRank_20 rfl (by decide) (lv' := [(2, .int (vr_I (x2 + 1))), (0, .ref (vr_ad G 58)), (1, .int (vr_I x1))]) rfl ?_
      refine jr_goto C0 dX0_picksByRank_23 (tgt := 2) (by decide) ?_
      refine jr_gd (fun g10 => ?_)
      refine jr_sub [1, 2, 0] rfl ?_
      exact ih2 x1 h_x1 (x2 + 1) g10 _
  unfold fX0_picksByRank
  refine jr_iconst C0 dX0_picksByRank_0 ?_
  refine jr_istore_n C0 dX0_picksByRank_1 rfl (by decide) (lv' := [(2, .int (vr_I 0)), (0, .ref (vr_ad G 58)), (1, .int (vr_I a0))]) rfl ?_
  refine jr_sub [1, 2, 0] rfl ?_
  exact L2 9000 a0 h_a0 0 (⟨by decide, by decide⟩) _
theorem dX0_picks_0 : decode cX0_picks 0 = .ok (.iconst 0, 1) := by decide +kernel
theorem dX0_picks_1 : decode cX0_picks 1 = .ok (.istore_n 2, 1) := by decide +kernel
theorem dX0_picks_2 : decode cX0_picks 2 = .ok (.iconst 0, 1) := by decide +kernel
theorem dX0_picks_3 : decode cX0_picks 3 = .ok (.istore_n 3, 1) := by decide +kernel
theorem dX0_picks_4 : decode cX0_picks 4 = .ok (.iload_n 3, 1) := by decide +kernel
theorem dX0_picks_5 : decode cX0_picks 5 = .ok (.bipush 8, 2) := by decide +kernel
theorem dX0_picks_7 : decode cX0_picks 7 = .ok (.if_icmp .ge 37, 3) := by decide +kernel
theorem dX0_picks_10 : decode cX0_picks 10 = .ok (.aload_n 0, 1) := by decide +kernel
theorem dX0_picks_11 : decode cX0_picks 11 = .ok (.getfield 19, 3) := by decide +kernel
theorem dX0_picks_14 : decode cX0_picks 14 = .ok (.iload_n 3, 1) := by decide +kernel
theorem dX0_picks_15 : decode cX0_picks 15 = .ok (.aload_n 0, 1) := by decide +kernel
theorem dX0_picks_16 : decode cX0_picks 16 = .ok (.iload_n 3, 1) := by decide +kernel
theorem dX0_picks_17 : decode cX0_picks 17 = .ok (.iload_n 1, 1) := by decide +kernel
theorem dX0_picks_18 : decode cX0_picks 18 = .ok (.aload_n 0, 1) := by decide +kernel
theorem dX0_picks_19 : decode cX0_picks 19 = .ok (.getfield 32, 3) := by decide +kernel
theorem dX0_picks_22 : decode cX0_picks 22 = .ok (.getfield 67, 3) := by decide +kernel
theorem dX0_picks_25 : decode cX0_picks 25 = .ok (.invokevirtual 70, 3) := by decide +kernel
theorem dX0_picks_28 : decode cX0_picks 28 = .ok (.iastore, 1) := by decide +kernel
theorem dX0_picks_29 : decode cX0_picks 29 = .ok (.iload_n 2, 1) := by decide +kernel
theorem dX0_picks_30 : decode cX0_picks 30 = .ok (.aload_n 0, 1) := by decide +kernel
theorem dX0_picks_31 : decode cX0_picks 31 = .ok (.getfield 19, 3) := by decide +kernel
theorem dX0_picks_34 : decode cX0_picks 34 = .ok (.iload_n 3, 1) := by decide +kernel
theorem dX0_picks_35 : decode cX0_picks 35 = .ok (.iaload, 1) := by decide +kernel
theorem dX0_picks_36 : decode cX0_picks 36 = .ok (.iadd, 1) := by decide +kernel
theorem dX0_picks_37 : decode cX0_picks 37 = .ok (.istore_n 2, 1) := by decide +kernel
theorem dX0_picks_38 : decode cX0_picks 38 = .ok (.iinc 3 1, 3) := by decide +kernel
theorem dX0_picks_41 : decode cX0_picks 41 = .ok (.goto (-37), 3) := by decide +kernel
theorem dX0_picks_44 : decode cX0_picks 44 = .ok (.aload_n 0, 1) := by decide +kernel
theorem dX0_picks_45 : decode cX0_picks 45 = .ok (.getfield 36, 3) := by decide +kernel
theorem dX0_picks_48 : decode cX0_picks 48 = .ok (.lookupswitch 56 #[(1, 28), (4, 33)], 28) := by decide +kernel
theorem dX0_picks_76 : decode cX0_picks 76 = .ok (.aload_n 0, 1) := by decide +kernel
theorem dX0_picks_77 : decode cX0_picks 77 = .ok (.invokevirtual 93, 3) := by decide +kernel
theorem dX0_picks_80 : decode cX0_picks 80 = .ok (.ireturn, 1) := by decide +kernel
theorem dX0_picks_81 : decode cX0_picks 81 = .ok (.iload_n 2, 1) := by decide +kernel
theorem dX0_picks_82 : decode cX0_picks 82 = .ok (.aload_n 0, 1) := by decide +kernel
theorem dX0_picks_83 : decode cX0_picks 83 = .ok (.getfield 28, 3) := by decide +kernel
theorem dX0_picks_86 : decode cX0_picks 86 = .ok (.getfield 84, 3) := by decide +kernel
theorem dX0_picks_89 : decode cX0_picks 89 = .ok (.if_icmp .ge 10, 3) := by decide +kernel
theorem dX0_picks_92 : decode cX0_picks 92 = .ok (.aload_n 0, 1) := by decide +kernel
theorem dX0_picks_93 : decode cX0_picks 93 = .ok (.invokevirtual 97, 3) := by decide +kernel
theorem dX0_picks_96 : decode cX0_picks 96 = .ok (.goto 7, 3) := by decide +kernel
theorem dX0_picks_99 : decode cX0_picks 99 = .ok (.aload_n 0, 1) := by decide +kernel
theorem dX0_picks_100 : decode cX0_picks 100 = .ok (.invokevirtual 100, 3) := by decide +kernel
theorem dX0_picks_103 : decode cX0_picks 103 = .ok (.ireturn, 1) := by decide +kernel
theorem dX0_picks_104 : decode cX0_picks 104 = .ok (.aload_n 0, 1) := by decide +kernel
theorem dX0_picks_105 : decode cX0_picks 105 = .ok (.iload_n 1, 1) := by decide +kernel
theorem dX0_picks_106 : decode cX0_picks 106 = .ok (.invokevirtual 103, 3) := by decide +kernel
theorem dX0_picks_109 : decode cX0_picks 109 = .ok (.ireturn, 1) := by decide +kernel
def fX0_picks_B103 (y0 : Int) (μ : vr_M) : Option (Int × vr_M) :=
  some (y0, μ)
def fX0_picks_L4 : Nat → Int → Int → Int → vr_M → Option (Int × vr_M)
  | 0, _, _, _, _ => none
  | n + 1, x1, x2, x3, μ => if 8 ≤ x3 then vr_gd (vr_R (μ 58 2)) (vr_ls (μ 58 2) [(1, (fX0_picksInTurn  μ).bind (fun r2 => some (r2.1, r2.2))), (4, vr_gd (vr_R (μ 52 7)) (if (μ 52 7) ≤ x2 then (fX0_picksFewest  μ).bind (fun r4 => fX0_picks_B103 r4.1 r4.2) else (fX0_picksAllThatGive  μ).bind (fun r5 => fX0_picks_B103 r5.1 r5.2)))] ((fX0_picksByRank x1 μ).bind (fun r6 => some (r6.1, r6.2)))) else vr_gd (vr_R (μ 8 5)) ((fX0_gift x3 x1 (μ 8 5) μ).bind (fun r8 => vr_gd (0 ≤ x3 ∧ x3 < 8) (vr_let (vr_u r8.2 60 x3.toNat r8.1) (fun μ10 => vr_gd (vr_R (x2 + (μ10 60 x3.toNat))) (vr_gd (vr_R (x3 + 1)) ((fX0_picks_L4 n) x1 (x2 + (μ10 60 x3.toNat)) (x3 + 1) μ10))))))
def fX0_picks (a0 : Int) (μ : vr_M) : Option (Int × vr_M) :=
  fX0_picks_L4 9000 a0 0 0 μ
set_option maxRecDepth 100000 in
set_option maxHeartbeats 4000000 in
theorem ct_X0_picks (l : Launch) (G : vr_G) (a0 : Int) (h_a0 : vr_R a0) (μ : vr_M) : vr_CI l yX0_picks cX0_picks 4 (some .int) ({ frames := 3, cells := 0, slots := 0, locals := 71 } : Room) G [.ref (vr_ad G 58), .int (vr_I a0)] μ (fX0_picks a0 μ) := by
  refine vr_start (own := RX0) (by decide) rfl (Nat.le_of_ble_eq_true rfl) (fun p e s m args below meth c C0 => ?_)
  show vr_J p l e _ s m args below meth c 4 0 0 G (vr_Z (vr_QI G) G args s below) 0 [(0, .ref (vr_ad G 58)), (1, .int (vr_I a0))] [] μ _
  have B103 : ∀ (y0 : Int) (h_y0 : vr_R y0) (μ : vr_M), vr_J p l e ({ frames := 3, cells := 0, slots := 0, locals := 71 } : Room) s m args below meth c 4 0 0 G (vr_Z (vr_QI G) G args s below) 103 [] [.int (vr_I y0)] μ (fX0_picks_B103 y0 μ) := by
    intro y0 h_y0 μ
    unfold fX0_picks_B103
    exact jr_iret C0 h_y0 dX0_picks_103
  have L4 : ∀ (n : Nat) (x1 : Int) (h_x1 : vr_R x1) (x2 : Int) (h_x2 : vr_R x2) (x3 : Int) (h_x3 : vr_R x3) (μ : vr_M), vr_J p l e ({ frames := 3, cells := 0, slots := 0, locals := 71 } : Room) s m args below meth c 4 0 0 G (vr_Z (vr_QI G) G args s below) 4 [(0, .ref (vr_ad G 58)), (1, .int (vr_I x1)), (2, .int (vr_I x2)), (3, .int (vr_I x3))] [] μ (fX0_picks_L4 n x1 x2 x3 μ) := by
    intro n4
    induction n4 with
    | zero => intros; exact jr_none
    | succ n4 ih4 =>
      intro x1 h_x1 x2 h_x2 x3 h_x3 μ
      rw [fX0_picks_L4.eq_2]
      refine jr_iload_n C0 3 dX0_picks_4 rfl rfl ?_
      refine jr_bipush C0 dX0_picks_5 rfl ?_
      refine jr_icmp_ge C0 h_x3 (⟨by decide, by decide⟩) dX0_picks_7 (tgt := 44) (by decide) ?_ ?_
      · refine jr_aload_n C0 0 dX0_picks_44 rfl rfl ?_
        refine jr_geti C0 (by decide) kd_58 (by decide) rfl wx_X0 (i := 2) (by decide) wf_X0_36 rfl dX0_picks_45 ?_
        refine jr_gd (fun g1 => ?_)
        refine jr_lsw C0 g1 dX0_picks_48 (by decide) (td := 104) (by decide) (vr_LS_cons (tgt := 76) (by decide) ?_ (vr_LS_cons (tgt := 81) (by decide) ?_ vr_LS_nil)) ?_
        · show vr_J p l e _ s m args below meth c _ _ _ G _ 76 _ _ _ _
          refine jr_aload_n C0 0 dX0_picks_76 rfl rfl ?_
          refine jr_vI C0 (by decide) kd_58 (by decide) rfl (ct_X0_picksInTurn l G  _) mi_X0_picksInTurn wm_X0_93 ⟨Nat.le_of_ble_eq_true rfl, Nat.le_of_ble_eq_true rfl⟩ ⟨rfl, rfl⟩ (As := []) rfl (st := []) rfl (Nat.le_of_ble_eq_true rfl) dX0_picks_77 (fun r2 hr2 => ?_)
          exact jr_iret C0 hr2 dX0_picks_80
        · show vr_J p l e _ s m args below meth c _ _ _ G _ 81 _ _ _ _
          refine jr_iload_n C0 2 dX0_picks_81 rfl rfl ?_
          refine jr_aload_n C0 0 dX0_picks_82 rfl rfl ?_
          refine jr_getr C0 (by decide) kd_58 (by decide) rfl wx_X0 (i := 0) (by decide) wf_X0_28 (j := 52) rfl dX0_picks_83 ?_
          refine jr_geti C0 (by decide) kd_52 (by decide) rfl wx_X2 (i := 7) (by decide) wf_X0_84 rfl dX0_picks_86 ?_
          refine jr_gd (fun g3 => ?_)
          refine jr_icmp_ge C0 h_x2 g3 dX0_picks_89 (tgt := 99) (by decide) ?_ ?_
          · refine jr_aload_n C0 0 dX0_picks_99 rfl rfl ?_
            refine jr_vI C0 (by decide) kd_58 (by decide) rfl (ct_X0_picksFewest l G  _) mi_X0_picksFewest wm_X0_100 ⟨Nat.le_of_ble_eq_true rfl, Nat.le_of_ble_eq_true rfl⟩ ⟨rfl, rfl⟩ (As := []) rfl (st := []) rfl (Nat.le_of_ble_eq_true rfl) dX0_picks_100 (fun r4 hr4 => ?_)
            refine jr_sub [] rfl ?_
            exact B103 r4.1 hr4 _
          refine jr_aload_n C0 0 dX0_picks_92 rfl rfl ?_
          refine jr_vI C0 (by decide) kd_58 (by decide) rfl (ct_X0_picksAllThatGive l G  _) mi_X0_picksAllThatGive wm_X0_97 ⟨Nat.le_of_ble_eq_true rfl, Nat.le_of_ble_eq_true rfl⟩ ⟨rfl, rfl⟩ (As := []) rfl (st := []) rfl (Nat.le_of_ble_eq_true rfl) dX0_picks_93 (fun r5 hr5 => ?_)
          refine jr_goto C0 dX0_picks_96 (tgt := 103) (by decide) ?_
          refine jr_sub [] rfl ?_
          exact B103 r5.1 hr5 _
        refine jr_aload_n C0 0 dX0_picks_104 rfl rfl ?_
        refine jr_iload_n C0 1 dX0_picks_105 rfl rfl ?_
        refine jr_vI C0 (by decide) kd_58 (by decide) rfl (ct_X0_picksByRank l G x1 h_x1 _) mi_X0_picksByRank wm_X0_103 ⟨Nat.le_of_ble_eq_true rfl, Nat.le_of_ble_eq_true rfl⟩ ⟨rfl, rfl⟩ (As := [.int (vr_I x1)]) rfl (st := []) rfl (Nat.le_of_ble_eq_true rfl) dX0_picks_106 (fun r6 hr6 => ?_)
        exact jr_iret C0 hr6 dX0_picks_109
      refine jr_aload_n C0 0 dX0_picks_10 rfl rfl ?_
      refine jr_getr C0 (by decide) kd_58 (by decide) rfl wx_X0 (i := 5) (by decide) wf_X0_19 (j := 60) rfl dX0_picks_11 ?_
      refine jr_iload_n C0 3 dX0_picks_14 rfl rfl ?_
      refine jr_aload_n C0 0 dX0_picks_15 rfl rfl ?_
      refine jr_iload_n C0 3 dX0_picks_16 rfl rfl ?_
      refine jr_iload_n C0 1 dX0_picks_17 rfl rfl ?_
      refine jr_aload_n C0 0 dX0_picks_18 rfl rfl ?_
      refine jr_getr C0 (by decide) kd_58 (by decide) rfl wx_X0 (i := 1) (by decide) wf_X0_32 (j := 8) rfl dX0_picks_19 ?_
      refine jr_geti C0 (by decide) kd_8 (by decide) rfl wx_X3 (i := 5) (by decide) wf_X0_67 rfl dX0_picks_22 ?_
      refine jr_gd (fun g7 => ?_)
      refine jr_vI C0 (by decide) kd_58 (by decide) rfl (ct_X0_gift l G x3 h_x3 x1 h_x1 (μ 8 5) g7 _) mi_X0_gift wm_X0_70 ⟨Nat.le_of_ble_eq_true rfl, Nat.le_of_ble_eq_true rfl⟩ ⟨rfl, rfl⟩ (As := [.int (vr_I x3), .int (vr_I x1), .int (vr_I (μ 8 5))]) rfl (st := [.int (vr_I x3), .ref (vr_ad G 60)]) rfl (Nat.le_of_ble_eq_true rfl) dX0_picks_25 (fun r8 hr8 => ?_)
      refine jr_gd (fun g9 => ?_)
      refine jr_iast C0 (by decide) kd_60 kl_60 g9 (j := x3.toNat) rfl dX0_picks_28 ?_
      refine jr_iload_n C0 2 dX0_picks_29 rfl rfl ?_
      refine jr_aload_n C0 0 dX0_picks_30 rfl rfl ?_
      refine jr_getr C0 (by decide) kd_58 (by decide) rfl wx_X0 (i := 5) (by decide) wf_X0_19 (j := 60) rfl dX0_picks_31 ?_
      refine jr_iload_n C0 3 dX0_picks_34 rfl rfl ?_
      refine jr_let (fun μ10 => ?_)
      refine jr_iald C0 (by decide) kd_60 kl_60 g9 (j := x3.toNat) rfl dX0_picks_35 ?_
      refine jr_iadd C0 dX0_picks_36 ?_
      refine jr_istore_n C0 dX0_picks_37 rfl (by decide) (lv' := [(2, .int (vr_I (x2 + (μ10 60 x3.toNat)))), (0, .ref (vr_ad G 58)), (1, .int (vr_I x1)), (3, .int (vr_I x3))]) rfl ?_
      refine jr_iinc C0 (q := 3) dX0_picks_38 rfl (by decide) (lv' := [(3, .int (vr_I (x3 + 1))), (2, .int (vr_I (x2 + (μ10 60 x3.toNat)))), (0, .ref (vr_ad G 58)), (1, .int (vr_I x1))]) rfl ?_
      refine jr_goto C0 dX0_picks_41 (tgt := 4) (by decide) ?_
      refine jr_gd (fun g11 => ?_)
      refine jr_gd (fun g12 => ?_)
      refine jr_sub [2, 3, 1, 0] rfl ?_
      exact ih4 x1 h_x1 (x2 + (μ10 60 x3.toNat)) g11 (x3 + 1) g12 _
  unfold fX0_picks
  refine jr_iconst C0 dX0_picks_0 ?_
  refine jr_istore_n C0 dX0_picks_1 rfl (by decide) (lv' := [(2, .int (vr_I 0)), (0, .ref (vr_ad G 58)), (1, .int (vr_I a0))]) rfl ?_
  refine jr_iconst C0 dX0_picks_2 ?_
  refine jr_istore_n C0 dX0_picks_3 rfl (by decide) (lv' := [(3, .int (vr_I 0)), (2, .int (vr_I 0)), (0, .ref (vr_ad G 58)), (1, .int (vr_I a0))]) rfl ?_
  refine jr_sub [2, 3, 1, 0] rfl ?_
  exact L4 9000 a0 h_a0 0 (⟨by decide, by decide⟩) 0 (⟨by decide, by decide⟩) _
theorem dX0_goal_0 : decode cX0_goal 0 = .ok (.aload_n 0, 1) := by decide +kernel
theorem dX0_goal_1 : decode cX0_goal 1 = .ok (.getfield 28, 3) := by decide +kernel
theorem dX0_goal_4 : decode cX0_goal 4 = .ok (.getfield 74, 3) := by decide +kernel
theorem dX0_goal_7 : decode cX0_goal 7 = .ok (.istore_n 1, 1) := by decide +kernel
theorem dX0_goal_8 : decode cX0_goal 8 = .ok (.aload_n 0, 1) := by decide +kernel
theorem dX0_goal_9 : decode cX0_goal 9 = .ok (.aload_n 0, 1) := by decide +kernel
theorem dX0_goal_10 : decode cX0_goal 10 = .ok (.iload_n 1, 1) := by decide +kernel
theorem dX0_goal_11 : decode cX0_goal 11 = .ok (.invokevirtual 77, 3) := by decide +kernel
theorem dX0_goal_14 : decode cX0_goal 14 = .ok (.iload_n 1, 1) := by decide +kernel
theorem dX0_goal_15 : decode cX0_goal 15 = .ok (.invokevirtual 80, 3) := by decide +kernel
theorem dX0_goal_18 : decode cX0_goal 18 = .ok (.istore_n 2, 1) := by decide +kernel
theorem dX0_goal_19 : decode cX0_goal 19 = .ok (.iload_n 2, 1) := by decide +kernel
theorem dX0_goal_20 : decode cX0_goal 20 = .ok (.aload_n 0, 1) := by decide +kernel
theorem dX0_goal_21 : decode cX0_goal 21 = .ok (.getfield 28, 3) := by decide +kernel
theorem dX0_goal_24 : decode cX0_goal 24 = .ok (.getfield 84, 3) := by decide +kernel
theorem dX0_goal_27 : decode cX0_goal 27 = .ok (.if_icmp .lt 5, 3) := by decide +kernel
theorem dX0_goal_30 : decode cX0_goal 30 = .ok (.iload_n 1, 1) := by decide +kernel
theorem dX0_goal_31 : decode cX0_goal 31 = .ok (.ireturn, 1) := by decide +kernel
theorem dX0_goal_32 : decode cX0_goal 32 = .ok (.iload_n 1, 1) := by decide +kernel
theorem dX0_goal_33 : decode cX0_goal 33 = .ok (.istore_n 3, 1) := by decide +kernel
theorem dX0_goal_34 : decode cX0_goal 34 = .ok (.iconst 0, 1) := by decide +kernel
theorem dX0_goal_35 : decode cX0_goal 35 = .ok (.istore 4, 2) := by decide +kernel
theorem dX0_goal_37 : decode cX0_goal 37 = .ok (.iload 4, 2) := by decide +kernel
theorem dX0_goal_39 : decode cX0_goal 39 = .ok (.bipush 8, 2) := by decide +kernel
theorem dX0_goal_41 : decode cX0_goal 41 = .ok (.if_icmp .ge 77, 3) := by decide +kernel
theorem dX0_goal_44 : decode cX0_goal 44 = .ok (.iload 4, 2) := by decide +kernel
theorem dX0_goal_46 : decode cX0_goal 46 = .ok (.aload_n 0, 1) := by decide +kernel
theorem dX0_goal_47 : decode cX0_goal 47 = .ok (.getfield 28, 3) := by decide +kernel
theorem dX0_goal_50 : decode cX0_goal 50 = .ok (.getfield 87, 3) := by decide +kernel
theorem dX0_goal_53 : decode cX0_goal 53 = .ok (.if_icmp .ge 65, 3) := by decide +kernel
theorem dX0_goal_56 : decode cX0_goal 56 = .ok (.aload_n 0, 1) := by decide +kernel
theorem dX0_goal_57 : decode cX0_goal 57 = .ok (.getfield 28, 3) := by decide +kernel
theorem dX0_goal_60 : decode cX0_goal 60 = .ok (.getfield 58, 3) := by decide +kernel
theorem dX0_goal_63 : decode cX0_goal 63 = .ok (.iload 4, 2) := by decide +kernel
theorem dX0_goal_65 : decode cX0_goal 65 = .ok (.iaload, 1) := by decide +kernel
theorem dX0_goal_66 : decode cX0_goal 66 = .ok (.istore 5, 2) := by decide +kernel
theorem dX0_goal_68 : decode cX0_goal 68 = .ok (.aload_n 0, 1) := by decide +kernel
theorem dX0_goal_69 : decode cX0_goal 69 = .ok (.aload_n 0, 1) := by decide +kernel
theorem dX0_goal_70 : decode cX0_goal 70 = .ok (.iload 5, 2) := by decide +kernel
theorem dX0_goal_72 : decode cX0_goal 72 = .ok (.invokevirtual 77, 3) := by decide +kernel
theorem dX0_goal_75 : decode cX0_goal 75 = .ok (.iload 5, 2) := by decide +kernel
theorem dX0_goal_77 : decode cX0_goal 77 = .ok (.invokevirtual 80, 3) := by decide +kernel
theorem dX0_goal_80 : decode cX0_goal 80 = .ok (.iload 5, 2) := by decide +kernel
theorem dX0_goal_82 : decode cX0_goal 82 = .ok (.iload_n 1, 1) := by decide +kernel
theorem dX0_goal_83 : decode cX0_goal 83 = .ok (.if_icmp .ne 7, 3) := by decide +kernel
theorem dX0_goal_86 : decode cX0_goal 86 = .ok (.iconst 0, 1) := by decide +kernel
theorem dX0_goal_87 : decode cX0_goal 87 = .ok (.goto 10, 3) := by decide +kernel
theorem dX0_goal_90 : decode cX0_goal 90 = .ok (.aload_n 0, 1) := by decide +kernel
theorem dX0_goal_91 : decode cX0_goal 91 = .ok (.getfield 32, 3) := by decide +kernel
theorem dX0_goal_94 : decode cX0_goal 94 = .ok (.getfield 90, 3) := by decide +kernel
theorem dX0_goal_97 : decode cX0_goal 97 = .ok (.isub, 1) := by decide +kernel
theorem dX0_goal_98 : decode cX0_goal 98 = .ok (.istore 6, 2) := by decide +kernel
theorem dX0_goal_100 : decode cX0_goal 100 = .ok (.iload 6, 2) := by decide +kernel
theorem dX0_goal_102 : decode cX0_goal 102 = .ok (.iload_n 2, 1) := by decide +kernel
theorem dX0_goal_103 : decode cX0_goal 103 = .ok (.if_icmp .le 9, 3) := by decide +kernel
theorem dX0_goal_106 : decode cX0_goal 106 = .ok (.iload 6, 2) := by decide +kernel
theorem dX0_goal_108 : decode cX0_goal 108 = .ok (.istore_n 2, 1) := by decide +kernel
theorem dX0_goal_109 : decode cX0_goal 109 = .ok (.iload 5, 2) := by decide +kernel
theorem dX0_goal_111 : decode cX0_goal 111 = .ok (.istore_n 3, 1) := by decide +kernel
theorem dX0_goal_112 : decode cX0_goal 112 = .ok (.iinc 4 1, 3) := by decide +kernel
theorem dX0_goal_115 : decode cX0_goal 115 = .ok (.goto (-78), 3) := by decide +kernel
theorem dX0_goal_118 : decode cX0_goal 118 = .ok (.iload_n 3, 1) := by decide +kernel
theorem dX0_goal_119 : decode cX0_goal 119 = .ok (.ireturn, 1) := by decide +kernel
def fX0_goal_B118 (x3 : Int) (μ : vr_M) : Option (Int × vr_M) :=
  some (x3, μ)
def fX0_goal_B112 (rc37 : Int → Int → Int → Int → vr_M → Option (Int × vr_M)) (x1 : Int) (x2 : Int) (x3 : Int) (x4 : Int) (μ : vr_M) : Option (Int × vr_M) :=
  vr_gd (vr_R (x4 + 1)) (rc37 x1 x2 x3 (x4 + 1) μ)
def fX0_goal_B97 (rc37 : Int → Int → Int → Int → vr_M → Option (Int × vr_M)) (x1 : Int) (x2 : Int) (x3 : Int) (x4 : Int) (x5 : Int) (y0 : Int) (y1 : Int) (μ : vr_M) : Option (Int × vr_M) :=
  vr_gd (vr_R (y0 - y1)) (if (y0 - y1) ≤ x2 then fX0_goal_B112 rc37 x1 x2 x3 x4 μ else fX0_goal_B112 rc37 x1 (y0 - y1) x5 x4 μ)
def fX0_goal_L37 : Nat → Int → Int → Int → Int → vr_M → Option (Int × vr_M)
  | 0, _, _, _, _, _ => none
  | n + 1, x1, x2, x3, x4, μ => if 8 ≤ x4 then fX0_goal_B118 x3 μ else vr_gd (vr_R (μ 52 5)) (if (μ 52 5) ≤ x4 then fX0_goal_B118 x3 μ else vr_gd (0 ≤ x4 ∧ x4 < 8) (vr_gd (vr_R (μ 54 x4.toNat)) ((fX0_picks (μ 54 x4.toNat) μ).bind (fun r6 => (fX0_giftOf r6.1 (μ 54 x4.toNat) r6.2).bind (fun r7 => if ¬ (μ 54 x4.toNat) = x1 then vr_gd (vr_R (r7.2 8 6)) (fX0_goal_B97 (fX0_goal_L37 n) x1 x2 x3 x4 (μ 54 x4.toNat) r7.1 (r7.2 8 6) r7.2) else fX0_goal_B97 (fX0_goal_L37 n) x1 x2 x3 x4 (μ 54 x4.toNat) r7.1 0 r7.2)))))
def fX0_goal (μ : vr_M) : Option (Int × vr_M) :=
  vr_gd (vr_R (μ 52 6)) ((fX0_picks (μ 52 6) μ).bind (fun r10 => (fX0_giftOf r10.1 (μ 52 6) r10.2).bind (fun r11 => vr_gd (vr_R (r11.2 52 7)) (if r11.1 < (r11.2 52 7) then fX0_goal_L37 9000 (μ 52 6) r11.1 (μ 52 6) 0 r11.2 else some (μ 52 6, r11.2)))))
set_option maxRecDepth 100000 in
set_option maxHeartbeats 4000000 in
theorem ct_X0_goal (l : Launch) (G : vr_G) (μ : vr_M) : vr_CI l yX0_goal cX0_goal 7 (some .int) ({ frames := 4, cells := 0, slots := 0, locals := 94 } : Room) G [.ref (vr_ad G 58)] μ (fX0_goal μ) := by
  refine vr_start (own := RX0) (by decide) rfl (Nat.le_of_ble_eq_true rfl) (fun p e s m args below meth c C0 => ?_)
  show vr_J p l e _ s m args below meth c 7 0 0 G (vr_Z (vr_QI G) G args s below) 0 [(0, .ref (vr_ad G 58))] [] μ _
  have B118 : ∀ (x3 : Int) (h_x3 : vr_R x3) (μ : vr_M), vr_J p l e ({ frames := 4, cells := 0, slots := 0, locals := 94 } : Room) s m args below meth c 7 0 0 G (vr_Z (vr_QI G) G args s below) 118 [(3, .int (vr_I x3))] [] μ (fX0_goal_B118 x3 μ) := by
    intro x3 h_x3 μ
    unfold fX0_goal_B118
    refine jr_iload_n C0 0 dX0_goal_118 rfl rfl ?_
    exact jr_iret C0 h_x3 dX0_goal_119
  have L37 : ∀ (n : Nat) (x1 : Int) (h_x1 : vr_R x1) (x2 : Int) (h_x2 : vr_R x2) (x3 : Int) (h_x3 : vr_R x3) (x4 : Int) (h_x4 : vr_R x4) (μ : vr_M), vr_J p l e ({ frames := 4, cells := 0, slots := 0, locals := 94 } : Room) s m args below meth c 7 0 0 G (vr_Z (vr_QI G) G args s below) 37 [(0, .ref (vr_ad G 58)), (1, .int (vr_I x1)), (2, .int (vr_I x2)), (3, .int (vr_I x3)), (4, .int (vr_I x4))] [] μ (fX0_goal_L37 n x1 x2 x3 x4 μ) := by
    intro n37
    induction n37 with
    | zero => intros; exact jr_none
    | succ n37 ih37 =>
      have B112 : ∀ (x1 : Int) (h_x1 : vr_R x1) (x2 : Int) (h_x2 : vr_R x2) (x3 : Int) (h_x3 : vr_R x3) (x4 : Int) (h_x4 : vr_R x4) (μ : vr_M), vr_J p l e ({ frames := 4, cells := 0, slots := 0, locals := 94 } : Room) s m args below meth c 7 0 0 G (vr_Z (vr_QI G) G args s below) 112 [(0, .ref (vr_ad G 58)), (1, .int (vr_I x1)), (2, .int (vr_I x2)), (3, .int (vr_I x3)), (4, .int (vr_I x4))] [] μ (fX0_goal_B112 (fX0_goal_L37 n37) x1 x2 x3 x4 μ) := by
        intro x1 h_x1 x2 h_x2 x3 h_x3 x4 h_x4 μ
        unfold fX0_goal_B112
        refine jr_iinc C0 (q := 4) dX0_goal_112 rfl (by decide) (lv' := [(4, .int (vr_I (x4 + 1))), (0, .ref (vr_ad G 58)), (1, .int (vr_I x1)), (2, .int (vr_I x2)), (3, .int (vr_I x3))]) rfl ?_
        refine jr_goto C0 dX0_goal_115 (tgt := 37) (by decide) ?_
        refine jr_gd (fun g1 => ?_)
        refine jr_sub [1, 2, 3, 4, 0] rfl ?_
        exact ih37 x1 h_x1 x2 h_x2 x3 h_x3 (x4 + 1) g1 _
      have B97 : ∀ (x1 : Int) (h_x1 : vr_R x1) (x2 : Int) (h_x2 : vr_R x2) (x3 : Int) (h_x3 : vr_R x3) (x4 : Int) (h_x4 : vr_R x4) (x5 : Int) (h_x5 : vr_R x5) (y0 : Int) (h_y0 : vr_R y0) (y1 : Int) (h_y1 : vr_R y1) (μ : vr_M), vr_J p l e ({ frames := 4, cells := 0, slots := 0, locals := 94 } : Room) s m args below meth c 7 0 0 G (vr_Z (vr_QI G) G args s below) 97 [(0, .ref (vr_ad G 58)), (1, .int (vr_I x1)), (2, .int (vr_I x2)), (3, .int (vr_I x3)), (4, .int (vr_I x4)), (5, .int (vr_I x5))] [.int (vr_I y1), .int (vr_I y0)] μ (fX0_goal_B97 (fX0_goal_L37 n37) x1 x2 x3 x4 x5 y0 y1 μ) := by
        intro x1 h_x1 x2 h_x2 x3 h_x3 x4 h_x4 x5 h_x5 y0 h_y0 y1 h_y1 μ
        unfold fX0_goal_B97
        refine jr_isub C0 dX0_goal_97 ?_
        refine jr_istore C0 dX0_goal_98 (by decide) (lv' := [(6, .int (vr_I (y0 - y1))), (0, .ref (vr_ad G 58)), (1, .int (vr_I x1)), (2, .int (vr_I x2)), (3, .int (vr_I x3)), (4, .int (vr_I x4)), (5, .int (vr_I x5))]) rfl ?_
        refine jr_iload C0 0 dX0_goal_100 rfl ?_
        refine jr_iload_n C0 3 dX0_goal_102 rfl rfl ?_
        refine jr_gd (fun g2 => ?_)
        refine jr_icmp_le C0 g2 h_x2 dX0_goal_103 (tgt := 112) (by decide) ?_ ?_
        · refine jr_sub [1, 2, 3, 4, 5] rfl ?_
          exact B112 x1 h_x1 x2 h_x2 x3 h_x3 x4 h_x4 _
        refine jr_iload C0 0 dX0_goal_106 rfl ?_
        refine jr_istore_n C0 dX0_goal_108 rfl (by decide) (lv' := [(2, .int (vr_I (y0 - y1))), (6, .int (vr_I (y0 - y1))), (0, .ref (vr_ad G 58)), (1, .int (vr_I x1)), (3, .int (vr_I x3)), (4, .int (vr_I x4)), (5, .int (vr_I x5))]) rfl ?_
        refine jr_iload C0 6 dX0_goal_109 rfl ?_
        refine jr_istore_n C0 dX0_goal_111 rfl (by decide) (lv' := [(3, .int (vr_I x5)), (2, .int (vr_I (y0 - y1))), (6, .int (vr_I (y0 - y1))), (0, .ref (vr_ad G 58)), (1, .int (vr_I x1)), (4, .int (vr_I x4)), (5, .int (vr_I x5))]) rfl ?_
        refine jr_sub [3, 4, 1, 0, 5] rfl ?_
        exact B112 x1 h_x1 (y0 - y1) g2 x5 h_x5 x4 h_x4 _
      intro x1 h_x1 x2 h_x2 x3 h_x3 x4 h_x4 μ
      rw [fX0_goal_L37.eq_2]
      refine jr_iload C0 4 dX0_goal_37 rfl ?_
      refine jr_bipush C0 dX0_goal_39 rfl ?_
      refine jr_icmp_ge C0 h_x4 (⟨by decide, by decide⟩) dX0_goal_41 (tgt := 118) (by decide) ?_ ?_
      · refine jr_sub [3] rfl ?_
        exact B118 x3 h_x3 _
      refine jr_iload C0 4 dX0_goal_44 rfl ?_
      refine jr_aload_n C0 0 dX0_goal_46 rfl rfl ?_
      refine jr_getr C0 (by decide) kd_58 (by decide) rfl wx_X0 (i := 0) (by decide) wf_X0_28 (j := 52) rfl dX0_goal_47 ?_
      refine jr_geti C0 (by decide) kd_52 (by decide) rfl wx_X2 (i := 5) (by decide) wf_X0_87 rfl dX0_goal_50 ?_
      refine jr_gd (fun g3 => ?_)
      refine jr_icmp_ge C0 h_x4 g3 dX0_goal_53 (tgt := 118) (by decide) ?_ ?_
      · refine jr_sub [3] rfl ?_
        exact B118 x3 h_x3 _
      refine jr_aload_n C0 0 dX0_goal_56 rfl rfl ?_
      refine jr_getr C0 (by decide) kd_58 (by decide) rfl wx_X0 (i := 0) (by decide) wf_X0_28 (j := 52) rfl dX0_goal_57 ?_
      refine jr_getr C0 (by decide) kd_52 (by decide) rfl wx_X2 (i := 1) (by decide) wf_X0_58 (j := 54) rfl dX0_goal_60 ?_
      refine jr_iload C0 4 dX0_goal_63 rfl ?_
      refine jr_gd (fun g4 => ?_)
      refine jr_iald C0 (by decide) kd_54 kl_54 g4 (j := x4.toNat) rfl dX0_goal_65 ?_
      refine jr_istore C0 dX0_goal_66 (by decide) (lv' := [(5, .int (vr_I (μ 54 x4.toNat))), (0, .ref (vr_ad G 58)), (1, .int (vr_I x1)), (2, .int (vr_I x2)), (3, .int (vr_I x3)), (4, .int (vr_I x4))]) rfl ?_
      refine jr_aload_n C0 1 dX0_goal_68 rfl rfl ?_
      refine jr_aload_n C0 1 dX0_goal_69 rfl rfl ?_
      refine jr_iload C0 0 dX0_goal_70 rfl ?_
      refine jr_gd (fun g5 => ?_)
      refine jr_vI C0 (by decide) kd_58 (by decide) rfl (ct_X0_picks l G (μ 54 x4.toNat) g5 _) mi_X0_picks wm_X0_77 ⟨Nat.le_of_ble_eq_true rfl, Nat.le_of_ble_eq_true rfl⟩ ⟨rfl, rfl⟩ (As := [.int (vr_I (μ 54 x4.toNat))]) rfl (st := [.ref (vr_ad G 58)]) rfl (Nat.le_of_ble_eq_true rfl) dX0_goal_72 (fun r6 hr6 => ?_)
      refine jr_iload C0 0 dX0_goal_75 rfl ?_
      refine jr_vI C0 (by decide) kd_58 (by decide) rfl (ct_X0_giftOf l G r6.1 hr6 (μ 54 x4.toNat) g5 _) mi_X0_giftOf wm_X0_80 ⟨Nat.le_of_ble_eq_true rfl, Nat.le_of_ble_eq_true rfl⟩ ⟨rfl, rfl⟩ (As := [.int (vr_I r6.1), .int (vr_I (μ 54 x4.toNat))]) rfl (st := []) rfl (Nat.le_of_ble_eq_true rfl) dX0_goal_77 (fun r7 hr7 => ?_)
      refine jr_iload C0 0 dX0_goal_80 rfl ?_
      refine jr_iload_n C0 2 dX0_goal_82 rfl rfl ?_
      refine jr_icmp_ne C0 g5 h_x1 dX0_goal_83 (tgt := 90) (by decide) ?_ ?_
      · refine jr_aload_n C0 1 dX0_goal_90 rfl rfl ?_
        refine jr_getr C0 (by decide) kd_58 (by decide) rfl wx_X0 (i := 1) (by decide) wf_X0_32 (j := 8) rfl dX0_goal_91 ?_
        refine jr_geti C0 (by decide) kd_8 (by decide) rfl wx_X3 (i := 6) (by decide) wf_X0_90 rfl dX0_goal_94 ?_
        refine jr_gd (fun g8 => ?_)
        refine jr_sub [1, 2, 3, 4, 5, 0] rfl ?_
        exact B97 x1 h_x1 x2 h_x2 x3 h_x3 x4 h_x4 (μ 54 x4.toNat) g5 r7.1 hr7 (r7.2 8 6) g8 _
      refine jr_iconst C0 dX0_goal_86 ?_
      refine jr_goto C0 dX0_goal_87 (tgt := 97) (by decide) ?_
      refine jr_sub [1, 2, 3, 4, 5, 0] rfl ?_
      exact B97 x1 h_x1 x2 h_x2 x3 h_x3 x4 h_x4 (μ 54 x4.toNat) g5 r7.1 hr7 0 (⟨by decide, by decide⟩) _
  unfold fX0_goal
  refine jr_aload_n C0 0 dX0_goal_0 rfl rfl ?_
  refine jr_getr C0 (by decide) kd_58 (by decide) rfl wx_X0 (i := 0) (by decide) wf_X0_28 (j := 52) rfl dX0_goal_1 ?_
  refine jr_geti C0 (by decide) kd_52 (by decide) rfl wx_X2 (i := 6) (by decide) wf_X0_74 rfl dX0_goal_4 ?_
  refine jr_istore_n C0 dX0_goal_7 rfl (by decide) (lv' := [(1, .int (vr_I (μ 52 6))), (0, .ref (vr_ad G 58))]) rfl ?_
  refine jr_aload_n C0 1 dX0_goal_8 rfl rfl ?_
  refine jr_aload_n C0 1 dX0_goal_9 rfl rfl ?_
  refine jr_iload_n C0 0 dX0_goal_10 rfl rfl ?_
  refine jr_gd (fun g9 => ?_)
  refine jr_vI C0 (by decide) kd_58 (by decide) rfl (ct_X0_picks l G (μ 52 6) g9 _) mi_X0_picks wm_X0_77 ⟨Nat.le_of_ble_eq_true rfl, Nat.le_of_ble_eq_true rfl⟩ ⟨rfl, rfl⟩ (As := [.int (vr_I (μ 52 6))]) rfl (st := [.ref (vr_ad G 58)]) rfl (Nat.le_of_ble_eq_true rfl) dX0_goal_11 (fun r10 hr10 => ?_)
  refine jr_iload_n C0 0 dX0_goal_14 rfl rfl ?_
  refine jr_vI C0 (by decide) kd_58 (by decide) rfl (ct_X0_giftOf l G r10.1 hr10 (μ 52 6) g9 _) mi_X0_giftOf wm_X0_80 ⟨Nat.le_of_ble_eq_true rfl, Nat.le_of_ble_eq_true rfl⟩ ⟨rfl, rfl⟩ (As := [.int (vr_I r10.1), .int (vr_I (μ 52 6))]) rfl (st := []) rfl (Nat.le_of_ble_eq_true rfl) dX0_goal_15 (fun r11 hr11 => ?_)
  refine jr_istore_n C0 dX0_goal_18 rfl (by decide) (lv' := [(2, .int (vr_I r11.1)), (1, .int (vr_I (μ 52 6))), (0, .ref (vr_ad G 58))]) rfl ?_
  refine jr_iload_n C0 0 dX0_goal_19 rfl rfl ?_
  refine jr_aload_n C0 2 dX0_goal_20 rfl rfl ?_
  refine jr_getr C0 (by decide) kd_58 (by decide) rfl wx_X0 (i := 0) (by decide) wf_X0_28 (j := 52) rfl dX0_goal_21 ?_
  refine jr_geti C0 (by decide) kd_52 (by decide) rfl wx_X2 (i := 7) (by decide) wf_X0_84 rfl dX0_goal_24 ?_
  refine jr_gd (fun g12 => ?_)
  refine jr_icmp_lt C0 hr11 g12 dX0_goal_27 (tgt := 32) (by decide) ?_ ?_
  · refine jr_iload_n C0 1 dX0_goal_32 rfl rfl ?_
    refine jr_istore_n C0 dX0_goal_33 rfl (by decide) (lv' := [(3, .int (vr_I (μ 52 6))), (2, .int (vr_I r11.1)), (1, .int (vr_I (μ 52 6))), (0, .ref (vr_ad G 58))]) rfl ?_
    refine jr_iconst C0 dX0_goal_34 ?_
    refine jr_istore C0 dX0_goal_35 (by decide) (lv' := [(4, .int (vr_I 0)), (3, .int (vr_I (μ 52 6))), (2, .int (vr_I r11.1)), (1, .int (vr_I (μ 52 6))), (0, .ref (vr_ad G 58))]) rfl ?_
    refine jr_sub [4, 3, 2, 1, 0] rfl ?_
    exact L37 9000 (μ 52 6) g9 r11.1 hr11 (μ 52 6) g9 0 (⟨by decide, by decide⟩) _
  refine jr_iload_n C0 1 dX0_goal_30 rfl rfl ?_
  exact jr_iret C0 g9 dX0_goal_31
theorem dX2_mark_0 : decode cX2_mark 0 = .ok (.aload_n 0, 1) := by decide +kernel
theorem dX2_mark_1 : decode cX2_mark 1 = .ok (.iload_n 1, 1) := by decide +kernel
theorem dX2_mark_2 : decode cX2_mark 2 = .ok (.invokevirtual 52, 3) := by decide +kernel
theorem dX2_mark_5 : decode cX2_mark 5 = .ok (.ifCond .eq 32, 3) := by decide +kernel
theorem dX2_mark_8 : decode cX2_mark 8 = .ok (.aload_n 0, 1) := by decide +kernel
theorem dX2_mark_9 : decode cX2_mark 9 = .ok (.getfield 18, 3) := by decide +kernel
theorem dX2_mark_12 : decode cX2_mark 12 = .ok (.iload_n 1, 1) := by decide +kernel
theorem dX2_mark_13 : decode cX2_mark 13 = .ok (.iaload, 1) := by decide +kernel
theorem dX2_mark_14 : decode cX2_mark 14 = .ok (.bipush 31, 2) := by decide +kernel
theorem dX2_mark_16 : decode cX2_mark 16 = .ok (.imul, 1) := by decide +kernel
theorem dX2_mark_17 : decode cX2_mark 17 = .ok (.aload_n 0, 1) := by decide +kernel
theorem dX2_mark_18 : decode cX2_mark 18 = .ok (.getfield 21, 3) := by decide +kernel
theorem dX2_mark_21 : decode cX2_mark 21 = .ok (.iload_n 1, 1) := by decide +kernel
theorem dX2_mark_22 : decode cX2_mark 22 = .ok (.iaload, 1) := by decide +kernel
theorem dX2_mark_23 : decode cX2_mark 23 = .ok (.iadd, 1) := by decide +kernel
theorem dX2_mark_24 : decode cX2_mark 24 = .ok (.bipush 10, 2) := by decide +kernel
theorem dX2_mark_26 : decode cX2_mark 26 = .ok (.imul, 1) := by decide +kernel
theorem dX2_mark_27 : decode cX2_mark 27 = .ok (.aload_n 0, 1) := by decide +kernel
theorem dX2_mark_28 : decode cX2_mark 28 = .ok (.getfield 24, 3) := by decide +kernel
theorem dX2_mark_31 : decode cX2_mark 31 = .ok (.iload_n 1, 1) := by decide +kernel
theorem dX2_mark_32 : decode cX2_mark 32 = .ok (.iaload, 1) := by decide +kernel
theorem dX2_mark_33 : decode cX2_mark 33 = .ok (.iadd, 1) := by decide +kernel
theorem dX2_mark_34 : decode cX2_mark 34 = .ok (.goto 4, 3) := by decide +kernel
theorem dX2_mark_37 : decode cX2_mark 37 = .ok (.iconst 0, 1) := by decide +kernel
theorem dX2_mark_38 : decode cX2_mark 38 = .ok (.ireturn, 1) := by decide +kernel
def fX2_mark_B38 (k : Nat) (y0 : Int) (μ : vr_M) : Option (Int × vr_M) :=
  some (y0, μ)
def fX2_mark (k : Nat) (a0 : Int) (μ : vr_M) : Option (Int × vr_M) :=
  (fX2_has k a0 μ).bind (fun r1 => if r1.1 = 0 then fX2_mark_B38 k 0 r1.2 else vr_gd (0 ≤ a0 ∧ a0 < 8) (vr_gd (vr_R (((((r1.2 (k + 3) a0.toNat) * 31) + (r1.2 (k + 4) a0.toNat)) * 10) + (r1.2 (k + 5) a0.toNat))) (fX2_mark_B38 k (((((r1.2 (k + 3) a0.toNat) * 31) + (r1.2 (k + 4) a0.toNat)) * 10) + (r1.2 (k + 5) a0.toNat)) r1.2)))
set_option maxRecDepth 100000 in
set_option maxHeartbeats 4000000 in
theorem ct_X2_mark (l : Launch) (G : vr_G) {k : Nat} (hk_k : k < 78) (hd_k : vr_kd k = 2) (a0 : Int) (h_a0 : vr_R a0) (μ : vr_M) : vr_CI l yX2_mark cX2_mark 2 (some .int) ({ frames := 1, cells := 0, slots := 0, locals := 21 } : Room) G [.ref (vr_ad G k), .int (vr_I a0)] μ (fX2_mark k a0 μ) := by
  refine vr_start (own := RX2) (by decide) rfl (Nat.le_of_ble_eq_true rfl) (fun p e s m args below meth c C0 => ?_)
  obtain ⟨q_k, ⟨d_k_1, d_k_2, d_k_3, d_k_4, d_k_5⟩, n_k_1, n_k_2, n_k_3, n_k_4, n_k_5⟩ := vr_hill hk_k hd_k
  show vr_J p l e _ s m args below meth c 2 0 0 G (vr_Z (vr_QI G) G args s below) 0 [(0, .ref (vr_ad G k)), (1, .int (vr_I a0))] [] μ _
  have B38 : ∀ (y0 : Int) (h_y0 : vr_R y0) (μ : vr_M), vr_J p l e ({ frames := 1, cells := 0, slots := 0, locals := 21 } : Room) s m args below meth c 2 0 0 G (vr_Z (vr_QI G) G args s below) 38 [] [.int (vr_I y0)] μ (fX2_mark_B38 k y0 μ) := by
    intro y0 h_y0 μ
    unfold fX2_mark_B38
    exact jr_iret C0 h_y0 dX2_mark_38
  unfold fX2_mark
  refine jr_aload_n C0 0 dX2_mark_0 rfl rfl ?_
  refine jr_iload_n C0 1 dX2_mark_1 rfl rfl ?_
  refine jr_vI C0 hk_k hd_k (by decide) rfl (ct_X2_has l G hk_k hd_k a0 h_a0 _) mi_X2_has wm_X2_52 ⟨Nat.le_of_ble_eq_true rfl, Nat.le_of_ble_eq_true rfl⟩ ⟨rfl, rfl⟩ (As := [.int (vr_I a0)]) rfl (st := []) rfl (Nat.le_of_ble_eq_true rfl) dX2_mark_2 (fun r1 hr1 => ?_)
  refine jr_if_eq C0 hr1 dX2_mark_5 (tgt := 37) (by decide) ?_ ?_
  · refine jr_iconst C0 dX2_mark_37 ?_
    refine jr_sub [] rfl ?_
    exact B38 0 (⟨by decide, by decide⟩) _
  refine jr_aload_n C0 0 dX2_mark_8 rfl rfl ?_
  refine jr_getr C0 hk_k hd_k (by decide) rfl wx_X2 (i := 2) (by decide) wf_X2_18 (j := (k + 3)) rfl dX2_mark_9 ?_
  refine jr_iload_n C0 1 dX2_mark_12 rfl rfl ?_
  refine jr_gd (fun g2 => ?_)
  refine jr_iald C0 (by omega) d_k_3 n_k_3 g2 (j := a0.toNat) rfl dX2_mark_13 ?_
  refine jr_bipush C0 dX2_mark_14 rfl ?_
  refine jr_imul C0 dX2_mark_16 ?_
  refine jr_aload_n C0 0 dX2_mark_17 rfl rfl ?_
  refine jr_getr C0 hk_k hd_k (by decide) rfl wx_X2 (i := 3) (by decide) wf_X2_21 (j := (k + 4)) rfl dX2_mark_18 ?_
  refine jr_iload_n C0 1 dX2_mark_21 rfl rfl ?_
  refine jr_iald C0 (by omega) d_k_4 n_k_4 g2 (j := a0.toNat) rfl dX2_mark_22 ?_
  refine jr_iadd C0 dX2_mark_23 ?_
  refine jr_bipush C0 dX2_mark_24 rfl ?_
  refine jr_imul C0 dX2_mark_26 ?_
  refine jr_aload_n C0 0 dX2_mark_27 rfl rfl ?_
  refine jr_getr C0 hk_k hd_k (by decide) rfl wx_X2 (i := 4) (by decide) wf_X2_24 (j := (k + 5)) rfl dX2_mark_28 ?_
  refine jr_iload_n C0 1 dX2_mark_31 rfl rfl ?_
  refine jr_iald C0 (by omega) d_k_5 n_k_5 g2 (j := a0.toNat) rfl dX2_mark_32 ?_
  refine jr_iadd C0 dX2_mark_33 ?_
  refine jr_goto C0 dX2_mark_34 (tgt := 38) (by decide) ?_
  refine jr_gd (fun g3 => ?_)
  refine jr_sub [] rfl ?_
  exact B38 (((((r1.2 (k + 3) a0.toNat) * 31) + (r1.2 (k + 4) a0.toNat)) * 10) + (r1.2 (k + 5) a0.toNat)) g3 _
theorem dX1_note_0 : decode cX1_note 0 = .ok (.iload_n 1, 1) := by decide +kernel
theorem dX1_note_1 : decode cX1_note 1 = .ok (.bipush 9, 2) := by decide +kernel
theorem dX1_note_3 : decode cX1_note 3 = .ok (.imul, 1) := by decide +kernel
theorem dX1_note_4 : decode cX1_note 4 = .ok (.istore_n 2, 1) := by decide +kernel
theorem dX1_note_5 : decode cX1_note 5 = .ok (.iload_n 2, 1) := by decide +kernel
theorem dX1_note_6 : decode cX1_note 6 = .ok (.ifCond .lt 15, 3) := by decide +kernel
theorem dX1_note_9 : decode cX1_note 9 = .ok (.iload_n 2, 1) := by decide +kernel
theorem dX1_note_10 : decode cX1_note 10 = .ok (.bipush 8, 2) := by decide +kernel
theorem dX1_note_12 : decode cX1_note 12 = .ok (.iadd, 1) := by decide +kernel
theorem dX1_note_13 : decode cX1_note 13 = .ok (.aload_n 0, 1) := by decide +kernel
theorem dX1_note_14 : decode cX1_note 14 = .ok (.getfield 11, 3) := by decide +kernel
theorem dX1_note_17 : decode cX1_note 17 = .ok (.arraylength, 1) := by decide +kernel
theorem dX1_note_18 : decode cX1_note 18 = .ok (.if_icmp .lt 4, 3) := by decide +kernel
theorem dX1_note_21 : decode cX1_note 21 = .ok (.return_, 1) := by decide +kernel
theorem dX1_note_22 : decode cX1_note 22 = .ok (.iconst 0, 1) := by decide +kernel
theorem dX1_note_23 : decode cX1_note 23 = .ok (.istore_n 3, 1) := by decide +kernel
theorem dX1_note_24 : decode cX1_note 24 = .ok (.iload_n 3, 1) := by decide +kernel
theorem dX1_note_25 : decode cX1_note 25 = .ok (.bipush 8, 2) := by decide +kernel
theorem dX1_note_27 : decode cX1_note 27 = .ok (.if_icmp .ge 28, 3) := by decide +kernel
theorem dX1_note_30 : decode cX1_note 30 = .ok (.aload_n 0, 1) := by decide +kernel
theorem dX1_note_31 : decode cX1_note 31 = .ok (.getfield 11, 3) := by decide +kernel
theorem dX1_note_34 : decode cX1_note 34 = .ok (.iload_n 2, 1) := by decide +kernel
theorem dX1_note_35 : decode cX1_note 35 = .ok (.iload_n 3, 1) := by decide +kernel
theorem dX1_note_36 : decode cX1_note 36 = .ok (.iadd, 1) := by decide +kernel
theorem dX1_note_37 : decode cX1_note 37 = .ok (.aload_n 0, 1) := by decide +kernel
theorem dX1_note_38 : decode cX1_note 38 = .ok (.getfield 18, 3) := by decide +kernel
theorem dX1_note_41 : decode cX1_note 41 = .ok (.getfield 59, 3) := by decide +kernel
theorem dX1_note_44 : decode cX1_note 44 = .ok (.iload_n 3, 1) := by decide +kernel
theorem dX1_note_45 : decode cX1_note 45 = .ok (.invokevirtual 63, 3) := by decide +kernel
theorem dX1_note_48 : decode cX1_note 48 = .ok (.iastore, 1) := by decide +kernel
theorem dX1_note_49 : decode cX1_note 49 = .ok (.iinc 3 1, 3) := by decide +kernel
theorem dX1_note_52 : decode cX1_note 52 = .ok (.goto (-28), 3) := by decide +kernel
theorem dX1_note_55 : decode cX1_note 55 = .ok (.aload_n 0, 1) := by decide +kernel
theorem dX1_note_56 : decode cX1_note 56 = .ok (.getfield 11, 3) := by decide +kernel
theorem dX1_note_59 : decode cX1_note 59 = .ok (.iload_n 2, 1) := by decide +kernel
theorem dX1_note_60 : decode cX1_note 60 = .ok (.bipush 8, 2) := by decide +kernel
theorem dX1_note_62 : decode cX1_note 62 = .ok (.iadd, 1) := by decide +kernel
theorem dX1_note_63 : decode cX1_note 63 = .ok (.aload_n 0, 1) := by decide +kernel
theorem dX1_note_64 : decode cX1_note 64 = .ok (.getfield 18, 3) := by decide +kernel
theorem dX1_note_67 : decode cX1_note 67 = .ok (.getfield 59, 3) := by decide +kernel
theorem dX1_note_70 : decode cX1_note 70 = .ok (.getfield 68, 3) := by decide +kernel
theorem dX1_note_73 : decode cX1_note 73 = .ok (.bipush 31, 2) := by decide +kernel
theorem dX1_note_75 : decode cX1_note 75 = .ok (.imul, 1) := by decide +kernel
theorem dX1_note_76 : decode cX1_note 76 = .ok (.aload_n 0, 1) := by decide +kernel
theorem dX1_note_77 : decode cX1_note 77 = .ok (.getfield 18, 3) := by decide +kernel
theorem dX1_note_80 : decode cX1_note 80 = .ok (.getfield 71, 3) := by decide +kernel
theorem dX1_note_83 : decode cX1_note 83 = .ok (.invokevirtual 75, 3) := by decide +kernel
theorem dX1_note_86 : decode cX1_note 86 = .ok (.iadd, 1) := by decide +kernel
theorem dX1_note_87 : decode cX1_note 87 = .ok (.iastore, 1) := by decide +kernel
theorem dX1_note_88 : decode cX1_note 88 = .ok (.return_, 1) := by decide +kernel
def fX1_note_B21 (μ : vr_M) : Option (Int × vr_M) :=
  some (0, μ)
def fX1_note_L24 : Nat → Int → Int → vr_M → Option (Int × vr_M)
  | 0, _, _, _ => none
  | n + 1, x2, x3, μ => if 8 ≤ x3 then (fX0_turn  μ).bind (fun r1 => vr_gd (0 ≤ (x2 + 8) ∧ (x2 + 8) < 1809) (some (0, vr_u r1.2 64 (x2 + 8).toNat (((μ 52 6) * 31) + r1.1)))) else (fX2_mark 52 x3 μ).bind (fun r3 => vr_gd (0 ≤ (x2 + x3) ∧ (x2 + x3) < 1809) (vr_gd (vr_R (x3 + 1)) ((fX1_note_L24 n) x2 (x3 + 1) (vr_u r3.2 64 (x2 + x3).toNat r3.1))))
def fX1_note (a0 : Int) (μ : vr_M) : Option (Int × vr_M) :=
  vr_gd (vr_R (a0 * 9)) (if (a0 * 9) < 0 then fX1_note_B21 μ else vr_gd (vr_R ((a0 * 9) + 8)) (if ((a0 * 9) + 8) < 1809 then fX1_note_L24 9000 (a0 * 9) 0 μ else fX1_note_B21 μ))
set_option maxRecDepth 100000 in
set_option maxHeartbeats 4000000 in
theorem ct_X1_note (l : Launch) (G : vr_G) (a0 : Int) (h_a0 : vr_R a0) (μ : vr_M) : vr_CV l yX1_note cX1_note 4 none ({ frames := 2, cells := 0, slots := 0, locals := 42 } : Room) G [.ref (vr_ad G 63), .int (vr_I a0)] μ (fX1_note a0 μ) := by
  refine vr_start (own := RX1) (by decide) rfl (Nat.le_of_ble_eq_true rfl) (fun p e s m args below meth c C0 => ?_)
  show vr_J p l e _ s m args below meth c 4 0 0 G (vr_Z (vr_QV G) G args s below) 0 [(0, .ref (vr_ad G 63)), (1, .int (vr_I a0))] [] μ _
  have B21 : ∀ (μ : vr_M), vr_J p l e ({ frames := 2, cells := 0, slots := 0, locals := 42 } : Room) s m args below meth c 4 0 0 G (vr_Z (vr_QV G) G args s below) 21 [] [] μ (fX1_note_B21 μ) := by
    intro μ
    unfold fX1_note_B21
    exact jr_vret C0 dX1_note_21
  have L24 : ∀ (n : Nat) (x2 : Int) (h_x2 : vr_R x2) (x3 : Int) (h_x3 : vr_R x3) (μ : vr_M), vr_J p l e ({ frames := 2, cells := 0, slots := 0, locals := 42 } : Room) s m args below meth c 4 0 0 G (vr_Z (vr_QV G) G args s below) 24 [(0, .ref (vr_ad G 63)), (2, .int (vr_I x2)), (3, .int (vr_I x3))] [] μ (fX1_note_L24 n x2 x3 μ) := by
    intro n24
    induction n24 with
    | zero => intros; exact jr_none
    | succ n24 ih24 =>
      intro x2 h_x2 x3 h_x3 μ
      rw [fX1_note_L24.eq_2]
      refine jr_iload_n C0 2 dX1_note_24 rfl rfl ?_
      refine jr_bipush C0 dX1_note_25 rfl ?_
      refine jr_icmp_ge C0 h_x3 (⟨by decide, by decide⟩) dX1_note_27 (tgt := 55) (by decide) ?_ ?_
      · refine jr_aload_n C0 0 dX1_note_55 rfl rfl ?_
        refine jr_getr C0 (by decide) kd_63 (by decide) rfl wx_X1 (i := 1) (by decide) wf_X1_11 (j := 64) rfl dX1_note_56 ?_
        refine jr_iload_n C0 1 dX1_note_59 rfl rfl ?_
        refine jr_bipush C0 dX1_note_60 rfl ?_
        refine jr_iadd C0 dX1_note_62 ?_
        refine jr_aload_n C0 0 dX1_note_63 rfl rfl ?_
        refine jr_getr C0 (by decide) kd_63 (by decide) rfl wx_X1 (i := 0) (by decide) wf_X1_18 (j := 51) rfl dX1_note_64 ?_
        refine jr_getr C0 (by decide) kd_51 (by decide) rfl wx_X7 (i := 2) (by decide) wf_X1_59 (j := 52) rfl dX1_note_67 ?_
        refine jr_geti C0 (by decide) kd_52 (by decide) rfl wx_X2 (i := 6) (by decide) wf_X1_68 rfl dX1_note_70 ?_
        refine jr_bipush C0 dX1_note_73 rfl ?_
        refine jr_imul C0 dX1_note_75 ?_
        refine jr_aload_n C0 0 dX1_note_76 rfl rfl ?_
        refine jr_getr C0 (by decide) kd_63 (by decide) rfl wx_X1 (i := 0) (by decide) wf_X1_18 (j := 51) rfl dX1_note_77 ?_
        refine jr_getr C0 (by decide) kd_51 (by decide) rfl wx_X7 (i := 3) (by decide) wf_X1_71 (j := 58) rfl dX1_note_80 ?_
        refine jr_vI C0 (by decide) kd_58 (by decide) rfl (ct_X0_turn l G  _) mi_X0_turn wm_X1_75 ⟨Nat.le_of_ble_eq_true rfl, Nat.le_of_ble_eq_true rfl⟩ ⟨rfl, rfl⟩ (As := []) rfl (st := [.int (vr_I ((μ 52 6) * 31)), .int (vr_I (x2 + 8)), .ref (vr_ad G 64)]) rfl (Nat.le_of_ble_eq_true rfl) dX1_note_83 (fun r1 hr1 => ?_)
        refine jr_iadd C0 dX1_note_86 ?_
        refine jr_gd (fun g2 => ?_)
        refine jr_iast C0 (by decide) kd_64 kl_64 g2 (j := (x2 + 8).toNat) rfl dX1_note_87 ?_
        exact jr_vret C0 dX1_note_88
      refine jr_aload_n C0 0 dX1_note_30 rfl rfl ?_
      refine jr_getr C0 (by decide) kd_63 (by decide) rfl wx_X1 (i := 1) (by decide) wf_X1_11 (j := 64) rfl dX1_note_31 ?_
      refine jr_iload_n C0 1 dX1_note_34 rfl rfl ?_
      refine jr_iload_n C0 2 dX1_note_35 rfl rfl ?_
      refine jr_iadd C0 dX1_note_36 ?_
      refine jr_aload_n C0 0 dX1_note_37 rfl rfl ?_
      refine jr_getr C0 (by decide) kd_63 (by decide) rfl wx_X1 (i := 0) (by decide) wf_X1_18 (j := 51) rfl dX1_note_38 ?_
      refine jr_getr C0 (by decide) kd_51 (by decide) rfl wx_X7 (i := 2) (by decide) wf_X1_59 (j := 52) rfl dX1_note_41 ?_
      refine jr_iload_n C0 2 dX1_note_44 rfl rfl ?_
      refine jr_vI C0 (by decide) kd_52 (by decide) rfl (ct_X2_mark l G (by decide) kd_52 x3 h_x3 _) mi_X2_mark wm_X1_63 ⟨Nat.le_of_ble_eq_true rfl, Nat.le_of_ble_eq_true rfl⟩ ⟨rfl, rfl⟩ (As := [.int (vr_I x3)]) rfl (st := [.int (vr_I (x2 + x3)), .ref (vr_ad G 64)]) rfl (Nat.le_of_ble_eq_true rfl) dX1_note_45 (fun r3 hr3 => ?_)
      refine jr_gd (fun g4 => ?_)
      refine jr_iast C0 (by decide) kd_64 kl_64 g4 (j := (x2 + x3).toNat) rfl dX1_note_48 ?_
      refine jr_iinc C0 (q := 2) dX1_note_49 rfl (by decide) (lv' := [(3, .int (vr_I (x3 + 1))), (0, .ref (vr_ad G 63)), (2, .int (vr_I x2))]) rfl ?_
      refine jr_goto C0 dX1_note_52 (tgt := 24) (by decide) ?_
      refine jr_gd (fun g5 => ?_)
      refine jr_sub [1, 2, 0] rfl ?_
      exact ih24 x2 h_x2 (x3 + 1) g5 _
  unfold fX1_note
  refine jr_iload_n C0 1 dX1_note_0 rfl rfl ?_
  refine jr_bipush C0 dX1_note_1 rfl ?_
  refine jr_imul C0 dX1_note_3 ?_
  refine jr_istore_n C0 dX1_note_4 rfl (by decide) (lv' := [(2, .int (vr_I (a0 * 9))), (0, .ref (vr_ad G 63)), (1, .int (vr_I a0))]) rfl ?_
  refine jr_iload_n C0 0 dX1_note_5 rfl rfl ?_
  refine jr_gd (fun g6 => ?_)
  refine jr_if_lt C0 g6 dX1_note_6 (tgt := 21) (by decide) ?_ ?_
  · refine jr_sub [] rfl ?_
    exact B21 _
  refine jr_iload_n C0 0 dX1_note_9 rfl rfl ?_
  refine jr_bipush C0 dX1_note_10 rfl ?_
  refine jr_iadd C0 dX1_note_12 ?_
  refine jr_aload_n C0 1 dX1_note_13 rfl rfl ?_
  refine jr_getr C0 (by decide) kd_63 (by decide) rfl wx_X1 (i := 1) (by decide) wf_X1_11 (j := 64) rfl dX1_note_14 ?_
  refine jr_alen C0 (by decide) kd_64 kl_64 dX1_note_17 ?_
  refine jr_gd (fun g7 => ?_)
  refine jr_icmp_lt C0 g7 (⟨by decide, by decide⟩) dX1_note_18 (tgt := 22) (by decide) ?_ ?_
  · refine jr_iconst C0 dX1_note_22 ?_
    refine jr_istore_n C0 dX1_note_23 rfl (by decide) (lv' := [(3, .int (vr_I 0)), (2, .int (vr_I (a0 * 9))), (0, .ref (vr_ad G 63)), (1, .int (vr_I a0))]) rfl ?_
    refine jr_sub [2, 1, 0] rfl ?_
    exact L24 9000 (a0 * 9) g6 0 (⟨by decide, by decide⟩) _
  refine jr_sub [] rfl ?_
  exact B21 _
theorem dX1_isSame_0 : decode cX1_isSame 0 = .ok (.iload_n 1, 1) := by decide +kernel
theorem dX1_isSame_1 : decode cX1_isSame 1 = .ok (.bipush 9, 2) := by decide +kernel
theorem dX1_isSame_3 : decode cX1_isSame 3 = .ok (.imul, 1) := by decide +kernel
theorem dX1_isSame_4 : decode cX1_isSame 4 = .ok (.istore_n 3, 1) := by decide +kernel
theorem dX1_isSame_5 : decode cX1_isSame 5 = .ok (.iload_n 2, 1) := by decide +kernel
theorem dX1_isSame_6 : decode cX1_isSame 6 = .ok (.bipush 9, 2) := by decide +kernel
theorem dX1_isSame_8 : decode cX1_isSame 8 = .ok (.imul, 1) := by decide +kernel
theorem dX1_isSame_9 : decode cX1_isSame 9 = .ok (.istore 4, 2) := by decide +kernel
theorem dX1_isSame_11 : decode cX1_isSame 11 = .ok (.iconst 0, 1) := by decide +kernel
theorem dX1_isSame_12 : decode cX1_isSame 12 = .ok (.istore 5, 2) := by decide +kernel
theorem dX1_isSame_14 : decode cX1_isSame 14 = .ok (.iload 5, 2) := by decide +kernel
theorem dX1_isSame_16 : decode cX1_isSame 16 = .ok (.bipush 9, 2) := by decide +kernel
theorem dX1_isSame_18 : decode cX1_isSame 18 = .ok (.if_icmp .ge 58, 3) := by decide +kernel
theorem dX1_isSame_21 : decode cX1_isSame 21 = .ok (.iload_n 3, 1) := by decide +kernel
theorem dX1_isSame_22 : decode cX1_isSame 22 = .ok (.iload 5, 2) := by decide +kernel
theorem dX1_isSame_24 : decode cX1_isSame 24 = .ok (.iadd, 1) := by decide +kernel
theorem dX1_isSame_25 : decode cX1_isSame 25 = .ok (.aload_n 0, 1) := by decide +kernel
theorem dX1_isSame_26 : decode cX1_isSame 26 = .ok (.getfield 11, 3) := by decide +kernel
theorem dX1_isSame_29 : decode cX1_isSame 29 = .ok (.arraylength, 1) := by decide +kernel
theorem dX1_isSame_30 : decode cX1_isSame 30 = .ok (.if_icmp .ge 38, 3) := by decide +kernel
theorem dX1_isSame_33 : decode cX1_isSame 33 = .ok (.iload 4, 2) := by decide +kernel
theorem dX1_isSame_35 : decode cX1_isSame 35 = .ok (.iload 5, 2) := by decide +kernel
theorem dX1_isSame_37 : decode cX1_isSame 37 = .ok (.iadd, 1) := by decide +kernel
theorem dX1_isSame_38 : decode cX1_isSame 38 = .ok (.aload_n 0, 1) := by decide +kernel
theorem dX1_isSame_39 : decode cX1_isSame 39 = .ok (.getfield 11, 3) := by decide +kernel
theorem dX1_isSame_42 : decode cX1_isSame 42 = .ok (.arraylength, 1) := by decide +kernel
theorem dX1_isSame_43 : decode cX1_isSame 43 = .ok (.if_icmp .ge 25, 3) := by decide +kernel
theorem dX1_isSame_46 : decode cX1_isSame 46 = .ok (.aload_n 0, 1) := by decide +kernel
theorem dX1_isSame_47 : decode cX1_isSame 47 = .ok (.getfield 11, 3) := by decide +kernel
theorem dX1_isSame_50 : decode cX1_isSame 50 = .ok (.iload_n 3, 1) := by decide +kernel
theorem dX1_isSame_51 : decode cX1_isSame 51 = .ok (.iload 5, 2) := by decide +kernel
theorem dX1_isSame_53 : decode cX1_isSame 53 = .ok (.iadd, 1) := by decide +kernel
theorem dX1_isSame_54 : decode cX1_isSame 54 = .ok (.iaload, 1) := by decide +kernel
theorem dX1_isSame_55 : decode cX1_isSame 55 = .ok (.aload_n 0, 1) := by decide +kernel
theorem dX1_isSame_56 : decode cX1_isSame 56 = .ok (.getfield 11, 3) := by decide +kernel
theorem dX1_isSame_59 : decode cX1_isSame 59 = .ok (.iload 4, 2) := by decide +kernel
theorem dX1_isSame_61 : decode cX1_isSame 61 = .ok (.iload 5, 2) := by decide +kernel
theorem dX1_isSame_63 : decode cX1_isSame 63 = .ok (.iadd, 1) := by decide +kernel
theorem dX1_isSame_64 : decode cX1_isSame 64 = .ok (.iaload, 1) := by decide +kernel
theorem dX1_isSame_65 : decode cX1_isSame 65 = .ok (.if_icmp .eq 5, 3) := by decide +kernel
theorem dX1_isSame_68 : decode cX1_isSame 68 = .ok (.iconst 0, 1) := by decide +kernel
theorem dX1_isSame_69 : decode cX1_isSame 69 = .ok (.ireturn, 1) := by decide +kernel
theorem dX1_isSame_70 : decode cX1_isSame 70 = .ok (.iinc 5 1, 3) := by decide +kernel
theorem dX1_isSame_73 : decode cX1_isSame 73 = .ok (.goto (-59), 3) := by decide +kernel
theorem dX1_isSame_76 : decode cX1_isSame 76 = .ok (.iconst 1, 1) := by decide +kernel
theorem dX1_isSame_77 : decode cX1_isSame 77 = .ok (.ireturn, 1) := by decide +kernel
def fX1_isSame_B68 (μ : vr_M) : Option (Int × vr_M) :=
  some (0, μ)
def fX1_isSame_L14 : Nat → Int → Int → Int → vr_M → Option (Int × vr_M)
  | 0, _, _, _, _ => none
  | n + 1, x3, x4, x5, μ => if 9 ≤ x5 then some (1, μ) else vr_gd (vr_R (x3 + x5)) (if 1809 ≤ (x3 + x5) then fX1_isSame_B68 μ else vr_gd (vr_R (x4 + x5)) (if 1809 ≤ (x4 + x5) then fX1_isSame_B68 μ else vr_gd (0 ≤ (x3 + x5) ∧ (x3 + x5) < 1809) (vr_gd (0 ≤ (x4 + x5) ∧ (x4 + x5) < 1809) (vr_gd (vr_R (μ 64 (x3 + x5).toNat)) (vr_gd (vr_R (μ 64 (x4 + x5).toNat)) (if (μ 64 (x3 + x5).toNat) = (μ 64 (x4 + x5).toNat) then vr_gd (vr_R (x5 + 1)) ((fX1_isSame_L14 n) x3 x4 (x5 + 1) μ) else fX1_isSame_B68 μ))))))
def fX1_isSame (a0 : Int) (a1 : Int) (μ : vr_M) : Option (Int × vr_M) :=
  vr_gd (vr_R (a0 * 9)) (vr_gd (vr_R (a1 * 9)) (fX1_isSame_L14 9000 (a0 * 9) (a1 * 9) 0 μ))
set_option maxRecDepth 100000 in
set_option maxHeartbeats 4000000 in
theorem ct_X1_isSame (l : Launch) (G : vr_G) (a0 : Int) (h_a0 : vr_R a0) (a1 : Int) (h_a1 : vr_R a1) (μ : vr_M) : vr_CI l yX1_isSame cX1_isSame 6 (some .boolean) ({ frames := 0, cells := 0, slots := 0, locals := 0 } : Room) G [.ref (vr_ad G 63), .int (vr_I a0), .int (vr_I a1)] μ (fX1_isSame a0 a1 μ) := by
  refine vr_start (own := RX1) (by decide) rfl (Nat.le_of_ble_eq_true rfl) (fun p e s m args below meth c C0 => ?_)
  show vr_J p l e _ s m args below meth c 6 0 0 G (vr_Z (vr_QI G) G args s below) 0 [(0, .ref (vr_ad G 63)), (1, .int (vr_I a0)), (2, .int (vr_I a1))] [] μ _
  have B68 : ∀ (μ : vr_M), vr_J p l e ({ frames := 0, cells := 0, slots := 0, locals := 0 } : Room) s m args below meth c 6 0 0 G (vr_Z (vr_QI G) G args s below) 68 [] [] μ (fX1_isSame_B68 μ) := by
    intro μ
    unfold fX1_isSame_B68
    refine jr_iconst C0 dX1_isSame_68 ?_
    exact jr_zret C0 (⟨by decide, by decide⟩) (vr_nz (Or.inl rfl)) dX1_isSame_69
  have L14 : ∀ (n : Nat) (x3 : Int) (h_x3 : vr_R x3) (x4 : Int) (h_x4 : vr_R x4) (x5 : Int) (h_x5 : vr_R x5) (μ : vr_M), vr_J p l e ({ frames := 0, cells := 0, slots := 0, locals := 0 } : Room) s m args below meth c 6 0 0 G (vr_Z (vr_QI G) G args s below) 14 [(0, .ref (vr_ad G 63)), (3, .int (vr_I x3)), (4, .int (vr_I x4)), (5, .int (vr_I x5))] [] μ (fX1_isSame_L14 n x3 x4 x5 μ) := by
    intro n14
    induction n14 with
    | zero => intros; exact jr_none
    | succ n14 ih14 =>
      intro x3 h_x3 x4 h_x4 x5 h_x5 μ
      rw [fX1_isSame_L14.eq_2]
      refine jr_iload C0 3 dX1_isSame_14 rfl ?_
      refine jr_bipush C0 dX1_isSame_16 rfl ?_
      refine jr_icmp_ge C0 h_x5 (⟨by decide, by decide⟩) dX1_isSame_18 (tgt := 76) (by decide) ?_ ?_
      · refine jr_iconst C0 dX1_isSame_76 ?_
        exact jr_zret C0 (⟨by decide, by decide⟩) (vr_nz (Or.inr rfl)) dX1_isSame_77
      refine jr_iload_n C0 1 dX1_isSame_21 rfl rfl ?_
      refine jr_iload C0 3 dX1_isSame_22 rfl ?_
      refine jr_iadd C0 dX1_isSame_24 ?_
      refine jr_aload_n C0 0 dX1_isSame_25 rfl rfl ?_
      refine jr_getr C0 (by decide) kd_63 (by decide) rfl wx_X1 (i := 1) (by decide) wf_X1_11 (j := 64) rfl dX1_isSame_26 ?_
      refine jr_alen C0 (by decide) kd_64 kl_64 dX1_isSame_29 ?_
      refine jr_gd (fun g1 => ?_)
      refine jr_icmp_ge C0 g1 (⟨by decide, by decide⟩) dX1_isSame_30 (tgt := 68) (by decide) ?_ ?_
      · refine jr_sub [] rfl ?_
        exact B68 _
      refine jr_iload C0 2 dX1_isSame_33 rfl ?_
      refine jr_iload C0 3 dX1_isSame_35 rfl ?_
      refine jr_iadd C0 dX1_isSame_37 ?_
      refine jr_aload_n C0 0 dX1_isSame_38 rfl rfl ?_
      refine jr_getr C0 (by decide) kd_63 (by decide) rfl wx_X1 (i := 1) (by decide) wf_X1_11 (j := 64) rfl dX1_isSame_39 ?_
      refine jr_alen C0 (by decide) kd_64 kl_64 dX1_isSame_42 ?_
      refine jr_gd (fun g2 => ?_)
      refine jr_icmp_ge C0 g2 (⟨by decide, by decide⟩) dX1_isSame_43 (tgt := 68) (by decide) ?_ ?_
      · refine jr_sub [] rfl ?_
        exact B68 _
      refine jr_aload_n C0 0 dX1_isSame_46 rfl rfl ?_
      refine jr_getr C0 (by decide) kd_63 (by decide) rfl wx_X1 (i := 1) (by decide) wf_X1_11 (j := 64) rfl dX1_isSame_47 ?_
      refine jr_iload_n C0 1 dX1_isSame_50 rfl rfl ?_
      refine jr_iload C0 3 dX1_isSame_51 rfl ?_
      refine jr_iadd C0 dX1_isSame_53 ?_
      refine jr_gd (fun g3 => ?_)
      refine jr_iald C0 (by decide) kd_64 kl_64 g3 (j := (x3 + x5).toNat) rfl dX1_isSame_54 ?_
      refine jr_aload_n C0 0 dX1_isSame_55 rfl rfl ?_
      refine jr_getr C0 (by decide) kd_63 (by decide) rfl wx_X1 (i := 1) (by decide) wf_X1_11 (j := 64) rfl dX1_isSame_56 ?_
      refine jr_iload C0 2 dX1_isSame_59 rfl ?_
      refine jr_iload C0 3 dX1_isSame_61 rfl ?_
      refine jr_iadd C0 dX1_isSame_63 ?_
      refine jr_gd (fun g4 => ?_)
      refine jr_iald C0 (by decide) kd_64 kl_64 g4 (j := (x4 + x5).toNat) rfl dX1_isSame_64 ?_
      refine jr_gd (fun g5 => ?_)
      refine jr_gd (fun g6 => ?_)
      refine jr_icmp_eq C0 g5 g6 dX1_isSame_65 (tgt := 70) (by decide) ?_ ?_
      · refine jr_iinc C0 (q := 3) dX1_isSame_70 rfl (by decide) (lv' := [(5, .int (vr_I (x5 + 1))), (0, .ref (vr_ad G 63)), (3, .int (vr_I x3)), (4, .int (vr_I x4))]) rfl ?_
        refine jr_goto C0 dX1_isSame_73 (tgt := 14) (by decide) ?_
        refine jr_gd (fun g7 => ?_)
        refine jr_sub [1, 2, 3, 0] rfl ?_
        exact ih14 x3 h_x3 x4 h_x4 (x5 + 1) g7 _
      refine jr_sub [] rfl ?_
      exact B68 _
  unfold fX1_isSame
  refine jr_iload_n C0 1 dX1_isSame_0 rfl rfl ?_
  refine jr_bipush C0 dX1_isSame_1 rfl ?_
  refine jr_imul C0 dX1_isSame_3 ?_
  refine jr_istore_n C0 dX1_isSame_4 rfl (by decide) (lv' := [(3, .int (vr_I (a0 * 9))), (0, .ref (vr_ad G 63)), (1, .int (vr_I a0)), (2, .int (vr_I a1))]) rfl ?_
  refine jr_iload_n C0 3 dX1_isSame_5 rfl rfl ?_
  refine jr_bipush C0 dX1_isSame_6 rfl ?_
  refine jr_imul C0 dX1_isSame_8 ?_
  refine jr_istore C0 dX1_isSame_9 (by decide) (lv' := [(4, .int (vr_I (a1 * 9))), (3, .int (vr_I (a0 * 9))), (0, .ref (vr_ad G 63)), (1, .int (vr_I a0)), (2, .int (vr_I a1))]) rfl ?_
  refine jr_iconst C0 dX1_isSame_11 ?_
  refine jr_istore C0 dX1_isSame_12 (by decide) (lv' := [(5, .int (vr_I 0)), (4, .int (vr_I (a1 * 9))), (3, .int (vr_I (a0 * 9))), (0, .ref (vr_ad G 63)), (1, .int (vr_I a0)), (2, .int (vr_I a1))]) rfl ?_
  refine jr_gd (fun g8 => ?_)
  refine jr_gd (fun g9 => ?_)
  refine jr_sub [3, 2, 1, 0] rfl ?_
  exact L14 9000 (a0 * 9) g8 (a1 * 9) g9 0 (⟨by decide, by decide⟩) _
theorem dX1_firstLike_0 : decode cX1_firstLike 0 = .ok (.iconst 0, 1) := by decide +kernel
theorem dX1_firstLike_1 : decode cX1_firstLike 1 = .ok (.istore_n 2, 1) := by decide +kernel
theorem dX1_firstLike_2 : decode cX1_firstLike 2 = .ok (.iload_n 2, 1) := by decide +kernel
theorem dX1_firstLike_3 : decode cX1_firstLike 3 = .ok (.iload_n 1, 1) := by decide +kernel
theorem dX1_firstLike_4 : decode cX1_firstLike 4 = .ok (.if_icmp .ge 20, 3) := by decide +kernel
theorem dX1_firstLike_7 : decode cX1_firstLike 7 = .ok (.aload_n 0, 1) := by decide +kernel
theorem dX1_firstLike_8 : decode cX1_firstLike 8 = .ok (.iload_n 2, 1) := by decide +kernel
theorem dX1_firstLike_9 : decode cX1_firstLike 9 = .ok (.iload_n 1, 1) := by decide +kernel
theorem dX1_firstLike_10 : decode cX1_firstLike 10 = .ok (.invokevirtual 46, 3) := by decide +kernel
theorem dX1_firstLike_13 : decode cX1_firstLike 13 = .ok (.ifCond .eq 5, 3) := by decide +kernel
theorem dX1_firstLike_16 : decode cX1_firstLike 16 = .ok (.iload_n 2, 1) := by decide +kernel
theorem dX1_firstLike_17 : decode cX1_firstLike 17 = .ok (.ireturn, 1) := by decide +kernel
theorem dX1_firstLike_18 : decode cX1_firstLike 18 = .ok (.iinc 2 1, 3) := by decide +kernel
theorem dX1_firstLike_21 : decode cX1_firstLike 21 = .ok (.goto (-19), 3) := by decide +kernel
theorem dX1_firstLike_24 : decode cX1_firstLike 24 = .ok (.iload_n 1, 1) := by decide +kernel
theorem dX1_firstLike_25 : decode cX1_firstLike 25 = .ok (.ireturn, 1) := by decide +kernel
def fX1_firstLike_L2 : Nat → Int → Int → vr_M → Option (Int × vr_M)
  | 0, _, _, _ => none
  | n + 1, x1, x2, μ => if x1 ≤ x2 then some (x1, μ) else (fX1_isSame x2 x1 μ).bind (fun r1 => if r1.1 = 0 then vr_gd (vr_R (x2 + 1)) ((fX1_firstLike_L2 n) x1 (x2 + 1) r1.2) else some (x2, r1.2))
def fX1_firstLike (a0 : Int) (μ : vr_M) : Option (Int × vr_M) :=
  fX1_firstLike_L2 9000 a0 0 μ
set_option maxRecDepth 100000 in
set_option maxHeartbeats 4000000 in
theorem ct_X1_firstLike (l : Launch) (G : vr_G) (a0 : Int) (h_a0 : vr_R a0) (μ : vr_M) : vr_CI l yX1_firstLike cX1_firstLike 3 (some .int) ({ frames := 1, cells := 0, slots := 0, locals := 25 } : Room) G [.ref (vr_ad G 63), .int (vr_I a0)] μ (fX1_firstLike a0 μ) := by
  refine vr_start (own := RX1) (by decide) rfl (Nat.le_of_ble_eq_true rfl) (fun p e s m args below meth c C0 => ?_)
  show vr_J p l e _ s m args below meth c 3 0 0 G (vr_Z (vr_QI G) G args s below) 0 [(0, .ref (vr_ad G 63)), (1, .int (vr_I a0))] [] μ _
  have L2 : ∀ (n : Nat) (x1 : Int) (h_x1 : vr_R x1) (x2 : Int) (h_x2 : vr_R x2) (μ : vr_M), vr_J p l e ({ frames := 1, cells := 0, slots := 0, locals := 25 } : Room) s m args below meth c 3 0 0 G (vr_Z (vr_QI G) G args s below) 2 [(0, .ref (vr_ad G 63)), (1, .int (vr_I x1)), (2, .int (vr_I x2))] [] μ (fX1_firstLike_L2 n x1 x2 μ) := by
    intro n2
    induction n2 with
    | zero => intros; exact jr_none
    | succ n2 ih2 =>
      intro x1 h_x1 x2 h_x2 μ
      rw [fX1_firstLike_L2.eq_2]
      refine jr_iload_n C0 2 dX1_firstLike_2 rfl rfl ?_
      refine jr_iload_n C0 1 dX1_firstLike_3 rfl rfl ?_
      refine jr_icmp_ge C0 h_x2 h_x1 dX1_firstLike_4 (tgt := 24) (by decide) ?_ ?_
      · refine jr_iload_n C0 1 dX1_firstLike_24 rfl rfl ?_
        exact jr_iret C0 h_x1 dX1_firstLike_25
      refine jr_aload_n C0 0 dX1_firstLike_7 rfl rfl ?_
      refine jr_iload_n C0 2 dX1_firstLike_8 rfl rfl ?_
      refine jr_iload_n C0 1 dX1_firstLike_9 rfl rfl ?_
      refine jr_vI C0 (by decide) kd_63 (by decide) rfl (ct_X1_isSame l G x2 h_x2 x1 h_x1 _) mi_X1_isSame wm_X1_46 ⟨Nat.le_of_ble_eq_true rfl, Nat.le_of_ble_eq_true rfl⟩ ⟨rfl, rfl⟩ (As := [.int (vr_I x2), .int (vr_I x1)]) rfl (st := []) rfl (Nat.le_of_ble_eq_true rfl) dX1_firstLike_10 (fun r1 hr1 => ?_)
      refine jr_if_eq C0 hr1 dX1_firstLike_13 (tgt := 18) (by decide) ?_ ?_
      · refine jr_iinc C0 (q := 2) dX1_firstLike_18 rfl (by decide) (lv' := [(2, .int (vr_I (x2 + 1))), (0, .ref (vr_ad G 63)), (1, .int (vr_I x1))]) rfl ?_
        refine jr_goto C0 dX1_firstLike_21 (tgt := 2) (by decide) ?_
        refine jr_gd (fun g2 => ?_)
        refine jr_sub [1, 2, 0] rfl ?_
        exact ih2 x1 h_x1 (x2 + 1) g2 _
      refine jr_iload_n C0 2 dX1_firstLike_16 rfl rfl ?_
      exact jr_iret C0 h_x2 dX1_firstLike_17
  unfold fX1_firstLike
  refine jr_iconst C0 dX1_firstLike_0 ?_
  refine jr_istore_n C0 dX1_firstLike_1 rfl (by decide) (lv' := [(2, .int (vr_I 0)), (0, .ref (vr_ad G 63)), (1, .int (vr_I a0))]) rfl ?_
  refine jr_sub [1, 2, 0] rfl ?_
  exact L2 9000 a0 h_a0 0 (⟨by decide, by decide⟩) _
theorem dX2_pass_0 : decode cX2_pass 0 = .ok (.aload_n 0, 1) := by decide +kernel
theorem dX2_pass_1 : decode cX2_pass 1 = .ok (.iload_n 2, 1) := by decide +kernel
theorem dX2_pass_2 : decode cX2_pass 2 = .ok (.putfield 34, 3) := by decide +kernel
theorem dX2_pass_5 : decode cX2_pass 5 = .ok (.iconst 0, 1) := by decide +kernel
theorem dX2_pass_6 : decode cX2_pass 6 = .ok (.istore 4, 2) := by decide +kernel
theorem dX2_pass_8 : decode cX2_pass 8 = .ok (.iload 4, 2) := by decide +kernel
theorem dX2_pass_10 : decode cX2_pass 10 = .ok (.bipush 8, 2) := by decide +kernel
theorem dX2_pass_12 : decode cX2_pass 12 = .ok (.if_icmp .ge 105, 3) := by decide +kernel
theorem dX2_pass_15 : decode cX2_pass 15 = .ok (.iload 4, 2) := by decide +kernel
theorem dX2_pass_17 : decode cX2_pass 17 = .ok (.aload_n 0, 1) := by decide +kernel
theorem dX2_pass_18 : decode cX2_pass 18 = .ok (.getfield 31, 3) := by decide +kernel
theorem dX2_pass_21 : decode cX2_pass 21 = .ok (.if_icmp .ge 96, 3) := by decide +kernel
theorem dX2_pass_24 : decode cX2_pass 24 = .ok (.iload_n 1, 1) := by decide +kernel
theorem dX2_pass_25 : decode cX2_pass 25 = .ok (.iload 4, 2) := by decide +kernel
theorem dX2_pass_27 : decode cX2_pass 27 = .ok (.ishr, 1) := by decide +kernel
theorem dX2_pass_28 : decode cX2_pass 28 = .ok (.iconst 1, 1) := by decide +kernel
theorem dX2_pass_29 : decode cX2_pass 29 = .ok (.iand, 1) := by decide +kernel
theorem dX2_pass_30 : decode cX2_pass 30 = .ok (.ifCond .eq 31, 3) := by decide +kernel
theorem dX2_pass_33 : decode cX2_pass 33 = .ok (.aload_n 0, 1) := by decide +kernel
theorem dX2_pass_34 : decode cX2_pass 34 = .ok (.getfield 24, 3) := by decide +kernel
theorem dX2_pass_37 : decode cX2_pass 37 = .ok (.iload 4, 2) := by decide +kernel
theorem dX2_pass_39 : decode cX2_pass 39 = .ok (.aload_n 3, 1) := by decide +kernel
theorem dX2_pass_40 : decode cX2_pass 40 = .ok (.aload_n 0, 1) := by decide +kernel
theorem dX2_pass_41 : decode cX2_pass 41 = .ok (.iload 4, 2) := by decide +kernel
theorem dX2_pass_43 : decode cX2_pass 43 = .ok (.invokevirtual 40, 3) := by decide +kernel
theorem dX2_pass_46 : decode cX2_pass 46 = .ok (.iastore, 1) := by decide +kernel
theorem dX2_pass_47 : decode cX2_pass 47 = .ok (.aload_n 0, 1) := by decide +kernel
theorem dX2_pass_48 : decode cX2_pass 48 = .ok (.getfield 18, 3) := by decide +kernel
theorem dX2_pass_51 : decode cX2_pass 51 = .ok (.iload 4, 2) := by decide +kernel
theorem dX2_pass_53 : decode cX2_pass 53 = .ok (.dup2, 1) := by decide +kernel
theorem dX2_pass_54 : decode cX2_pass 54 = .ok (.iaload, 1) := by decide +kernel
theorem dX2_pass_55 : decode cX2_pass 55 = .ok (.iconst 1, 1) := by decide +kernel
theorem dX2_pass_56 : decode cX2_pass 56 = .ok (.iadd, 1) := by decide +kernel
theorem dX2_pass_57 : decode cX2_pass 57 = .ok (.iastore, 1) := by decide +kernel
theorem dX2_pass_58 : decode cX2_pass 58 = .ok (.goto 53, 3) := by decide +kernel
theorem dX2_pass_61 : decode cX2_pass 61 = .ok (.aload_n 0, 1) := by decide +kernel
theorem dX2_pass_62 : decode cX2_pass 62 = .ok (.getfield 18, 3) := by decide +kernel
theorem dX2_pass_65 : decode cX2_pass 65 = .ok (.iload 4, 2) := by decide +kernel
theorem dX2_pass_67 : decode cX2_pass 67 = .ok (.iaload, 1) := by decide +kernel
theorem dX2_pass_68 : decode cX2_pass 68 = .ok (.ifCond .le 22, 3) := by decide +kernel
theorem dX2_pass_71 : decode cX2_pass 71 = .ok (.aload_n 0, 1) := by decide +kernel
theorem dX2_pass_72 : decode cX2_pass 72 = .ok (.getfield 18, 3) := by decide +kernel
theorem dX2_pass_75 : decode cX2_pass 75 = .ok (.iload 4, 2) := by decide +kernel
theorem dX2_pass_77 : decode cX2_pass 77 = .ok (.iconst 0, 1) := by decide +kernel
theorem dX2_pass_78 : decode cX2_pass 78 = .ok (.iastore, 1) := by decide +kernel
theorem dX2_pass_79 : decode cX2_pass 79 = .ok (.aload_n 0, 1) := by decide +kernel
theorem dX2_pass_80 : decode cX2_pass 80 = .ok (.getfield 21, 3) := by decide +kernel
theorem dX2_pass_83 : decode cX2_pass 83 = .ok (.iload 4, 2) := by decide +kernel
theorem dX2_pass_85 : decode cX2_pass 85 = .ok (.iconst 0, 1) := by decide +kernel
theorem dX2_pass_86 : decode cX2_pass 86 = .ok (.iastore, 1) := by decide +kernel
theorem dX2_pass_87 : decode cX2_pass 87 = .ok (.goto 24, 3) := by decide +kernel
theorem dX2_pass_90 : decode cX2_pass 90 = .ok (.aload_n 0, 1) := by decide +kernel
theorem dX2_pass_91 : decode cX2_pass 91 = .ok (.getfield 21, 3) := by decide +kernel
theorem dX2_pass_94 : decode cX2_pass 94 = .ok (.iload 4, 2) := by decide +kernel
theorem dX2_pass_96 : decode cX2_pass 96 = .ok (.aload_n 0, 1) := by decide +kernel
theorem dX2_pass_97 : decode cX2_pass 97 = .ok (.getfield 21, 3) := by decide +kernel
theorem dX2_pass_100 : decode cX2_pass 100 = .ok (.iload 4, 2) := by decide +kernel
theorem dX2_pass_102 : decode cX2_pass 102 = .ok (.iaload, 1) := by decide +kernel
theorem dX2_pass_103 : decode cX2_pass 103 = .ok (.iconst 1, 1) := by decide +kernel
theorem dX2_pass_104 : decode cX2_pass 104 = .ok (.iadd, 1) := by decide +kernel
theorem dX2_pass_105 : decode cX2_pass 105 = .ok (.bipush 30, 2) := by decide +kernel
theorem dX2_pass_107 : decode cX2_pass 107 = .ok (.invokestatic 46, 3) := by decide +kernel
theorem dX2_pass_110 : decode cX2_pass 110 = .ok (.iastore, 1) := by decide +kernel
theorem dX2_pass_111 : decode cX2_pass 111 = .ok (.iinc 4 1, 3) := by decide +kernel
theorem dX2_pass_114 : decode cX2_pass 114 = .ok (.goto (-106), 3) := by decide +kernel
theorem dX2_pass_117 : decode cX2_pass 117 = .ok (.aload_n 0, 1) := by decide +kernel
theorem dX2_pass_118 : decode cX2_pass 118 = .ok (.dup, 1) := by decide +kernel
theorem dX2_pass_119 : decode cX2_pass 119 = .ok (.getfield 37, 3) := by decide +kernel
theorem dX2_pass_122 : decode cX2_pass 122 = .ok (.iconst 1, 1) := by decide +kernel
theorem dX2_pass_123 : decode cX2_pass 123 = .ok (.iadd, 1) := by decide +kernel
theorem dX2_pass_124 : decode cX2_pass 124 = .ok (.putfield 37, 3) := by decide +kernel
theorem dX2_pass_127 : decode cX2_pass 127 = .ok (.return_, 1) := by decide +kernel
def fX2_pass_B117 (k : Nat) (k2 : Nat) (μ : vr_M) : Option (Int × vr_M) :=
  some (0, vr_u μ k 8 ((μ k 8) + 1))
def fX2_pass_B111 (k : Nat) (k2 : Nat) (rc8 : Int → Int → vr_M → Option (Int × vr_M)) (x1 : Int) (x4 : Int) (μ : vr_M) : Option (Int × vr_M) :=
  vr_gd (vr_R (x4 + 1)) (rc8 x1 (x4 + 1) μ)
def fX2_pass_L8 (k : Nat) (k2 : Nat) : Nat → Int → Int → vr_M → Option (Int × vr_M)
  | 0, _, _, _ => none
  | n + 1, x1, x4, μ => if 8 ≤ x4 then fX2_pass_B117 k k2 μ else vr_gd (vr_R (μ k 5)) (if (μ k 5) ≤ x4 then fX2_pass_B117 k k2 μ else if (vr_and (vr_shr x1 x4) 1) = 0 then vr_gd (0 ≤ x4 ∧ x4 < 8) (vr_gd (vr_R (μ (k + 3) x4.toNat)) (if (μ (k + 3) x4.toNat) ≤ 0 then vr_gd (vr_R ((μ (k + 4) x4.toNat) + 1)) (fX2_pass_B111 k k2 (fX2_pass_L8 k k2 n) x1 x4 (vr_u μ (k + 4) x4.toNat (min ((μ (k + 4) x4.toNat) + 1) 30))) else fX2_pass_B111 k k2 (fX2_pass_L8 k k2 n) x1 x4 (vr_u (vr_u μ (k + 3) x4.toNat 0) (k + 4) x4.toNat 0))) else (fX3_wornWhenBurnt k2 k x4 μ).bind (fun r6 => vr_gd (0 ≤ x4 ∧ x4 < 8) (vr_let (vr_u r6.2 (k + 5) x4.toNat r6.1) (fun μ8 => fX2_pass_B111 k k2 (fX2_pass_L8 k k2 n) x1 x4 (vr_u μ8 (k + 3) x4.toNat ((μ8 (k + 3) x4.toNat) + 1))))))
def fX2_pass (k : Nat) (a0 : Int) (a1 : Int) (k2 : Nat) (μ : vr_M) : Option (Int × vr_M) :=
  fX2_pass_L8 k k2 9000 a0 0 (vr_u μ k 6 a1)
set_option maxRecDepth 100000 in
set_option maxHeartbeats 4000000 in
theorem ct_X2_pass (l : Launch) (G : vr_G) {k : Nat} (hk_k : k < 78) (hd_k : vr_kd k = 2) (a0 : Int) (h_a0 : vr_R a0) (a1 : Int) (h_a1 : vr_R a1) {k2 : Nat} (hk_k2 : k2 < 78) (hd_k2 : vr_kd k2 = 3) (μ : vr_M) : vr_CV l yX2_pass cX2_pass 5 none ({ frames := 3, cells := 0, slots := 0, locals := 73 } : Room) G [.ref (vr_ad G k), .int (vr_I a0), .int (vr_I a1), .ref (vr_ad G k2)] μ (fX2_pass k a0 a1 k2 μ) := by
  refine vr_start (own := RX2) (by decide) rfl (Nat.le_of_ble_eq_true rfl) (fun p e s m args below meth c C0 => ?_)
  obtain ⟨q_k, ⟨d_k_1, d_k_2, d_k_3, d_k_4, d_k_5⟩, n_k_1, n_k_2, n_k_3, n_k_4, n_k_5⟩ := vr_hill hk_k hd_k
  obtain ⟨q_k2, ⟨d_k2_1, d_k2_2, d_k2_3, d_k2_4⟩, n_k2_1, n_k2_2, n_k2_3, n_k2_4⟩ := vr_land hk_k2 hd_k2
  show vr_J p l e _ s m args below meth c 5 0 0 G (vr_Z (vr_QV G) G args s below) 0 [(0, .ref (vr_ad G k)), (1, .int (vr_I a0)), (2, .int (vr_I a1)), (3, .ref (vr_ad G k2))] [] μ _
  have B117 : ∀ (μ : vr_M), vr_J p l e ({ frames := 3, cells := 0, slots := 0, locals := 73 } : Room) s m args below meth c 5 0 0 G (vr_Z (vr_QV G) G args s below) 117 [(0, .ref (vr_ad G k))] [] μ (fX2_pass_B117 k k2 μ) := by
    intro μ
    unfold fX2_pass_B117
    refine jr_aload_n C0 0 dX2_pass_117 rfl rfl ?_
    refine jr_dup C0 rfl dX2_pass_118 ?_
    refine jr_geti C0 hk_k hd_k (by decide) rfl wx_X2 (i := 8) (by decide) wf_X2_37 rfl dX2_pass_119 ?_
    refine jr_iconst C0 dX2_pass_122 ?_
    refine jr_iadd C0 dX2_pass_123 ?_
    refine jr_puti C0 hk_k hd_k (by decide) rfl wx_X2 (i := 8) (by decide) wf_X2_37 rfl tyX2_ok nmX2 rfl rfl rfl dX2_pass_124 ?_
    exact jr_vret C0 dX2_pass_127
  have L8 : ∀ (n : Nat) (x1 : Int) (h_x1 : vr_R x1) (x4 : Int) (h_x4 : vr_R x4) (μ : vr_M), vr_J p l e ({ frames := 3, cells := 0, slots := 0, locals := 73 } : Room) s m args below meth c 5 0 0 G (vr_Z (vr_QV G) G args s below) 8 [(0, .ref (vr_ad G k)), (1, .int (vr_I x1)), (3, .ref (vr_ad G k2)), (4, .int (vr_I x4))] [] μ (fX2_pass_L8 k k2 n x1 x4 μ) := by
    intro n8
    induction n8 with
    | zero => intros; exact jr_none
    | succ n8 ih8 =>
      have B111 : ∀ (x1 : Int) (h_x1 : vr_R x1) (x4 : Int) (h_x4 : vr_R x4) (μ : vr_M), vr_J p l e ({ frames := 3, cells := 0, slots := 0, locals := 73 } : Room) s m args below meth c 5 0 0 G (vr_Z (vr_QV G) G args s below) 111 [(0, .ref (vr_ad G k)), (1, .int (vr_I x1)), (3, .ref (vr_ad G k2)), (4, .int (vr_I x4))] [] μ (fX2_pass_B111 k k2 (fX2_pass_L8 k k2 n8) x1 x4 μ) := by
        intro x1 h_x1 x4 h_x4 μ
        unfold fX2_pass_B111
        refine jr_iinc C0 (q := 3) dX2_pass_111 rfl (by decide) (lv' := [(4, .int (vr_I (x4 + 1))), (0, .ref (vr_ad G k)), (1, .int (vr_I x1)), (3, .ref (vr_ad G k2))]) rfl ?_
        refine jr_goto C0 dX2_pass_114 (tgt := 8) (by decide) ?_
        refine jr_gd (fun g1 => ?_)
        refine jr_sub [1, 2, 3, 0] rfl ?_
        exact ih8 x1 h_x1 (x4 + 1) g1 _
      intro x1 h_x1 x4 h_x4 μ
      rw [fX2_pass_L8.eq_2]
      refine jr_iload C0 3 dX2_pass_8 rfl ?_
      refine jr_bipush C0 dX2_pass_10 rfl ?_
      refine jr_icmp_ge C0 h_x4 (⟨by decide, by decide⟩) dX2_pass_12 (tgt := 117) (by decide) ?_ ?_
      · refine jr_sub [0] rfl ?_
        exact B117 _
      refine jr_iload C0 3 dX2_pass_15 rfl ?_
      refine jr_aload_n C0 0 dX2_pass_17 rfl rfl ?_
      refine jr_geti C0 hk_k hd_k (by decide) rfl wx_X2 (i := 5) (by decide) wf_X2_31 rfl dX2_pass_18 ?_
      refine jr_gd (fun g2 => ?_)
      refine jr_icmp_ge C0 h_x4 g2 dX2_pass_21 (tgt := 117) (by decide) ?_ ?_
      · refine jr_sub [0] rfl ?_
        exact B117 _
      refine jr_iload_n C0 1 dX2_pass_24 rfl rfl ?_
      refine jr_iload C0 3 dX2_pass_25 rfl ?_
      refine jr_ishr C0 dX2_pass_27 ?_
      refine jr_iconst C0 dX2_pass_28 ?_
      refine jr_iand C0 dX2_pass_29 ?_
      refine jr_if_eq C0 (vr_RT _) dX2_pass_30 (tgt := 61) (by decide) ?_ ?_
      · refine jr_aload_n C0 0 dX2_pass_61 rfl rfl ?_
        refine jr_getr C0 hk_k hd_k (by decide) rfl wx_X2 (i := 2) (by decide) wf_X2_18 (j := (k + 3)) rfl dX2_pass_62 ?_
        refine jr_iload C0 3 dX2_pass_65 rfl ?_
        refine jr_gd (fun g3 => ?_)
        refine jr_iald C0 (by omega) d_k_3 n_k_3 g3 (j := x4.toNat) rfl dX2_pass_67 ?_
        refine jr_gd (fun g4 => ?_)
        refine jr_if_le C0 g4 dX2_pass_68 (tgt := 90) (by decide) ?_ ?_
        · refine jr_aload_n C0 0 dX2_pass_90 rfl rfl ?_
          refine jr_getr C0 hk_k hd_k (by decide) rfl wx_X2 (i := 3) (by decide) wf_X2_21 (j := (k + 4)) rfl dX2_pass_91 ?_
          refine jr_iload C0 3 dX2_pass_94 rfl ?_
          refine jr_aload_n C0 0 dX2_pass_96 rfl rfl ?_
          refine jr_getr C0 hk_k hd_k (by decide) rfl wx_X2 (i := 3) (by decide) wf_X2_21 (j := (k + 4)) rfl dX2_pass_97 ?_
          refine jr_iload C0 3 dX2_pass_100 rfl ?_
          refine jr_iald C0 (by omega) d_k_4 n_k_4 g3 (j := x4.toNat) rfl dX2_pass_102 ?_
          refine jr_iconst C0 dX2_pass_103 ?_
          refine jr_iadd C0 dX2_pass_104 ?_
          refine jr_bipush C0 dX2_pass_105 rfl ?_
          refine jr_gd (fun g5 => ?_)
          refine jr_min C0 g5 (⟨by decide, by decide⟩) wm_X2_46 wt_yJ9_min_7cf53 wz_J9 wc_yJ9_min_7cf53 (Nat.le_of_ble_eq_true rfl) (Nat.le_of_ble_eq_true rfl) dX2_pass_107 ?_
          refine jr_iast C0 (by omega) d_k_4 n_k_4 g3 (j := x4.toNat) rfl dX2_pass_110 ?_
          exact B111 x1 h_x1 x4 h_x4 _
        refine jr_aload_n C0 0 dX2_pass_71 rfl rfl ?_
        refine jr_getr C0 hk_k hd_k (by decide) rfl wx_X2 (i := 2) (by decide) wf_X2_18 (j := (k + 3)) rfl dX2_pass_72 ?_
        refine jr_iload C0 3 dX2_pass_75 rfl ?_
        refine jr_iconst C0 dX2_pass_77 ?_
        refine jr_iast C0 (by omega) d_k_3 n_k_3 g3 (j := x4.toNat) rfl dX2_pass_78 ?_
        refine jr_aload_n C0 0 dX2_pass_79 rfl rfl ?_
        refine jr_getr C0 hk_k hd_k (by decide) rfl wx_X2 (i := 3) (by decide) wf_X2_21 (j := (k + 4)) rfl dX2_pass_80 ?_
        refine jr_iload C0 3 dX2_pass_83 rfl ?_
        refine jr_iconst C0 dX2_pass_85 ?_
        refine jr_iast C0 (by omega) d_k_4 n_k_4 g3 (j := x4.toNat) rfl dX2_pass_86 ?_
        refine jr_goto C0 dX2_pass_87 (tgt := 111) (by decide) ?_
        exact B111 x1 h_x1 x4 h_x4 _
      refine jr_aload_n C0 0 dX2_pass_33 rfl rfl ?_
      refine jr_getr C0 hk_k hd_k (by decide) rfl wx_X2 (i := 4) (by decide) wf_X2_24 (j := (k + 5)) rfl dX2_pass_34 ?_
      refine jr_iload C0 3 dX2_pass_37 rfl ?_
      refine jr_aload_n C0 2 dX2_pass_39 rfl rfl ?_
      refine jr_aload_n C0 0 dX2_pass_40 rfl rfl ?_
      refine jr_iload C0 3 dX2_pass_41 rfl ?_
      refine jr_vI C0 hk_k2 hd_k2 (by decide) rfl (ct_X3_wornWhenBurnt l G hk_k2 hd_k2 hk_k hd_k x4 h_x4 _) mi_X3_wornWhenBurnt wm_X2_40 ⟨Nat.le_of_ble_eq_true rfl, Nat.le_of_ble_eq_true rfl⟩ ⟨rfl, rfl⟩ (As := [.ref (vr_ad G k), .int (vr_I x4)]) rfl (st := [.int (vr_I x4), .ref (vr_ad G (k + 5))]) rfl (Nat.le_of_ble_eq_true rfl) dX2_pass_43 (fun r6 hr6 => ?_)
      refine jr_gd (fun g7 => ?_)
      refine jr_iast C0 (by omega) d_k_5 n_k_5 g7 (j := x4.toNat) rfl dX2_pass_46 ?_
      refine jr_aload_n C0 0 dX2_pass_47 rfl rfl ?_
      refine jr_getr C0 hk_k hd_k (by decide) rfl wx_X2 (i := 2) (by decide) wf_X2_18 (j := (k + 3)) rfl dX2_pass_48 ?_
      refine jr_iload C0 3 dX2_pass_51 rfl ?_
      refine jr_dup2 C0 rfl rfl dX2_pass_53 ?_
      refine jr_let (fun μ8 => ?_)
      refine jr_iald C0 (by omega) d_k_3 n_k_3 g7 (j := x4.toNat) rfl dX2_pass_54 ?_
      refine jr_iconst C0 dX2_pass_55 ?_
      refine jr_iadd C0 dX2_pass_56 ?_
      refine jr_iast C0 (by omega) d_k_3 n_k_3 g7 (j := x4.toNat) rfl dX2_pass_57 ?_
      refine jr_goto C0 dX2_pass_58 (tgt := 111) (by decide) ?_
      exact B111 x1 h_x1 x4 h_x4 _
  unfold fX2_pass
  refine jr_aload_n C0 0 dX2_pass_0 rfl rfl ?_
  refine jr_iload_n C0 2 dX2_pass_1 rfl rfl ?_
  refine jr_puti C0 hk_k hd_k (by decide) rfl wx_X2 (i := 6) (by decide) wf_X2_34 rfl tyX2_ok nmX2 rfl rfl rfl dX2_pass_2 ?_
  refine jr_iconst C0 dX2_pass_5 ?_
  refine jr_istore C0 dX2_pass_6 (by decide) (lv' := [(4, .int (vr_I 0)), (0, .ref (vr_ad G k)), (1, .int (vr_I a0)), (2, .int (vr_I a1)), (3, .ref (vr_ad G k2))]) rfl ?_
  refine jr_sub [1, 2, 4, 0] rfl ?_
  exact L8 9000 a0 h_a0 0 (⟨by decide, by decide⟩) _
theorem dX2_growMouths_0 : decode cX2_growMouths 0 = .ok (.aload_n 0, 1) := by decide +kernel
theorem dX2_growMouths_1 : decode cX2_growMouths 1 = .ok (.aload_n 0, 1) := by decide +kernel
theorem dX2_growMouths_2 : decode cX2_growMouths 2 = .ok (.getfield 27, 3) := by decide +kernel
theorem dX2_growMouths_5 : decode cX2_growMouths 5 = .ok (.aload_n 0, 1) := by decide +kernel
theorem dX2_growMouths_6 : decode cX2_growMouths 6 = .ok (.getfield 27, 3) := by decide +kernel
theorem dX2_growMouths_9 : decode cX2_growMouths 9 = .ok (.iload_n 1, 1) := by decide +kernel
theorem dX2_growMouths_10 : decode cX2_growMouths 10 = .ok (.imul, 1) := by decide +kernel
theorem dX2_growMouths_11 : decode cX2_growMouths 11 = .ok (.bipush 99, 2) := by decide +kernel
theorem dX2_growMouths_13 : decode cX2_growMouths 13 = .ok (.iadd, 1) := by decide +kernel
theorem dX2_growMouths_14 : decode cX2_growMouths 14 = .ok (.bipush 100, 2) := by decide +kernel
theorem dX2_growMouths_16 : decode cX2_growMouths 16 = .ok (.idiv, 1) := by decide +kernel
theorem dX2_growMouths_17 : decode cX2_growMouths 17 = .ok (.iadd, 1) := by decide +kernel
theorem dX2_growMouths_18 : decode cX2_growMouths 18 = .ok (.bipush 99, 2) := by decide +kernel
theorem dX2_growMouths_20 : decode cX2_growMouths 20 = .ok (.invokestatic 46, 3) := by decide +kernel
theorem dX2_growMouths_23 : decode cX2_growMouths 23 = .ok (.putfield 27, 3) := by decide +kernel
theorem dX2_growMouths_26 : decode cX2_growMouths 26 = .ok (.return_, 1) := by decide +kernel
def fX2_growMouths (k : Nat) (a0 : Int) (μ : vr_M) : Option (Int × vr_M) :=
  vr_gd (vr_R (((μ k 7) * a0) + 99)) (vr_gd (vr_R ((μ k 7) + ((((μ k 7) * a0) + 99).tdiv 100))) (some (0, vr_u μ k 7 (min ((μ k 7) + ((((μ k 7) * a0) + 99).tdiv 100)) 99))))
set_option maxRecDepth 100000 in
set_option maxHeartbeats 4000000 in
theorem ct_X2_growMouths (l : Launch) (G : vr_G) {k : Nat} (hk_k : k < 78) (hd_k : vr_kd k = 2) (a0 : Int) (h_a0 : vr_R a0) (μ : vr_M) : vr_CV l yX2_growMouths cX2_growMouths 2 none ({ frames := 1, cells := 0, slots := 0, locals := 14 } : Room) G [.ref (vr_ad G k), .int (vr_I a0)] μ (fX2_growMouths k a0 μ) := by
  refine vr_start (own := RX2) (by decide) rfl (Nat.le_of_ble_eq_true rfl) (fun p e s m args below meth c C0 => ?_)
  obtain ⟨q_k, ⟨d_k_1, d_k_2, d_k_3, d_k_4, d_k_5⟩, n_k_1, n_k_2, n_k_3, n_k_4, n_k_5⟩ := vr_hill hk_k hd_k
  show vr_J p l e _ s m args below meth c 2 0 0 G (vr_Z (vr_QV G) G args s below) 0 [(0, .ref (vr_ad G k)), (1, .int (vr_I a0))] [] μ _
  unfold fX2_growMouths
  refine jr_aload_n C0 0 dX2_growMouths_0 rfl rfl ?_
  refine jr_aload_n C0 0 dX2_growMouths_1 rfl rfl ?_
  refine jr_geti C0 hk_k hd_k (by decide) rfl wx_X2 (i := 7) (by decide) wf_X2_27 rfl dX2_growMouths_2 ?_
  refine jr_aload_n C0 0 dX2_growMouths_5 rfl rfl ?_
  refine jr_geti C0 hk_k hd_k (by decide) rfl wx_X2 (i := 7) (by decide) wf_X2_27 rfl dX2_growMouths_6 ?_
  refine jr_iload_n C0 1 dX2_growMouths_9 rfl rfl ?_
  refine jr_imul C0 dX2_growMouths_10 ?_
  refine jr_bipush C0 dX2_growMouths_11 rfl ?_
  refine jr_iadd C0 dX2_growMouths_13 ?_
  refine jr_bipush C0 dX2_growMouths_14 rfl ?_
  refine jr_gd (fun g1 => ?_)
  refine jr_idiv C0 g1 (⟨by decide, by decide⟩) (by decide) dX2_growMouths_16 ?_
  refine jr_iadd C0 dX2_growMouths_17 ?_
  refine jr_bipush C0 dX2_growMouths_18 rfl ?_
  refine jr_gd (fun g2 => ?_)
  refine jr_min C0 g2 (⟨by decide, by decide⟩) wm_X2_46 wt_yJ9_min_7cf53 wz_J9 wc_yJ9_min_7cf53 (Nat.le_of_ble_eq_true rfl) (Nat.le_of_ble_eq_true rfl) dX2_growMouths_20 ?_
  refine jr_puti C0 hk_k hd_k (by decide) rfl wx_X2 (i := 7) (by decide) wf_X2_27 rfl tyX2_ok nmX2 rfl rfl rfl dX2_growMouths_23 ?_
  exact jr_vret C0 dX2_growMouths_26
theorem dX7_spend_0 : decode cX7_spend 0 = .ok (.iload_n 2, 1) := by decide +kernel
theorem dX7_spend_1 : decode cX7_spend 1 = .ok (.aload_n 0, 1) := by decide +kernel
theorem dX7_spend_2 : decode cX7_spend 2 = .ok (.getfield 12, 3) := by decide +kernel
theorem dX7_spend_5 : decode cX7_spend 5 = .ok (.getfield 58, 3) := by decide +kernel
theorem dX7_spend_8 : decode cX7_spend 8 = .ok (.if_icmp .eq 7, 3) := by decide +kernel
theorem dX7_spend_11 : decode cX7_spend 11 = .ok (.iconst 1, 1) := by decide +kernel
theorem dX7_spend_12 : decode cX7_spend 12 = .ok (.goto 4, 3) := by decide +kernel
theorem dX7_spend_15 : decode cX7_spend 15 = .ok (.iconst 0, 1) := by decide +kernel
theorem dX7_spend_16 : decode cX7_spend 16 = .ok (.istore 4, 2) := by decide +kernel
theorem dX7_spend_18 : decode cX7_spend 18 = .ok (.iload 4, 2) := by decide +kernel
theorem dX7_spend_20 : decode cX7_spend 20 = .ok (.ifCond .eq 13, 3) := by decide +kernel
theorem dX7_spend_23 : decode cX7_spend 23 = .ok (.aload_n 0, 1) := by decide +kernel
theorem dX7_spend_24 : decode cX7_spend 24 = .ok (.getfield 28, 3) := by decide +kernel
theorem dX7_spend_27 : decode cX7_spend 27 = .ok (.getfield 61, 3) := by decide +kernel
theorem dX7_spend_30 : decode cX7_spend 30 = .ok (.goto 4, 3) := by decide +kernel
theorem dX7_spend_33 : decode cX7_spend 33 = .ok (.iconst 0, 1) := by decide +kernel
theorem dX7_spend_34 : decode cX7_spend 34 = .ok (.istore 5, 2) := by decide +kernel
theorem dX7_spend_36 : decode cX7_spend 36 = .ok (.aload_n 0, 1) := by decide +kernel
theorem dX7_spend_37 : decode cX7_spend 37 = .ok (.getfield 34, 3) := by decide +kernel
theorem dX7_spend_40 : decode cX7_spend 40 = .ok (.iload_n 1, 1) := by decide +kernel
theorem dX7_spend_41 : decode cX7_spend 41 = .ok (.iload_n 2, 1) := by decide +kernel
theorem dX7_spend_42 : decode cX7_spend 42 = .ok (.invokevirtual 66, 3) := by decide +kernel
theorem dX7_spend_45 : decode cX7_spend 45 = .ok (.istore 6, 2) := by decide +kernel
theorem dX7_spend_47 : decode cX7_spend 47 = .ok (.aload_n 0, 1) := by decide +kernel
theorem dX7_spend_48 : decode cX7_spend 48 = .ok (.iload 6, 2) := by decide +kernel
theorem dX7_spend_50 : decode cX7_spend 50 = .ok (.iload 5, 2) := by decide +kernel
theorem dX7_spend_52 : decode cX7_spend 52 = .ok (.isub, 1) := by decide +kernel
theorem dX7_spend_53 : decode cX7_spend 53 = .ok (.putfield 70, 3) := by decide +kernel
theorem dX7_spend_56 : decode cX7_spend 56 = .ok (.aload_n 0, 1) := by decide +kernel
theorem dX7_spend_57 : decode cX7_spend 57 = .ok (.aload_n 0, 1) := by decide +kernel
theorem dX7_spend_58 : decode cX7_spend 58 = .ok (.getfield 70, 3) := by decide +kernel
theorem dX7_spend_61 : decode cX7_spend 61 = .ok (.aload_n 0, 1) := by decide +kernel
theorem dX7_spend_62 : decode cX7_spend 62 = .ok (.getfield 12, 3) := by decide +kernel
theorem dX7_spend_65 : decode cX7_spend 65 = .ok (.getfield 73, 3) := by decide +kernel
theorem dX7_spend_68 : decode cX7_spend 68 = .ok (.if_icmp .lt 7, 3) := by decide +kernel
theorem dX7_spend_71 : decode cX7_spend 71 = .ok (.iconst 1, 1) := by decide +kernel
theorem dX7_spend_72 : decode cX7_spend 72 = .ok (.goto 4, 3) := by decide +kernel
theorem dX7_spend_75 : decode cX7_spend 75 = .ok (.iconst 0, 1) := by decide +kernel
theorem dX7_spend_76 : decode cX7_spend 76 = .ok (.putfield 76, 3) := by decide +kernel
theorem dX7_spend_79 : decode cX7_spend 79 = .ok (.aload_n 0, 1) := by decide +kernel
theorem dX7_spend_80 : decode cX7_spend 80 = .ok (.iload 6, 2) := by decide +kernel
theorem dX7_spend_82 : decode cX7_spend 82 = .ok (.iconst 2, 1) := by decide +kernel
theorem dX7_spend_83 : decode cX7_spend 83 = .ok (.idiv, 1) := by decide +kernel
theorem dX7_spend_84 : decode cX7_spend 84 = .ok (.iload 5, 2) := by decide +kernel
theorem dX7_spend_86 : decode cX7_spend 86 = .ok (.isub, 1) := by decide +kernel
theorem dX7_spend_87 : decode cX7_spend 87 = .ok (.aload_n 0, 1) := by decide +kernel
theorem dX7_spend_88 : decode cX7_spend 88 = .ok (.getfield 12, 3) := by decide +kernel
theorem dX7_spend_91 : decode cX7_spend 91 = .ok (.getfield 73, 3) := by decide +kernel
theorem dX7_spend_94 : decode cX7_spend 94 = .ok (.if_icmp .lt 7, 3) := by decide +kernel
theorem dX7_spend_97 : decode cX7_spend 97 = .ok (.iconst 1, 1) := by decide +kernel
theorem dX7_spend_98 : decode cX7_spend 98 = .ok (.goto 4, 3) := by decide +kernel
theorem dX7_spend_101 : decode cX7_spend 101 = .ok (.iconst 0, 1) := by decide +kernel
theorem dX7_spend_102 : decode cX7_spend 102 = .ok (.putfield 80, 3) := by decide +kernel
theorem dX7_spend_105 : decode cX7_spend 105 = .ok (.aload_n 0, 1) := by decide +kernel
theorem dX7_spend_106 : decode cX7_spend 106 = .ok (.getfield 76, 3) := by decide +kernel
theorem dX7_spend_109 : decode cX7_spend 109 = .ok (.ifCond .ne 18, 3) := by decide +kernel
theorem dX7_spend_112 : decode cX7_spend 112 = .ok (.aload_n 0, 1) := by decide +kernel
theorem dX7_spend_113 : decode cX7_spend 113 = .ok (.getfield 49, 3) := by decide +kernel
theorem dX7_spend_116 : decode cX7_spend 116 = .ok (.ifCond .ne 11, 3) := by decide +kernel
theorem dX7_spend_119 : decode cX7_spend 119 = .ok (.aload_n 0, 1) := by decide +kernel
theorem dX7_spend_120 : decode cX7_spend 120 = .ok (.aload_n 0, 1) := by decide +kernel
theorem dX7_spend_121 : decode cX7_spend 121 = .ok (.getfield 45, 3) := by decide +kernel
theorem dX7_spend_124 : decode cX7_spend 124 = .ok (.putfield 52, 3) := by decide +kernel
theorem dX7_spend_127 : decode cX7_spend 127 = .ok (.aload_n 0, 1) := by decide +kernel
theorem dX7_spend_128 : decode cX7_spend 128 = .ok (.dup, 1) := by decide +kernel
theorem dX7_spend_129 : decode cX7_spend 129 = .ok (.getfield 49, 3) := by decide +kernel
theorem dX7_spend_132 : decode cX7_spend 132 = .ok (.aload_n 0, 1) := by decide +kernel
theorem dX7_spend_133 : decode cX7_spend 133 = .ok (.getfield 76, 3) := by decide +kernel
theorem dX7_spend_136 : decode cX7_spend 136 = .ok (.ifCond .eq 7, 3) := by decide +kernel
theorem dX7_spend_139 : decode cX7_spend 139 = .ok (.iconst 0, 1) := by decide +kernel
theorem dX7_spend_140 : decode cX7_spend 140 = .ok (.goto 4, 3) := by decide +kernel
theorem dX7_spend_143 : decode cX7_spend 143 = .ok (.iconst 1, 1) := by decide +kernel
theorem dX7_spend_144 : decode cX7_spend 144 = .ok (.iadd, 1) := by decide +kernel
theorem dX7_spend_145 : decode cX7_spend 145 = .ok (.putfield 49, 3) := by decide +kernel
theorem dX7_spend_148 : decode cX7_spend 148 = .ok (.aload_n 0, 1) := by decide +kernel
theorem dX7_spend_149 : decode cX7_spend 149 = .ok (.dup, 1) := by decide +kernel
theorem dX7_spend_150 : decode cX7_spend 150 = .ok (.getfield 55, 3) := by decide +kernel
theorem dX7_spend_153 : decode cX7_spend 153 = .ok (.iload 4, 2) := by decide +kernel
theorem dX7_spend_155 : decode cX7_spend 155 = .ok (.ifCond .eq 7, 3) := by decide +kernel
theorem dX7_spend_158 : decode cX7_spend 158 = .ok (.iconst 1, 1) := by decide +kernel
theorem dX7_spend_159 : decode cX7_spend 159 = .ok (.goto 4, 3) := by decide +kernel
theorem dX7_spend_162 : decode cX7_spend 162 = .ok (.iconst 0, 1) := by decide +kernel
theorem dX7_spend_163 : decode cX7_spend 163 = .ok (.iadd, 1) := by decide +kernel
theorem dX7_spend_164 : decode cX7_spend 164 = .ok (.putfield 55, 3) := by decide +kernel
theorem dX7_spend_167 : decode cX7_spend 167 = .ok (.aload_n 0, 1) := by decide +kernel
theorem dX7_spend_168 : decode cX7_spend 168 = .ok (.dup, 1) := by decide +kernel
theorem dX7_spend_169 : decode cX7_spend 169 = .ok (.getfield 45, 3) := by decide +kernel
theorem dX7_spend_172 : decode cX7_spend 172 = .ok (.iconst 1, 1) := by decide +kernel
theorem dX7_spend_173 : decode cX7_spend 173 = .ok (.iadd, 1) := by decide +kernel
theorem dX7_spend_174 : decode cX7_spend 174 = .ok (.putfield 45, 3) := by decide +kernel
theorem dX7_spend_177 : decode cX7_spend 177 = .ok (.aload_n 0, 1) := by decide +kernel
theorem dX7_spend_178 : decode cX7_spend 178 = .ok (.getfield 12, 3) := by decide +kernel
theorem dX7_spend_181 : decode cX7_spend 181 = .ok (.iload_n 1, 1) := by decide +kernel
theorem dX7_spend_182 : decode cX7_spend 182 = .ok (.iload_n 2, 1) := by decide +kernel
theorem dX7_spend_183 : decode cX7_spend 183 = .ok (.aload_n 0, 1) := by decide +kernel
theorem dX7_spend_184 : decode cX7_spend 184 = .ok (.getfield 28, 3) := by decide +kernel
theorem dX7_spend_187 : decode cX7_spend 187 = .ok (.invokevirtual 83, 3) := by decide +kernel
theorem dX7_spend_190 : decode cX7_spend 190 = .ok (.iload_n 3, 1) := by decide +kernel
theorem dX7_spend_191 : decode cX7_spend 191 = .ok (.ifCond .eq 17, 3) := by decide +kernel
theorem dX7_spend_194 : decode cX7_spend 194 = .ok (.aload_n 0, 1) := by decide +kernel
theorem dX7_spend_195 : decode cX7_spend 195 = .ok (.getfield 12, 3) := by decide +kernel
theorem dX7_spend_198 : decode cX7_spend 198 = .ok (.aload_n 0, 1) := by decide +kernel
theorem dX7_spend_199 : decode cX7_spend 199 = .ok (.getfield 28, 3) := by decide +kernel
theorem dX7_spend_202 : decode cX7_spend 202 = .ok (.getfield 87, 3) := by decide +kernel
theorem dX7_spend_205 : decode cX7_spend 205 = .ok (.invokevirtual 90, 3) := by decide +kernel
theorem dX7_spend_208 : decode cX7_spend 208 = .ok (.aload_n 0, 1) := by decide +kernel
theorem dX7_spend_209 : decode cX7_spend 209 = .ok (.getfield 34, 3) := by decide +kernel
theorem dX7_spend_212 : decode cX7_spend 212 = .ok (.invokevirtual 42, 3) := by decide +kernel
theorem dX7_spend_215 : decode cX7_spend 215 = .ok (.return_, 1) := by decide +kernel
def fX7_spend_B208 (μ : vr_M) : Option (Int × vr_M) :=
  (fX0_lookRound  μ).bind (fun r1 => some (0, r1.2))
def fX7_spend_B163 (x1 : Int) (x2 : Int) (x3 : Int) (y1 : Int) (y2 : Int) (μ : vr_M) : Option (Int × vr_M) :=
  vr_let (vr_u μ 51 7 (y1 + y2)) (fun μ2 => (fX2_pass 52 x1 x2 8 (vr_u μ2 51 4 ((μ2 51 4) + 1))).bind (fun r3 => if x3 = 0 then fX7_spend_B208 r3.2 else vr_gd (vr_R (r3.2 8 7)) ((fX2_growMouths 52 (r3.2 8 7) r3.2).bind (fun r5 => fX7_spend_B208 r5.2))))
def fX7_spend_B144 (x1 : Int) (x2 : Int) (x3 : Int) (x4 : Int) (y1 : Int) (y2 : Int) (μ : vr_M) : Option (Int × vr_M) :=
  vr_let (vr_u μ 51 5 (y1 + y2)) (fun μ6 => if x4 = 0 then vr_gd (vr_R (μ6 51 7)) (fX7_spend_B163 x1 x2 x3 (μ6 51 7) 0 μ6) else vr_gd (vr_R (μ6 51 7)) (fX7_spend_B163 x1 x2 x3 (μ6 51 7) 1 μ6))
def fX7_spend_B127 (x1 : Int) (x2 : Int) (x3 : Int) (x4 : Int) (μ : vr_M) : Option (Int × vr_M) :=
  vr_gd (vr_R (μ 51 9)) (if (μ 51 9) = 0 then vr_gd (vr_R (μ 51 5)) (fX7_spend_B144 x1 x2 x3 x4 (μ 51 5) 1 μ) else vr_gd (vr_R (μ 51 5)) (fX7_spend_B144 x1 x2 x3 x4 (μ 51 5) 0 μ))
def fX7_spend_B102 (x1 : Int) (x2 : Int) (x3 : Int) (x4 : Int) (y1 : Int) (μ : vr_M) : Option (Int × vr_M) :=
  vr_gd (y1 = 0 ∨ y1 = 1) (vr_let (vr_u μ 51 10 y1) (fun μ13 => vr_gd (vr_R (μ13 51 9)) (if ¬ (μ13 51 9) = 0 then fX7_spend_B127 x1 x2 x3 x4 μ13 else vr_gd (vr_R (μ13 51 5)) (if ¬ (μ13 51 5) = 0 then fX7_spend_B127 x1 x2 x3 x4 μ13 else fX7_spend_B127 x1 x2 x3 x4 (vr_u μ13 51 6 (μ13 51 4))))))
def fX7_spend_B76 (x1 : Int) (x2 : Int) (x3 : Int) (x4 : Int) (x5 : Int) (x6 : Int) (y1 : Int) (μ : vr_M) : Option (Int × vr_M) :=
  vr_gd (y1 = 0 ∨ y1 = 1) (vr_let (vr_u μ 51 9 y1) (fun μ17 => vr_gd (vr_R ((x6.tdiv 2) - x5)) (vr_gd (vr_R (μ17 52 7)) (if ((x6.tdiv 2) - x5) < (μ17 52 7) then fX7_spend_B102 x1 x2 x3 x4 0 μ17 else fX7_spend_B102 x1 x2 x3 x4 1 μ17))))
def fX7_spend_B34 (x1 : Int) (x2 : Int) (x3 : Int) (x4 : Int) (y0 : Int) (μ : vr_M) : Option (Int × vr_M) :=
  (fX0_giftOf x1 x2 μ).bind (fun r20 => vr_let (vr_u r20.2 51 8 (r20.1 - y0)) (fun μ21 => vr_gd (vr_R (μ21 51 8)) (vr_gd (vr_R (μ21 52 7)) (if (μ21 51 8) < (μ21 52 7) then fX7_spend_B76 x1 x2 x3 x4 y0 r20.1 0 μ21 else fX7_spend_B76 x1 x2 x3 x4 y0 r20.1 1 μ21))))
def fX7_spend_B16 (x1 : Int) (x2 : Int) (x3 : Int) (y0 : Int) (μ : vr_M) : Option (Int × vr_M) :=
  if y0 = 0 then fX7_spend_B34 x1 x2 x3 y0 0 μ else vr_gd (vr_R (μ 8 6)) (fX7_spend_B34 x1 x2 x3 y0 (μ 8 6) μ)
def fX7_spend (a0 : Int) (a1 : Int) (a2 : Int) (μ : vr_M) : Option (Int × vr_M) :=
  vr_gd (vr_R (μ 52 6)) (if a1 = (μ 52 6) then fX7_spend_B16 a0 a1 a2 0 μ else fX7_spend_B16 a0 a1 a2 1 μ)
set_option maxRecDepth 100000 in
set_option maxHeartbeats 4000000 in
theorem ct_X7_spend (l : Launch) (G : vr_G) (a0 : Int) (h_a0 : vr_R a0) (a1 : Int) (h_a1 : vr_R a1) (a2 : Int) (h_a2 : vr_R a2) (μ : vr_M) : vr_CV l yX7_spend cX7_spend 7 none ({ frames := 4, cells := 0, slots := 0, locals := 97 } : Room) G [.ref (vr_ad G 51), .int (vr_I a0), .int (vr_I a1), .int (vr_I a2)] μ (fX7_spend a0 a1 a2 μ) := by
  refine vr_start (own := RX7) (by decide) rfl (Nat.le_of_ble_eq_true rfl) (fun p e s m args below meth c C0 => ?_)
  show vr_J p l e _ s m args below meth c 7 0 0 G (vr_Z (vr_QV G) G args s below) 0 [(0, .ref (vr_ad G 51)), (1, .int (vr_I a0)), (2, .int (vr_I a1)), (3, .int (vr_I a2))] [] μ _
  have B208 : ∀ (μ : vr_M), vr_J p l e ({ frames := 4, cells := 0, slots := 0, locals := 97 } : Room) s m args below meth c 7 0 0 G (vr_Z (vr_QV G) G args s below) 208 [(0, .ref (vr_ad G 51))] [] μ (fX7_spend_B208 μ) := by
    intro μ
    unfold fX7_spend_B208
    refine jr_aload_n C0 0 dX7_spend_208 rfl rfl ?_
    refine jr_getr C0 (by decide) kd_51 (by decide) rfl wx_X7 (i := 3) (by decide) wf_X7_34 (j := 58) rfl dX7_spend_209 ?_
    refine jr_vV0 C0 (by decide) kd_58 (by decide) rfl (ct_X0_lookRound l G  _) mi_X0_lookRound wm_X7_42 ⟨Nat.le_of_ble_eq_true rfl, Nat.le_of_ble_eq_true rfl⟩ ⟨rfl, rfl⟩ (As := []) rfl (st := []) rfl (Nat.le_of_ble_eq_true rfl) dX7_spend_212 (fun r1 => ?_)
    exact jr_vret C0 dX7_spend_215
  have B163 : ∀ (x1 : Int) (h_x1 : vr_R x1) (x2 : Int) (h_x2 : vr_R x2) (x3 : Int) (h_x3 : vr_R x3) (y1 : Int) (h_y1 : vr_R y1) (y2 : Int) (h_y2 : vr_R y2) (μ : vr_M), vr_J p l e ({ frames := 4, cells := 0, slots := 0, locals := 97 } : Room) s m args below meth c 7 0 0 G (vr_Z (vr_QV G) G args s below) 163 [(0, .ref (vr_ad G 51)), (1, .int (vr_I x1)), (2, .int (vr_I x2)), (3, .int (vr_I x3))] [.int (vr_I y2), .int (vr_I y1), .ref (vr_ad G 51)] μ (fX7_spend_B163 x1 x2 x3 y1 y2 μ) := by
    intro x1 h_x1 x2 h_x2 x3 h_x3 y1 h_y1 y2 h_y2 μ
    unfold fX7_spend_B163
    refine jr_iadd C0 dX7_spend_163 ?_
    refine jr_puti C0 (by decide) kd_51 (by decide) rfl wx_X7 (i := 7) (by decide) wf_X7_55 rfl tyX7_ok nmX7 rfl rfl rfl dX7_spend_164 ?_
    refine jr_aload_n C0 0 dX7_spend_167 rfl rfl ?_
    refine jr_dup C0 rfl dX7_spend_168 ?_
    refine jr_let (fun μ2 => ?_)
    refine jr_geti C0 (by decide) kd_51 (by decide) rfl wx_X7 (i := 4) (by decide) wf_X7_45 rfl dX7_spend_169 ?_
    refine jr_iconst C0 dX7_spend_172 ?_
    refine jr_iadd C0 dX7_spend_173 ?_
    refine jr_puti C0 (by decide) kd_51 (by decide) rfl wx_X7 (i := 4) (by decide) wf_X7_45 rfl tyX7_ok nmX7 rfl rfl rfl dX7_spend_174 ?_
    refine jr_aload_n C0 0 dX7_spend_177 rfl rfl ?_
    refine jr_getr C0 (by decide) kd_51 (by decide) rfl wx_X7 (i := 2) (by decide) wf_X7_12 (j := 52) rfl dX7_spend_178 ?_
    refine jr_iload_n C0 1 dX7_spend_181 rfl rfl ?_
    refine jr_iload_n C0 2 dX7_spend_182 rfl rfl ?_
    refine jr_aload_n C0 0 dX7_spend_183 rfl rfl ?_
    refine jr_getr C0 (by decide) kd_51 (by decide) rfl wx_X7 (i := 1) (by decide) wf_X7_28 (j := 8) rfl dX7_spend_184 ?_
    refine jr_vV0 C0 (by decide) kd_52 (by decide) rfl (ct_X2_pass l G (by decide) kd_52 x1 h_x1 x2 h_x2 (by decide) kd_8 _) mi_X2_pass wm_X7_83 ⟨Nat.le_of_ble_eq_true rfl, Nat.le_of_ble_eq_true rfl⟩ ⟨rfl, rfl⟩ (As := [.int (vr_I x1), .int (vr_I x2), .ref (vr_ad G 8)]) rfl (st := []) rfl (Nat.le_of_ble_eq_true rfl) dX7_spend_187 (fun r3 => ?_)
    refine jr_iload_n C0 3 dX7_spend_190 rfl rfl ?_
    refine jr_if_eq C0 h_x3 dX7_spend_191 (tgt := 208) (by decide) ?_ ?_
    · refine jr_sub [0] rfl ?_
      exact B208 _
    refine jr_aload_n C0 0 dX7_spend_194 rfl rfl ?_
    refine jr_getr C0 (by decide) kd_51 (by decide) rfl wx_X7 (i := 2) (by decide) wf_X7_12 (j := 52) rfl dX7_spend_195 ?_
    refine jr_aload_n C0 0 dX7_spend_198 rfl rfl ?_
    refine jr_getr C0 (by decide) kd_51 (by decide) rfl wx_X7 (i := 1) (by decide) wf_X7_28 (j := 8) rfl dX7_spend_199 ?_
    refine jr_geti C0 (by decide) kd_8 (by decide) rfl wx_X3 (i := 7) (by decide) wf_X7_87 rfl dX7_spend_202 ?_
    refine jr_gd (fun g4 => ?_)
    refine jr_vV0 C0 (by decide) kd_52 (by decide) rfl (ct_X2_growMouths l G (by decide) kd_52 (r3.2 8 7) g4 _) mi_X2_growMouths wm_X7_90 ⟨Nat.le_of_ble_eq_true rfl, Nat.le_of_ble_eq_true rfl⟩ ⟨rfl, rfl⟩ (As := [.int (vr_I (r3.2 8 7))]) rfl (st := []) rfl (Nat.le_of_ble_eq_true rfl) dX7_spend_205 (fun r5 => ?_)
    refine jr_sub [0] rfl ?_
    exact B208 _
  have B144 : ∀ (x1 : Int) (h_x1 : vr_R x1) (x2 : Int) (h_x2 : vr_R x2) (x3 : Int) (h_x3 : vr_R x3) (x4 : Int) (h_x4 : vr_R x4) (y1 : Int) (h_y1 : vr_R y1) (y2 : Int) (h_y2 : vr_R y2) (μ : vr_M), vr_J p l e ({ frames := 4, cells := 0, slots := 0, locals := 97 } : Room) s m args below meth c 7 0 0 G (vr_Z (vr_QV G) G args s below) 144 [(0, .ref (vr_ad G 51)), (1, .int (vr_I x1)), (2, .int (vr_I x2)), (3, .int (vr_I x3)), (4, .int (vr_I x4))] [.int (vr_I y2), .int (vr_I y1), .ref (vr_ad G 51)] μ (fX7_spend_B144 x1 x2 x3 x4 y1 y2 μ) := by
    intro x1 h_x1 x2 h_x2 x3 h_x3 x4 h_x4 y1 h_y1 y2 h_y2 μ
    unfold fX7_spend_B144
    refine jr_iadd C0 dX7_spend_144 ?_
    refine jr_puti C0 (by decide) kd_51 (by decide) rfl wx_X7 (i := 5) (by decide) wf_X7_49 rfl tyX7_ok nmX7 rfl rfl rfl dX7_spend_145 ?_
    refine jr_aload_n C0 0 dX7_spend_148 rfl rfl ?_
    refine jr_dup C0 rfl dX7_spend_149 ?_
    refine jr_let (fun μ6 => ?_)
    refine jr_geti C0 (by decide) kd_51 (by decide) rfl wx_X7 (i := 7) (by decide) wf_X7_55 rfl dX7_spend_150 ?_
    refine jr_iload C0 4 dX7_spend_153 rfl ?_
    refine jr_if_eq C0 h_x4 dX7_spend_155 (tgt := 162) (by decide) ?_ ?_
    · refine jr_iconst C0 dX7_spend_162 ?_
      refine jr_gd (fun g7 => ?_)
      refine jr_sub [0, 1, 2, 3] rfl ?_
      exact B163 x1 h_x1 x2 h_x2 x3 h_x3 (μ6 51 7) g7 0 (⟨by decide, by decide⟩) _
    refine jr_iconst C0 dX7_spend_158 ?_
    refine jr_goto C0 dX7_spend_159 (tgt := 163) (by decide) ?_
    refine jr_gd (fun g8 => ?_)
    refine jr_sub [0, 1, 2, 3] rfl ?_
    exact B163 x1 h_x1 x2 h_x2 x3 h_x3 (μ6 51 7) g8 1 (⟨by decide, by decide⟩) _
  have B127 : ∀ (x1 : Int) (h_x1 : vr_R x1) (x2 : Int) (h_x2 : vr_R x2) (x3 : Int) (h_x3 : vr_R x3) (x4 : Int) (h_x4 : vr_R x4) (μ : vr_M), vr_J p l e ({ frames := 4, cells := 0, slots := 0, locals := 97 } : Room) s m args below meth c 7 0 0 G (vr_Z (vr_QV G) G args s below) 127 [(0, .ref (vr_ad G 51)), (1, .int (vr_I x1)), (2, .int (vr_I x2)), (3, .int (vr_I x3)), (4, .int (vr_I x4))] [] μ (fX7_spend_B127 x1 x2 x3 x4 μ) := by
    intro x1 h_x1 x2 h_x2 x3 h_x3 x4 h_x4 μ
    unfold fX7_spend_B127
    refine jr_aload_n C0 0 dX7_spend_127 rfl rfl ?_
    refine jr_dup C0 rfl dX7_spend_128 ?_
    refine jr_geti C0 (by decide) kd_51 (by decide) rfl wx_X7 (i := 5) (by decide) wf_X7_49 rfl dX7_spend_129 ?_
    refine jr_aload_n C0 0 dX7_spend_132 rfl rfl ?_
    refine jr_geti C0 (by decide) kd_51 (by decide) rfl wx_X7 (i := 9) (by decide) wf_X7_76 rfl dX7_spend_133 ?_
    refine jr_gd (fun g9 => ?_)
    refine jr_if_eq C0 g9 dX7_spend_136 (tgt := 143) (by decide) ?_ ?_
    · refine jr_iconst C0 dX7_spend_143 ?_
      refine jr_gd (fun g10 => ?_)
      exact B144 x1 h_x1 x2 h_x2 x3 h_x3 x4 h_x4 (μ 51 5) g10 1 (⟨by decide, by decide⟩) _
    refine jr_iconst C0 dX7_spend_139 ?_
    refine jr_goto C0 dX7_spend_140 (tgt := 144) (by decide) ?_
    refine jr_gd (fun g11 => ?_)
    exact B144 x1 h_x1 x2 h_x2 x3 h_x3 x4 h_x4 (μ 51 5) g11 0 (⟨by decide, by decide⟩) _
  have B102 : ∀ (x1 : Int) (h_x1 : vr_R x1) (x2 : Int) (h_x2 : vr_R x2) (x3 : Int) (h_x3 : vr_R x3) (x4 : Int) (h_x4 : vr_R x4) (y1 : Int) (h_y1 : vr_R y1) (μ : vr_M), vr_J p l e ({ frames := 4, cells := 0, slots := 0, locals := 97 } : Room) s m args below meth c 7 0 0 G (vr_Z (vr_QV G) G args s below) 102 [(0, .ref (vr_ad G 51)), (1, .int (vr_I x1)), (2, .int (vr_I x2)), (3, .int (vr_I x3)), (4, .int (vr_I x4))] [.int (vr_I y1), .ref (vr_ad G 51)] μ (fX7_spend_B102 x1 x2 x3 x4 y1 μ) := by
    intro x1 h_x1 x2 h_x2 x3 h_x3 x4 h_x4 y1 h_y1 μ
    unfold fX7_spend_B102
    refine jr_gd (fun g12 => ?_)
    refine jr_puti C0 (by decide) kd_51 (by decide) rfl wx_X7 (i := 10) (by decide) wf_X7_80 rfl tyX7_ok nmX7 rfl (vr_nz g12) ((vr_fz .boolean (Or.inr rfl) (fun _ => g12)).2) dX7_spend_102 ?_
    refine jr_aload_n C0 0 dX7_spend_105 rfl rfl ?_
    refine jr_let (fun μ13 => ?_)
    refine jr_geti C0 (by decide) kd_51 (by decide) rfl wx_X7 (i := 9) (by decide) wf_X7_76 rfl dX7_spend_106 ?_
    refine jr_gd (fun g14 => ?_)
    refine jr_if_ne C0 g14 dX7_spend_109 (tgt := 127) (by decide) ?_ ?_
    · exact B127 x1 h_x1 x2 h_x2 x3 h_x3 x4 h_x4 _
    refine jr_aload_n C0 0 dX7_spend_112 rfl rfl ?_
    refine jr_geti C0 (by decide) kd_51 (by decide) rfl wx_X7 (i := 5) (by decide) wf_X7_49 rfl dX7_spend_113 ?_
    refine jr_gd (fun g15 => ?_)
    refine jr_if_ne C0 g15 dX7_spend_116 (tgt := 127) (by decide) ?_ ?_
    · exact B127 x1 h_x1 x2 h_x2 x3 h_x3 x4 h_x4 _
    refine jr_aload_n C0 0 dX7_spend_119 rfl rfl ?_
    refine jr_aload_n C0 0 dX7_spend_120 rfl rfl ?_
    refine jr_geti C0 (by decide) kd_51 (by decide) rfl wx_X7 (i := 4) (by decide) wf_X7_45 rfl dX7_spend_121 ?_
    refine jr_puti C0 (by decide) kd_51 (by decide) rfl wx_X7 (i := 6) (by decide) wf_X7_52 rfl tyX7_ok nmX7 rfl rfl rfl dX7_spend_124 ?_
    exact B127 x1 h_x1 x2 h_x2 x3 h_x3 x4 h_x4 _
  have B76 : ∀ (x1 : Int) (h_x1 : vr_R x1) (x2 : Int) (h_x2 : vr_R x2) (x3 : Int) (h_x3 : vr_R x3) (x4 : Int) (h_x4 : vr_R x4) (x5 : Int) (h_x5 : vr_R x5) (x6 : Int) (h_x6 : vr_R x6) (y1 : Int) (h_y1 : vr_R y1) (μ : vr_M), vr_J p l e ({ frames := 4, cells := 0, slots := 0, locals := 97 } : Room) s m args below meth c 7 0 0 G (vr_Z (vr_QV G) G args s below) 76 [(0, .ref (vr_ad G 51)), (1, .int (vr_I x1)), (2, .int (vr_I x2)), (3, .int (vr_I x3)), (4, .int (vr_I x4)), (5, .int (vr_I x5)), (6, .int (vr_I x6))] [.int (vr_I y1), .ref (vr_ad G 51)] μ (fX7_spend_B76 x1 x2 x3 x4 x5 x6 y1 μ) := by
    intro x1 h_x1 x2 h_x2 x3 h_x3 x4 h_x4 x5 h_x5 x6 h_x6 y1 h_y1 μ
    unfold fX7_spend_B76
    refine jr_gd (fun g16 => ?_)
    refine jr_puti C0 (by decide) kd_51 (by decide) rfl wx_X7 (i := 9) (by decide) wf_X7_76 rfl tyX7_ok nmX7 rfl (vr_nz g16) ((vr_fz .boolean (Or.inr rfl) (fun _ => g16)).2) dX7_spend_76 ?_
    refine jr_aload_n C0 0 dX7_spend_79 rfl rfl ?_
    refine jr_iload C0 6 dX7_spend_80 rfl ?_
    refine jr_iconst C0 dX7_spend_82 ?_
    refine jr_idiv C0 h_x6 (⟨by decide, by decide⟩) (by decide) dX7_spend_83 ?_
    refine jr_iload C0 5 dX7_spend_84 rfl ?_
    refine jr_isub C0 dX7_spend_86 ?_
    refine jr_aload_n C0 0 dX7_spend_87 rfl rfl ?_
    refine jr_getr C0 (by decide) kd_51 (by decide) rfl wx_X7 (i := 2) (by decide) wf_X7_12 (j := 52) rfl dX7_spend_88 ?_
    refine jr_let (fun μ17 => ?_)
    refine jr_geti C0 (by decide) kd_52 (by decide) rfl wx_X2 (i := 7) (by decide) wf_X7_73 rfl dX7_spend_91 ?_
    refine jr_gd (fun g18 => ?_)
    refine jr_gd (fun g19 => ?_)
    refine jr_icmp_lt C0 g18 g19 dX7_spend_94 (tgt := 101) (by decide) ?_ ?_
    · refine jr_iconst C0 dX7_spend_101 ?_
      refine jr_sub [0, 1, 2, 3, 4] rfl ?_
      exact B102 x1 h_x1 x2 h_x2 x3 h_x3 x4 h_x4 0 (⟨by decide, by decide⟩) _
    refine jr_iconst C0 dX7_spend_97 ?_
    refine jr_goto C0 dX7_spend_98 (tgt := 102) (by decide) ?_
    refine jr_sub [0, 1, 2, 3, 4] rfl ?_
    exact B102 x1 h_x1 x2 h_x2 x3 h_x3 x4 h_x4 1 (⟨by decide, by decide⟩) _
  have B34 : ∀ (x1 : Int) (h_x1 : vr_R x1) (x2 : Int) (h_x2 : vr_R x2) (x3 : Int) (h_x3 : vr_R x3) (x4 : Int) (h_x4 : vr_R x4) (y0 : Int) (h_y0 : vr_R y0) (μ : vr_M), vr_J p l e ({ frames := 4, cells := 0, slots := 0, locals := 97 } : Room) s m args below meth c 7 0 0 G (vr_Z (vr_QV G) G args s below) 34 [(0, .ref (vr_ad G 51)), (1, .int (vr_I x1)), (2, .int (vr_I x2)), (3, .int (vr_I x3)), (4, .int (vr_I x4))] [.int (vr_I y0)] μ (fX7_spend_B34 x1 x2 x3 x4 y0 μ) := by
    intro x1 h_x1 x2 h_x2 x3 h_x3 x4 h_x4 y0 h_y0 μ
    unfold fX7_spend_B34
    refine jr_istore C0 dX7_spend_34 (by decide) (lv' := [(5, .int (vr_I y0)), (0, .ref (vr_ad G 51)), (1, .int (vr_I x1)), (2, .int (vr_I x2)), (3, .int (vr_I x3)), (4, .int (vr_I x4))]) rfl ?_
    refine jr_aload_n C0 1 dX7_spend_36 rfl rfl ?_
    refine jr_getr C0 (by decide) kd_51 (by decide) rfl wx_X7 (i := 3) (by decide) wf_X7_34 (j := 58) rfl dX7_spend_37 ?_
    refine jr_iload_n C0 2 dX7_spend_40 rfl rfl ?_
    refine jr_iload_n C0 3 dX7_spend_41 rfl rfl ?_
    refine jr_vI C0 (by decide) kd_58 (by decide) rfl (ct_X0_giftOf l G x1 h_x1 x2 h_x2 _) mi_X0_giftOf wm_X7_66 ⟨Nat.le_of_ble_eq_true rfl, Nat.le_of_ble_eq_true rfl⟩ ⟨rfl, rfl⟩ (As := [.int (vr_I x1), .int (vr_I x2)]) rfl (st := []) rfl (Nat.le_of_ble_eq_true rfl) dX7_spend_42 (fun r20 hr20 => ?_)
    refine jr_istore C0 dX7_spend_45 (by decide) (lv' := [(6, .int (vr_I r20.1)), (5, .int (vr_I y0)), (0, .ref (vr_ad G 51)), (1, .int (vr_I x1)), (2, .int (vr_I x2)), (3, .int (vr_I x3)), (4, .int (vr_I x4))]) rfl ?_
    refine jr_aload_n C0 2 dX7_spend_47 rfl rfl ?_
    refine jr_iload C0 0 dX7_spend_48 rfl ?_
    refine jr_iload C0 1 dX7_spend_50 rfl ?_
    refine jr_isub C0 dX7_spend_52 ?_
    refine jr_puti C0 (by decide) kd_51 (by decide) rfl wx_X7 (i := 8) (by decide) wf_X7_70 rfl tyX7_ok nmX7 rfl rfl rfl dX7_spend_53 ?_
    refine jr_aload_n C0 2 dX7_spend_56 rfl rfl ?_
    refine jr_aload_n C0 2 dX7_spend_57 rfl rfl ?_
    refine jr_let (fun μ21 => ?_)
    refine jr_geti C0 (by decide) kd_51 (by decide) rfl wx_X7 (i := 8) (by decide) wf_X7_70 rfl dX7_spend_58 ?_
    refine jr_aload_n C0 2 dX7_spend_61 rfl rfl ?_
    refine jr_getr C0 (by decide) kd_51 (by decide) rfl wx_X7 (i := 2) (by decide) wf_X7_12 (j := 52) rfl dX7_spend_62 ?_
    refine jr_geti C0 (by decide) kd_52 (by decide) rfl wx_X2 (i := 7) (by decide) wf_X7_73 rfl dX7_spend_65 ?_
    refine jr_gd (fun g22 => ?_)
    refine jr_gd (fun g23 => ?_)
    refine jr_icmp_lt C0 g22 g23 dX7_spend_68 (tgt := 75) (by decide) ?_ ?_
    · refine jr_iconst C0 dX7_spend_75 ?_
      refine jr_sub [2, 3, 4, 5, 6, 1, 0] rfl ?_
      exact B76 x1 h_x1 x2 h_x2 x3 h_x3 x4 h_x4 y0 h_y0 r20.1 hr20 0 (⟨by decide, by decide⟩) _
    refine jr_iconst C0 dX7_spend_71 ?_
    refine jr_goto C0 dX7_spend_72 (tgt := 76) (by decide) ?_
    refine jr_sub [2, 3, 4, 5, 6, 1, 0] rfl ?_
    exact B76 x1 h_x1 x2 h_x2 x3 h_x3 x4 h_x4 y0 h_y0 r20.1 hr20 1 (⟨by decide, by decide⟩) _
  have B16 : ∀ (x1 : Int) (h_x1 : vr_R x1) (x2 : Int) (h_x2 : vr_R x2) (x3 : Int) (h_x3 : vr_R x3) (y0 : Int) (h_y0 : vr_R y0) (μ : vr_M), vr_J p l e ({ frames := 4, cells := 0, slots := 0, locals := 97 } : Room) s m args below meth c 7 0 0 G (vr_Z (vr_QV G) G args s below) 16 [(0, .ref (vr_ad G 51)), (1, .int (vr_I x1)), (2, .int (vr_I x2)), (3, .int (vr_I x3))] [.int (vr_I y0)] μ (fX7_spend_B16 x1 x2 x3 y0 μ) := by
    intro x1 h_x1 x2 h_x2 x3 h_x3 y0 h_y0 μ
    unfold fX7_spend_B16
    refine jr_istore C0 dX7_spend_16 (by decide) (lv' := [(4, .int (vr_I y0)), (0, .ref (vr_ad G 51)), (1, .int (vr_I x1)), (2, .int (vr_I x2)), (3, .int (vr_I x3))]) rfl ?_
    refine jr_iload C0 0 dX7_spend_18 rfl ?_
    refine jr_if_eq C0 h_y0 dX7_spend_20 (tgt := 33) (by decide) ?_ ?_
    · refine jr_iconst C0 dX7_spend_33 ?_
      refine jr_sub [1, 2, 3, 4, 0] rfl ?_
      exact B34 x1 h_x1 x2 h_x2 x3 h_x3 y0 h_y0 0 (⟨by decide, by decide⟩) _
    refine jr_aload_n C0 1 dX7_spend_23 rfl rfl ?_
    refine jr_getr C0 (by decide) kd_51 (by decide) rfl wx_X7 (i := 1) (by decide) wf_X7_28 (j := 8) rfl dX7_spend_24 ?_
    refine jr_geti C0 (by decide) kd_8 (by decide) rfl wx_X3 (i := 6) (by decide) wf_X7_61 rfl dX7_spend_27 ?_
    refine jr_goto C0 dX7_spend_30 (tgt := 34) (by decide) ?_
    refine jr_gd (fun g24 => ?_)
    refine jr_sub [1, 2, 3, 4, 0] rfl ?_
    exact B34 x1 h_x1 x2 h_x2 x3 h_x3 y0 h_y0 (μ 8 6) g24 _
  unfold fX7_spend
  refine jr_iload_n C0 2 dX7_spend_0 rfl rfl ?_
  refine jr_aload_n C0 0 dX7_spend_1 rfl rfl ?_
  refine jr_getr C0 (by decide) kd_51 (by decide) rfl wx_X7 (i := 2) (by decide) wf_X7_12 (j := 52) rfl dX7_spend_2 ?_
  refine jr_geti C0 (by decide) kd_52 (by decide) rfl wx_X2 (i := 6) (by decide) wf_X7_58 rfl dX7_spend_5 ?_
  refine jr_gd (fun g25 => ?_)
  refine jr_icmp_eq C0 h_a1 g25 dX7_spend_8 (tgt := 15) (by decide) ?_ ?_
  · refine jr_iconst C0 dX7_spend_15 ?_
    exact B16 a0 h_a0 a1 h_a1 a2 h_a2 0 (⟨by decide, by decide⟩) _
  refine jr_iconst C0 dX7_spend_11 ?_
  refine jr_goto C0 dX7_spend_12 (tgt := 16) (by decide) ?_
  exact B16 a0 h_a0 a1 h_a1 a2 h_a2 1 (⟨by decide, by decide⟩) _
theorem dX7_spendYears_0 : decode cX7_spendYears 0 = .ok (.iconst 0, 1) := by decide +kernel
theorem dX7_spendYears_1 : decode cX7_spendYears 1 = .ok (.istore_n 3, 1) := by decide +kernel
theorem dX7_spendYears_2 : decode cX7_spendYears 2 = .ok (.iload_n 3, 1) := by decide +kernel
theorem dX7_spendYears_3 : decode cX7_spendYears 3 = .ok (.iload_n 1, 1) := by decide +kernel
theorem dX7_spendYears_4 : decode cX7_spendYears 4 = .ok (.if_icmp .ge 34, 3) := by decide +kernel
theorem dX7_spendYears_7 : decode cX7_spendYears 7 = .ok (.aload_n 0, 1) := by decide +kernel
theorem dX7_spendYears_8 : decode cX7_spendYears 8 = .ok (.getfield 34, 3) := by decide +kernel
theorem dX7_spendYears_11 : decode cX7_spendYears 11 = .ok (.invokevirtual 94, 3) := by decide +kernel
theorem dX7_spendYears_14 : decode cX7_spendYears 14 = .ok (.istore 4, 2) := by decide +kernel
theorem dX7_spendYears_16 : decode cX7_spendYears 16 = .ok (.aload_n 0, 1) := by decide +kernel
theorem dX7_spendYears_17 : decode cX7_spendYears 17 = .ok (.aload_n 0, 1) := by decide +kernel
theorem dX7_spendYears_18 : decode cX7_spendYears 18 = .ok (.getfield 34, 3) := by decide +kernel
theorem dX7_spendYears_21 : decode cX7_spendYears 21 = .ok (.iload 4, 2) := by decide +kernel
theorem dX7_spendYears_23 : decode cX7_spendYears 23 = .ok (.invokevirtual 98, 3) := by decide +kernel
theorem dX7_spendYears_26 : decode cX7_spendYears 26 = .ok (.iload 4, 2) := by decide +kernel
theorem dX7_spendYears_28 : decode cX7_spendYears 28 = .ok (.iload_n 2, 1) := by decide +kernel
theorem dX7_spendYears_29 : decode cX7_spendYears 29 = .ok (.invokevirtual 102, 3) := by decide +kernel
theorem dX7_spendYears_32 : decode cX7_spendYears 32 = .ok (.iinc 3 1, 3) := by decide +kernel
theorem dX7_spendYears_35 : decode cX7_spendYears 35 = .ok (.goto (-33), 3) := by decide +kernel
theorem dX7_spendYears_38 : decode cX7_spendYears 38 = .ok (.return_, 1) := by decide +kernel
def fX7_spendYears_L2 : Nat → Int → Int → Int → vr_M → Option (Int × vr_M)
  | 0, _, _, _, _ => none
  | n + 1, x1, x2, x3, μ => if x1 ≤ x3 then some (0, μ) else (fX0_goal  μ).bind (fun r1 => (fX0_picks r1.1 r1.2).bind (fun r2 => (fX7_spend r2.1 r1.1 x2 r2.2).bind (fun r3 => vr_gd (vr_R (x3 + 1)) ((fX7_spendYears_L2 n) x1 x2 (x3 + 1) r3.2))))
def fX7_spendYears (a0 : Int) (a1 : Int) (μ : vr_M) : Option (Int × vr_M) :=
  fX7_spendYears_L2 9000 a0 a1 0 μ
set_option maxRecDepth 100000 in
set_option maxHeartbeats 4000000 in
theorem ct_X7_spendYears (l : Launch) (G : vr_G) (a0 : Int) (h_a0 : vr_R a0) (a1 : Int) (h_a1 : vr_R a1) (μ : vr_M) : vr_CV l yX7_spendYears cX7_spendYears 5 none ({ frames := 5, cells := 0, slots := 0, locals := 123 } : Room) G [.ref (vr_ad G 51), .int (vr_I a0), .int (vr_I a1)] μ (fX7_spendYears a0 a1 μ) := by
  refine vr_start (own := RX7) (by decide) rfl (Nat.le_of_ble_eq_true rfl) (fun p e s m args below meth c C0 => ?_)
  show vr_J p l e _ s m args below meth c 5 0 0 G (vr_Z (vr_QV G) G args s below) 0 [(0, .ref (vr_ad G 51)), (1, .int (vr_I a0)), (2, .int (vr_I a1))] [] μ _
  have L2 : ∀ (n : Nat) (x1 : Int) (h_x1 : vr_R x1) (x2 : Int) (h_x2 : vr_R x2) (x3 : Int) (h_x3 : vr_R x3) (μ : vr_M), vr_J p l e ({ frames := 5, cells := 0, slots := 0, locals := 123 } : Room) s m args below meth c 5 0 0 G (vr_Z (vr_QV G) G args s below) 2 [(0, .ref (vr_ad G 51)), (1, .int (vr_I x1)), (2, .int (vr_I x2)), (3, .int (vr_I x3))] [] μ (fX7_spendYears_L2 n x1 x2 x3 μ) := by
    intro n2
    induction n2 with
    | zero => intros; exact jr_none
    | succ n2 ih2 =>
      intro x1 h_x1 x2 h_x2 x3 h_x3 μ
      rw [fX7_spendYears_L2.eq_2]
      refine jr_iload_n C0 3 dX7_spendYears_2 rfl rfl ?_
      refine jr_iload_n C0 1 dX7_spendYears_3 rfl rfl ?_
      refine jr_icmp_ge C0 h_x3 h_x1 dX7_spendYears_4 (tgt := 38) (by decide) ?_ ?_
      · exact jr_vret C0 dX7_spendYears_38
      refine jr_aload_n C0 0 dX7_spendYears_7 rfl rfl ?_
      refine jr_getr C0 (by decide) kd_51 (by decide) rfl wx_X7 (i := 3) (by decide) wf_X7_34 (j := 58) rfl dX7_spendYears_8 ?_
      refine jr_vI C0 (by decide) kd_58 (by decide) rfl (ct_X0_goal l G  _) mi_X0_goal wm_X7_94 ⟨Nat.le_of_ble_eq_true rfl, Nat.le_of_ble_eq_true rfl⟩ ⟨rfl, rfl⟩ (As := []) rfl (st := []) rfl (Nat.le_of_ble_eq_true rfl) dX7_spendYears_11 (fun r1 hr1 => ?_)
      refine jr_istore C0 dX7_spendYears_14 (by decide) (lv' := [(4, .int (vr_I r1.1)), (0, .ref (vr_ad G 51)), (1, .int (vr_I x1)), (2, .int (vr_I x2)), (3, .int (vr_I x3))]) rfl ?_
      refine jr_aload_n C0 1 dX7_spendYears_16 rfl rfl ?_
      refine jr_aload_n C0 1 dX7_spendYears_17 rfl rfl ?_
      refine jr_getr C0 (by decide) kd_51 (by decide) rfl wx_X7 (i := 3) (by decide) wf_X7_34 (j := 58) rfl dX7_spendYears_18 ?_
      refine jr_iload C0 0 dX7_spendYears_21 rfl ?_
      refine jr_vI C0 (by decide) kd_58 (by decide) rfl (ct_X0_picks l G r1.1 hr1 _) mi_X0_picks wm_X7_98 ⟨Nat.le_of_ble_eq_true rfl, Nat.le_of_ble_eq_true rfl⟩ ⟨rfl, rfl⟩ (As := [.int (vr_I r1.1)]) rfl (st := [.ref (vr_ad G 51)]) rfl (Nat.le_of_ble_eq_true rfl) dX7_spendYears_23 (fun r2 hr2 => ?_)
      refine jr_iload C0 0 dX7_spendYears_26 rfl ?_
      refine jr_iload_n C0 3 dX7_spendYears_28 rfl rfl ?_
      refine jr_vV0 C0 (by decide) kd_51 (by decide) rfl (ct_X7_spend l G r2.1 hr2 r1.1 hr1 x2 h_x2 _) mi_X7_spend wm_X7_102 ⟨Nat.le_of_ble_eq_true rfl, Nat.le_of_ble_eq_true rfl⟩ ⟨rfl, rfl⟩ (As := [.int (vr_I r2.1), .int (vr_I r1.1), .int (vr_I x2)]) rfl (st := []) rfl (Nat.le_of_ble_eq_true rfl) dX7_spendYears_29 (fun r3 => ?_)
      refine jr_iinc C0 (q := 4) dX7_spendYears_32 rfl (by decide) (lv' := [(3, .int (vr_I (x3 + 1))), (4, .int (vr_I r1.1)), (0, .ref (vr_ad G 51)), (1, .int (vr_I x1)), (2, .int (vr_I x2))]) rfl ?_
      refine jr_goto C0 dX7_spendYears_35 (tgt := 2) (by decide) ?_
      refine jr_gd (fun g4 => ?_)
      refine jr_sub [2, 3, 4, 0] rfl ?_
      exact ih2 x1 h_x1 x2 h_x2 (x3 + 1) g4 _
  unfold fX7_spendYears
  refine jr_iconst C0 dX7_spendYears_0 ?_
  refine jr_istore_n C0 dX7_spendYears_1 rfl (by decide) (lv' := [(3, .int (vr_I 0)), (0, .ref (vr_ad G 51)), (1, .int (vr_I a0)), (2, .int (vr_I a1))]) rfl ?_
  refine jr_sub [1, 2, 3, 0] rfl ?_
  exact L2 9000 a0 h_a0 a1 h_a1 0 (⟨by decide, by decide⟩) _
