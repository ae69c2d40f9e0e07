/-! the methods of an act once more: arithmetic that wraps -/
def vr_w (e : Int) : Int := (vr_I e).toInt
theorem vr_Iw (e : Int) : vr_I (vr_w e) = vr_I e := vr_IT _
theorem vr_wR {e : Int} (h : vr_R e) : vr_w e = e := vr_toInt h
section VRW
variable {ρ : Type} {p : Program} {l : Launch} {e : Env} {R : Room} {s : State} {m : MethodId} {args : Array Value} {below : List Frame} {meth : Method} {c : Code} {nL nc ns : Nat} {G : vr_G} {Z : ρ → State → Prop} {pc : Nat} {lv lv' : List (Nat × Value)} {st : List Value} {μ : vr_M} {P P1 P2 : Option ρ} {own : String} {cc : ByteArray} {ret : Option FieldType}
theorem jr_iaddw (C0 : vr_Cx R nc ns p s m args meth c own cc nL ret G) {x y : Int}  (hdg : decode cc pc = .ok (.iadd, 1)) (kk : vr_J p l e R s m args below meth c nL nc ns G Z (pc + 1) lv (.int (vr_I (vr_w (x + y))) :: st) μ P) : vr_J p l e R s m args below meth c nL nc ns G Z pc lv (.int (vr_I y) :: .int (vr_I x) :: st) μ P := jr_iadd C0 hdg (by rw [vr_Iw] at kk; exact kk)
theorem jr_isubw (C0 : vr_Cx R nc ns p s m args meth c own cc nL ret G) {x y : Int}  (hdg : decode cc pc = .ok (.isub, 1)) (kk : vr_J p l e R s m args below meth c nL nc ns G Z (pc + 1) lv (.int (vr_I (vr_w (x - y))) :: st) μ P) : vr_J p l e R s m args below meth c nL nc ns G Z pc lv (.int (vr_I y) :: .int (vr_I x) :: st) μ P := jr_isub C0 hdg (by rw [vr_Iw] at kk; exact kk)
theorem jr_imulw (C0 : vr_Cx R nc ns p s m args meth c own cc nL ret G) {x y : Int}  (hdg : decode cc pc = .ok (.imul, 1)) (kk : vr_J p l e R s m args below meth c nL nc ns G Z (pc + 1) lv (.int (vr_I (vr_w (x * y))) :: st) μ P) : vr_J p l e R s m args below meth c nL nc ns G Z pc lv (.int (vr_I y) :: .int (vr_I x) :: st) μ P := jr_imul C0 hdg (by rw [vr_Iw] at kk; exact kk)
theorem jr_inegw (C0 : vr_Cx R nc ns p s m args meth c own cc nL ret G) {x : Int} (hdg : decode cc pc = .ok (.ineg, 1)) (kk : vr_J p l e R s m args below meth c nL nc ns G Z (pc + 1) lv (.int (vr_I (vr_w (-x))) :: st) μ P) : vr_J p l e R s m args below meth c nL nc ns G Z pc lv (.int (vr_I x) :: st) μ P := jr_ineg C0 hdg (by rw [vr_Iw] at kk; exact kk)
end VRW
def fX5_runw_B26 (rc : Int → Int → Int → vr_M → Option (Int × vr_M)) (x1 : Int) (x2 : Int) (x3 : Int) (μ : vr_M) : Option (Int × vr_M) :=
  vr_ls x1 [(1, vr_let (vr_u μ 66 1 (vr_w ((μ 66 1) + 1))) (fun μ1 => some (vr_w (x2 + (μ1 66 4)), μ1))), (2, vr_let (vr_u μ 66 1 (vr_w ((μ 66 1) + 1))) (fun μ2 => vr_gd (vr_R (μ2 66 2)) ((fX5_call rc (μ2 66 2) 0 x2 x3 μ2).bind (fun r4 => some (vr_w (r4.1 - (r4.2 66 3)), r4.2))))), (3, vr_let (vr_u μ 66 1 (vr_w ((μ 66 1) + 1))) (fun μ5 => vr_gd (vr_R (μ5 66 2)) ((fX5_call rc (μ5 66 2) 1 x2 x3 μ5).bind (fun r7 => some (vr_w (r7.1 * 2), r7.2))))), (11, (fX5_callAbove rc 1 0 (vr_w (x2 * 3)) x3 (vr_u μ 66 1 (vr_w ((μ 66 1) + 1)))).bind (fun r8 => some (r8.1, r8.2))), (21, (fX5_callAbove rc 2 1 x2 x3 (vr_u μ 66 1 (vr_w ((μ 66 1) + 1)))).bind (fun r9 => some (vr_w (-r9.1), r9.2))), (31, (fX5_callAbove rc 3 2 x2 x3 (vr_u μ 66 1 (vr_w ((μ 66 1) + 1)))).bind (fun r10 => some (vr_xor r10.1 7, r10.2))), (41, (fX5_callAbove rc 4 2 (vr_w (x2 - 1)) x3 (vr_u μ 66 1 (vr_w ((μ 66 1) + 1)))).bind (fun r11 => vr_gd (vr_R (r11.2 66 2)) ((fX5_call rc (r11.2 66 2) 0 2 x3 r11.2).bind (fun r13 => some (vr_w (r11.1 + r13.1), r13.2))))), (51, (fX5_callAbove rc 5 0 x2 x3 (vr_u μ 66 1 (vr_w ((μ 66 1) + 1)))).bind (fun r14 => some (vr_xor r14.1 (r14.2 66 4), r14.2))), (61, (fX5_callAbove rc 6 1 x2 x3 (vr_u μ 66 1 (vr_w ((μ 66 1) + 1)))).bind (fun r15 => some (vr_w (r15.1 + (r15.2 66 3)), r15.2)))] (some (0, vr_u μ 66 1 (vr_w ((μ 66 1) + 1))))
def fX5_runw_1 (rc : Int → Int → Int → vr_M → Option (Int × vr_M)) (a0 : Int) (a1 : Int) (a2 : Int) (μ : vr_M) : Option (Int × vr_M) :=
  vr_gd (vr_R (μ 66 1)) (if (μ 66 1) < 0 then fX5_runw_B26 rc a0 a1 a2 μ else if 20 ≤ (μ 66 1) then fX5_runw_B26 rc a0 a1 a2 μ else vr_gd (0 ≤ (μ 66 1) ∧ (μ 66 1) < 20) (fX5_runw_B26 rc a0 a1 a2 (vr_u μ 67 (μ 66 1).toNat a0)))
def fX5_runw : Nat → Int → Int → Int → vr_M → Option (Int × vr_M)
  | 0, _, _, _, _ => none
  | d + 1, a0, a1, a2, μ => fX5_runw_1 (fX5_runw d) a0 a1 a2 μ
set_option maxRecDepth 100000 in
set_option maxHeartbeats 4000000 in
theorem ct_X5_runw_1 (l : Launch) (G : vr_G) {d : Nat} {rc : Int → Int → Int → vr_M → Option (Int × vr_M)} (hrc : ∀ (a0 : Int) (_ : vr_R a0) (a1 : Int) (_ : vr_R a1) (a2 : Int) (_ : vr_R a2) (μ : vr_M), vr_CI l yX5_run cX5_run 4 (some .int) ({ frames := 4 * d + 6, cells := 0, slots := 0, locals := 140 * d + 200 } : Room) G [.ref (vr_ad G 66), .int (vr_I a0), .int (vr_I a1), .int (vr_I a2)] μ (rc a0 a1 a2 μ)) (a0 : Int) (h_a0 : vr_R a0) (a1 : Int) (h_a1 : vr_R a1) (a2 : Int) (h_a2 : vr_R a2) (μ : vr_M) : vr_CI l yX5_run cX5_run 4 (some .int) ({ frames := 4 * (d + 1) + 6, cells := 0, slots := 0, locals := 140 * (d + 1) + 200 } : Room) G [.ref (vr_ad G 66), .int (vr_I a0), .int (vr_I a1), .int (vr_I a2)] μ (fX5_runw_1 rc a0 a1 a2 μ) := by
  refine vr_start (own := RX5) (by decide) rfl (Nat.le_of_ble_eq_true rfl) (fun p e s m args below meth c C0 => ?_)
  show vr_J p l e _ s m args below meth c 4 0 0 G (vr_Z (vr_QI G) G args s below) 0 [(0, .ref (vr_ad G 66)), (1, .int (vr_I a0)), (2, .int (vr_I a1)), (3, .int (vr_I a2))] [] μ _
  have B26 : ∀ (x1 : Int) (h_x1 : vr_R x1) (x2 : Int) (h_x2 : vr_R x2) (x3 : Int) (h_x3 : vr_R x3) (μ : vr_M), vr_J p l e ({ frames := 4 * (d + 1) + 6, cells := 0, slots := 0, locals := 140 * (d + 1) + 200 } : Room) s m args below meth c 4 0 0 G (vr_Z (vr_QI G) G args s below) 26 [(0, .ref (vr_ad G 66)), (1, .int (vr_I x1)), (2, .int (vr_I x2)), (3, .int (vr_I x3))] [] μ (fX5_runw_B26 rc x1 x2 x3 μ) := by
    intro x1 h_x1 x2 h_x2 x3 h_x3 μ
    unfold fX5_runw_B26
    refine jr_aload_n C0 0 dX5_run_26 rfl rfl ?_
    refine jr_dup C0 rfl dX5_run_27 ?_
    refine jr_geti C0 (by decide) kd_66 (by decide) rfl wx_X5 (i := 1) (by decide) wf_X5_39 rfl dX5_run_28 ?_
    refine jr_iconst C0 dX5_run_31 ?_
    refine jr_iaddw C0 dX5_run_32 ?_
    refine jr_puti C0 (by decide) kd_66 (by decide) rfl wx_X5 (i := 1) (by decide) wf_X5_39 rfl tyX5_ok nmX5 rfl rfl rfl dX5_run_33 ?_
    refine jr_iload_n C0 1 dX5_run_36 rfl rfl ?_
    refine jr_lsw C0 h_x1 dX5_run_37 (by decide) (td := 243) (by decide) (vr_LS_cons (tgt := 120) (by decide) ?_ (vr_LS_cons (tgt := 127) (by decide) ?_ (vr_LS_cons (tgt := 144) (by decide) ?_ (vr_LS_cons (tgt := 158) (by decide) ?_ (vr_LS_cons (tgt := 169) (by decide) ?_ (vr_LS_cons (tgt := 179) (by decide) ?_ (vr_LS_cons (tgt := 191) (by decide) ?_ (vr_LS_cons (tgt := 214) (by decide) ?_ (vr_LS_cons (tgt := 228) (by decide) ?_ vr_LS_nil))))))))) ?_
    · show vr_J p l e _ s m args below meth c _ _ _ G _ 120 _ _ _ _
      refine jr_iload_n C0 2 dX5_run_120 rfl rfl ?_
      refine jr_aload_n C0 0 dX5_run_121 rfl rfl ?_
      refine jr_let (fun μ1 => ?_)
      refine jr_geti C0 (by decide) kd_66 (by decide) rfl wx_X5 (i := 4) (by decide) wf_X5_22 rfl dX5_run_122 ?_
      refine jr_iaddw C0 dX5_run_125 ?_
      exact jr_iret C0 (vr_RT _) dX5_run_126
    · show vr_J p l e _ s m args below meth c _ _ _ G _ 127 _ _ _ _
      refine jr_aload_n C0 0 dX5_run_127 rfl rfl ?_
      refine jr_aload_n C0 0 dX5_run_128 rfl rfl ?_
      refine jr_let (fun μ2 => ?_)
      refine jr_geti C0 (by decide) kd_66 (by decide) rfl wx_X5 (i := 2) (by decide) wf_X5_15 rfl dX5_run_129 ?_
      refine jr_iconst C0 dX5_run_132 ?_
      refine jr_iload_n C0 2 dX5_run_133 rfl rfl ?_
      refine jr_iload_n C0 3 dX5_run_134 rfl rfl ?_
      refine jr_gd (fun g3 => ?_)
      refine jr_vI C0 (by decide) kd_66 (by decide) rfl (ct_X5_call l G hrc (μ2 66 2) g3 0 (⟨by decide, by decide⟩) x2 h_x2 x3 h_x3 _) mi_X5_call wm_X5_25 ⟨by dsimp only; omega, by dsimp only; omega⟩ ⟨rfl, rfl⟩ (As := [.int (vr_I (μ2 66 2)), .int (vr_I 0), .int (vr_I x2), .int (vr_I x3)]) rfl (st := []) rfl (Nat.le_of_ble_eq_true rfl) dX5_run_135 (fun r4 hr4 => ?_)
      refine jr_aload_n C0 0 dX5_run_138 rfl rfl ?_
      refine jr_geti C0 (by decide) kd_66 (by decide) rfl wx_X5 (i := 3) (by decide) wf_X5_19 rfl dX5_run_139 ?_
      refine jr_isubw C0 dX5_run_142 ?_
      exact jr_iret C0 (vr_RT _) dX5_run_143
    · show vr_J p l e _ s m args below meth c _ _ _ G _ 144 _ _ _ _
      refine jr_aload_n C0 0 dX5_run_144 rfl rfl ?_
      refine jr_aload_n C0 0 dX5_run_145 rfl rfl ?_
      refine jr_let (fun μ5 => ?_)
      refine jr_geti C0 (by decide) kd_66 (by decide) rfl wx_X5 (i := 2) (by decide) wf_X5_15 rfl dX5_run_146 ?_
      refine jr_iconst C0 dX5_run_149 ?_
      refine jr_iload_n C0 2 dX5_run_150 rfl rfl ?_
      refine jr_iload_n C0 3 dX5_run_151 rfl rfl ?_
      refine jr_gd (fun g6 => ?_)
      refine jr_vI C0 (by decide) kd_66 (by decide) rfl (ct_X5_call l G hrc (μ5 66 2) g6 1 (⟨by decide, by decide⟩) x2 h_x2 x3 h_x3 _) mi_X5_call wm_X5_25 ⟨by dsimp only; omega, by dsimp only; omega⟩ ⟨rfl, rfl⟩ (As := [.int (vr_I (μ5 66 2)), .int (vr_I 1), .int (vr_I x2), .int (vr_I x3)]) rfl (st := []) rfl (Nat.le_of_ble_eq_true rfl) dX5_run_152 (fun r7 hr7 => ?_)
      refine jr_iconst C0 dX5_run_155 ?_
      refine jr_imulw C0 dX5_run_156 ?_
      exact jr_iret C0 (vr_RT _) dX5_run_157
    · show vr_J p l e _ s m args below meth c _ _ _ G _ 158 _ _ _ _
      refine jr_aload_n C0 0 dX5_run_158 rfl rfl ?_
      refine jr_iconst C0 dX5_run_159 ?_
      refine jr_iconst C0 dX5_run_160 ?_
      refine jr_iload_n C0 2 dX5_run_161 rfl rfl ?_
      refine jr_iconst C0 dX5_run_162 ?_
      refine jr_imulw C0 dX5_run_163 ?_
      refine jr_iload_n C0 3 dX5_run_164 rfl rfl ?_
      refine jr_vI C0 (by decide) kd_66 (by decide) rfl (ct_X5_callAbove l G hrc 1 (⟨by decide, by decide⟩) 0 (⟨by decide, by decide⟩) (vr_w (x2 * 3)) (vr_RT _) x3 h_x3 _) mi_X5_callAbove wm_X5_42 ⟨by dsimp only; omega, by dsimp only; omega⟩ ⟨rfl, rfl⟩ (As := [.int (vr_I 1), .int (vr_I 0), .int (vr_I (vr_w (x2 * 3))), .int (vr_I x3)]) rfl (st := []) rfl (Nat.le_of_ble_eq_true rfl) dX5_run_165 (fun r8 hr8 => ?_)
      exact jr_iret C0 hr8 dX5_run_168
    · show vr_J p l e _ s m args below meth c _ _ _ G _ 169 _ _ _ _
      refine jr_aload_n C0 0 dX5_run_169 rfl rfl ?_
      refine jr_iconst C0 dX5_run_170 ?_
      refine jr_iconst C0 dX5_run_171 ?_
      refine jr_iload_n C0 2 dX5_run_172 rfl rfl ?_
      refine jr_iload_n C0 3 dX5_run_173 rfl rfl ?_
      refine jr_vI C0 (by decide) kd_66 (by decide) rfl (ct_X5_callAbove l G hrc 2 (⟨by decide, by decide⟩) 1 (⟨by decide, by decide⟩) x2 h_x2 x3 h_x3 _) mi_X5_callAbove wm_X5_42 ⟨by dsimp only; omega, by dsimp only; omega⟩ ⟨rfl, rfl⟩ (As := [.int (vr_I 2), .int (vr_I 1), .int (vr_I x2), .int (vr_I x3)]) rfl (st := []) rfl (Nat.le_of_ble_eq_true rfl) dX5_run_174 (fun r9 hr9 => ?_)
      refine jr_inegw C0 dX5_run_177 ?_
      exact jr_iret C0 (vr_RT _) dX5_run_178
    · show vr_J p l e _ s m args below meth c _ _ _ G _ 179 _ _ _ _
      refine jr_aload_n C0 0 dX5_run_179 rfl rfl ?_
      refine jr_iconst C0 dX5_run_180 ?_
      refine jr_iconst C0 dX5_run_181 ?_
      refine jr_iload_n C0 2 dX5_run_182 rfl rfl ?_
      refine jr_iload_n C0 3 dX5_run_183 rfl rfl ?_
      refine jr_vI C0 (by decide) kd_66 (by decide) rfl (ct_X5_callAbove l G hrc 3 (⟨by decide, by decide⟩) 2 (⟨by decide, by decide⟩) x2 h_x2 x3 h_x3 _) mi_X5_callAbove wm_X5_42 ⟨by dsimp only; omega, by dsimp only; omega⟩ ⟨rfl, rfl⟩ (As := [.int (vr_I 3), .int (vr_I 2), .int (vr_I x2), .int (vr_I x3)]) rfl (st := []) rfl (Nat.le_of_ble_eq_true rfl) dX5_run_184 (fun r10 hr10 => ?_)
      refine jr_bipush C0 dX5_run_187 rfl ?_
      refine jr_ixor C0 dX5_run_189 ?_
      exact jr_iret C0 (vr_RT _) dX5_run_190
    · show vr_J p l e _ s m args below meth c _ _ _ G _ 191 _ _ _ _
      refine jr_aload_n C0 0 dX5_run_191 rfl rfl ?_
      refine jr_iconst C0 dX5_run_192 ?_
      refine jr_iconst C0 dX5_run_193 ?_
      refine jr_iload_n C0 2 dX5_run_194 rfl rfl ?_
      refine jr_iconst C0 dX5_run_195 ?_
      refine jr_isubw C0 dX5_run_196 ?_
      refine jr_iload_n C0 3 dX5_run_197 rfl rfl ?_
      refine jr_vI C0 (by decide) kd_66 (by decide) rfl (ct_X5_callAbove l G hrc 4 (⟨by decide, by decide⟩) 2 (⟨by decide, by decide⟩) (vr_w (x2 - 1)) (vr_RT _) x3 h_x3 _) mi_X5_callAbove wm_X5_42 ⟨by dsimp only; omega, by dsimp only; omega⟩ ⟨rfl, rfl⟩ (As := [.int (vr_I 4), .int (vr_I 2), .int (vr_I (vr_w (x2 - 1))), .int (vr_I x3)]) rfl (st := []) rfl (Nat.le_of_ble_eq_true rfl) dX5_run_198 (fun r11 hr11 => ?_)
      refine jr_aload_n C0 0 dX5_run_201 rfl rfl ?_
      refine jr_aload_n C0 0 dX5_run_202 rfl rfl ?_
      refine jr_geti C0 (by decide) kd_66 (by decide) rfl wx_X5 (i := 2) (by decide) wf_X5_15 rfl dX5_run_203 ?_
      refine jr_iconst C0 dX5_run_206 ?_
      refine jr_iconst C0 dX5_run_207 ?_
      refine jr_iload_n C0 3 dX5_run_208 rfl rfl ?_
      refine jr_gd (fun g12 => ?_)
      refine jr_vI C0 (by decide) kd_66 (by decide) rfl (ct_X5_call l G hrc (r11.2 66 2) g12 0 (⟨by decide, by decide⟩) 2 (⟨by decide, by decide⟩) x3 h_x3 _) mi_X5_call wm_X5_25 ⟨by dsimp only; omega, by dsimp only; omega⟩ ⟨rfl, rfl⟩ (As := [.int (vr_I (r11.2 66 2)), .int (vr_I 0), .int (vr_I 2), .int (vr_I x3)]) rfl (st := [.int (vr_I r11.1)]) rfl (Nat.le_of_ble_eq_true rfl) dX5_run_209 (fun r13 hr13 => ?_)
      refine jr_iaddw C0 dX5_run_212 ?_
      exact jr_iret C0 (vr_RT _) dX5_run_213
    · show vr_J p l e _ s m args below meth c _ _ _ G _ 214 _ _ _ _
      refine jr_aload_n C0 0 dX5_run_214 rfl rfl ?_
      refine jr_iconst C0 dX5_run_215 ?_
      refine jr_iconst C0 dX5_run_216 ?_
      refine jr_iload_n C0 2 dX5_run_217 rfl rfl ?_
      refine jr_iload_n C0 3 dX5_run_218 rfl rfl ?_
      refine jr_vI C0 (by decide) kd_66 (by decide) rfl (ct_X5_callAbove l G hrc 5 (⟨by decide, by decide⟩) 0 (⟨by decide, by decide⟩) x2 h_x2 x3 h_x3 _) mi_X5_callAbove wm_X5_42 ⟨by dsimp only; omega, by dsimp only; omega⟩ ⟨rfl, rfl⟩ (As := [.int (vr_I 5), .int (vr_I 0), .int (vr_I x2), .int (vr_I x3)]) rfl (st := []) rfl (Nat.le_of_ble_eq_true rfl) dX5_run_219 (fun r14 hr14 => ?_)
      refine jr_aload_n C0 0 dX5_run_222 rfl rfl ?_
      refine jr_geti C0 (by decide) kd_66 (by decide) rfl wx_X5 (i := 4) (by decide) wf_X5_22 rfl dX5_run_223 ?_
      refine jr_ixor C0 dX5_run_226 ?_
      exact jr_iret C0 (vr_RT _) dX5_run_227
    · show vr_J p l e _ s m args below meth c _ _ _ G _ 228 _ _ _ _
      refine jr_aload_n C0 0 dX5_run_228 rfl rfl ?_
      refine jr_bipush C0 dX5_run_229 rfl ?_
      refine jr_iconst C0 dX5_run_231 ?_
      refine jr_iload_n C0 2 dX5_run_232 rfl rfl ?_
      refine jr_iload_n C0 3 dX5_run_233 rfl rfl ?_
      refine jr_vI C0 (by decide) kd_66 (by decide) rfl (ct_X5_callAbove l G hrc 6 (⟨by decide, by decide⟩) 1 (⟨by decide, by decide⟩) x2 h_x2 x3 h_x3 _) mi_X5_callAbove wm_X5_42 ⟨by dsimp only; omega, by dsimp only; omega⟩ ⟨rfl, rfl⟩ (As := [.int (vr_I 6), .int (vr_I 1), .int (vr_I x2), .int (vr_I x3)]) rfl (st := []) rfl (Nat.le_of_ble_eq_true rfl) dX5_run_234 (fun r15 hr15 => ?_)
      refine jr_aload_n C0 0 dX5_run_237 rfl rfl ?_
      refine jr_geti C0 (by decide) kd_66 (by decide) rfl wx_X5 (i := 3) (by decide) wf_X5_19 rfl dX5_run_238 ?_
      refine jr_iaddw C0 dX5_run_241 ?_
      exact jr_iret C0 (vr_RT _) dX5_run_242
    refine jr_iconst C0 dX5_run_243 ?_
    exact jr_iret C0 (⟨by decide, by decide⟩) dX5_run_244
  unfold fX5_runw_1
  refine jr_aload_n C0 0 dX5_run_0 rfl rfl ?_
  refine jr_geti C0 (by decide) kd_66 (by decide) rfl wx_X5 (i := 1) (by decide) wf_X5_39 rfl dX5_run_1 ?_
  refine jr_gd (fun g16 => ?_)
  refine jr_if_lt C0 g16 dX5_run_4 (tgt := 26) (by decide) ?_ ?_
  · exact B26 a0 h_a0 a1 h_a1 a2 h_a2 _
  refine jr_aload_n C0 0 dX5_run_7 rfl rfl ?_
  refine jr_geti C0 (by decide) kd_66 (by decide) rfl wx_X5 (i := 1) (by decide) wf_X5_39 rfl dX5_run_8 ?_
  refine jr_bipush C0 dX5_run_11 rfl ?_
  refine jr_icmp_ge C0 g16 (⟨by decide, by decide⟩) dX5_run_13 (tgt := 26) (by decide) ?_ ?_
  · exact B26 a0 h_a0 a1 h_a1 a2 h_a2 _
  refine jr_aload_n C0 0 dX5_run_16 rfl rfl ?_
  refine jr_getr C0 (by decide) kd_66 (by decide) rfl wx_X5 (i := 0) (by decide) wf_X5_9 (j := 67) rfl dX5_run_17 ?_
  refine jr_aload_n C0 0 dX5_run_20 rfl rfl ?_
  refine jr_geti C0 (by decide) kd_66 (by decide) rfl wx_X5 (i := 1) (by decide) wf_X5_39 rfl dX5_run_21 ?_
  refine jr_iload_n C0 1 dX5_run_24 rfl rfl ?_
  refine jr_gd (fun g17 => ?_)
  refine jr_iast C0 (by decide) kd_67 kl_67 g17 (j := (μ 66 1).toNat) rfl dX5_run_25 ?_
  exact B26 a0 h_a0 a1 h_a1 a2 h_a2 _
theorem ct_X5_runw (l : Launch) (G : vr_G) : ∀ (d : Nat), ∀ (a0 : Int) (_ : vr_R a0) (a1 : Int) (_ : vr_R a1) (a2 : Int) (_ : vr_R a2) (μ : vr_M), vr_CI l yX5_run cX5_run 4 (some .int) ({ frames := 4 * d + 6, cells := 0, slots := 0, locals := 140 * d + 200 } : Room) G [.ref (vr_ad G 66), .int (vr_I a0), .int (vr_I a1), .int (vr_I a2)] μ (fX5_runw d a0 a1 a2 μ) := by
  intro d
  induction d with
  | zero => intros; intro r hr; cases hr
  | succ d ih => intro a0 h_a0 a1 h_a1 a2 h_a2 μ; exact ct_X5_runw_1 l G ih a0 h_a0 a1 h_a1 a2 h_a2 μ
theorem hrc_X5_runw (l : Launch) (G : vr_G) : ∀ (a0 : Int) (_ : vr_R a0) (a1 : Int) (_ : vr_R a1) (a2 : Int) (_ : vr_R a2) (μ : vr_M), vr_CI l yX5_run cX5_run 4 (some .int) ({ frames := 4 * 12 + 6, cells := 0, slots := 0, locals := 140 * 12 + 200 } : Room) G [.ref (vr_ad G 66), .int (vr_I a0), .int (vr_I a1), .int (vr_I a2)] μ (fX5_runw 12 a0 a1 a2 μ) := ct_X5_runw l G 12
def fX5_performw (a0 : Int) (a1 : Int) (a2 : Int) (a3 : Int) (a4 : Int) (μ : vr_M) : Option (Int × vr_M) :=
  vr_let (vr_u (vr_u (vr_u μ 66 2 a0) 66 3 a1) 66 4 a2) (fun μ1 => vr_gd (vr_R (μ1 66 2)) ((fX5_call (fX5_runw 12) (μ1 66 2) a3 a4 0 μ1).bind (fun r3 => some (r3.1, r3.2))))
set_option maxRecDepth 100000 in
set_option maxHeartbeats 4000000 in
theorem ct_X5_performw (l : Launch) (G : vr_G) (a0 : Int) (h_a0 : vr_R a0) (a1 : Int) (h_a1 : vr_R a1) (a2 : Int) (h_a2 : vr_R a2) (a3 : Int) (h_a3 : vr_R a3) (a4 : Int) (h_a4 : vr_R a4) (μ : vr_M) : vr_CI l yX5_perform cX5_perform 6 (some .int) ({ frames := 56, cells := 0, slots := 0, locals := 1942 } : Room) G [.ref (vr_ad G 66), .int (vr_I a0), .int (vr_I a1), .int (vr_I a2), .int (vr_I a3), .int (vr_I a4)] μ (fX5_performw a0 a1 a2 a3 a4 μ) := by
  refine vr_start (own := RX5) (by decide) rfl (Nat.le_of_ble_eq_true rfl) (fun p e s m args below meth c C0 => ?_)
  show vr_J p l e _ s m args below meth c 6 0 0 G (vr_Z (vr_QI G) G args s below) 0 [(0, .ref (vr_ad G 66)), (1, .int (vr_I a0)), (2, .int (vr_I a1)), (3, .int (vr_I a2)), (4, .int (vr_I a3)), (5, .int (vr_I a4))] [] μ _
  unfold fX5_performw
  refine jr_aload_n C0 0 dX5_perform_0 rfl rfl ?_
  refine jr_iload_n C0 1 dX5_perform_1 rfl rfl ?_
  refine jr_puti C0 (by decide) kd_66 (by decide) rfl wx_X5 (i := 2) (by decide) wf_X5_15 rfl tyX5_ok nmX5 rfl rfl rfl dX5_perform_2 ?_
  refine jr_aload_n C0 0 dX5_perform_5 rfl rfl ?_
  refine jr_iload_n C0 2 dX5_perform_6 rfl rfl ?_
  refine jr_puti C0 (by decide) kd_66 (by decide) rfl wx_X5 (i := 3) (by decide) wf_X5_19 rfl tyX5_ok nmX5 rfl rfl rfl dX5_perform_7 ?_
  refine jr_aload_n C0 0 dX5_perform_10 rfl rfl ?_
  refine jr_iload_n C0 3 dX5_perform_11 rfl rfl ?_
  refine jr_puti C0 (by decide) kd_66 (by decide) rfl wx_X5 (i := 4) (by decide) wf_X5_22 rfl tyX5_ok nmX5 rfl rfl rfl dX5_perform_12 ?_
  refine jr_aload_n C0 0 dX5_perform_15 rfl rfl ?_
  refine jr_aload_n C0 0 dX5_perform_16 rfl rfl ?_
  refine jr_let (fun μ1 => ?_)
  refine jr_geti C0 (by decide) kd_66 (by decide) rfl wx_X5 (i := 2) (by decide) wf_X5_15 rfl dX5_perform_17 ?_
  refine jr_iload C0 4 dX5_perform_20 rfl ?_
  refine jr_iload C0 5 dX5_perform_22 rfl ?_
  refine jr_iconst C0 dX5_perform_24 ?_
  refine jr_gd (fun g2 => ?_)
  refine jr_vI C0 (by decide) kd_66 (by decide) rfl (ct_X5_call l G (hrc_X5_runw l G) (μ1 66 2) g2 a3 h_a3 a4 h_a4 0 (⟨by decide, by decide⟩) _) mi_X5_call wm_X5_25 ⟨Nat.le_of_ble_eq_true rfl, Nat.le_of_ble_eq_true rfl⟩ ⟨rfl, rfl⟩ (As := [.int (vr_I (μ1 66 2)), .int (vr_I a3), .int (vr_I a4), .int (vr_I 0)]) rfl (st := []) rfl (Nat.le_of_ble_eq_true rfl) dX5_perform_25 (fun r3 hr3 => ?_)
  exact jr_iret C0 hr3 dX5_perform_28
def fX9_actw_B28 (μ : vr_M) : Option (Int × vr_M) :=
  some (0, μ)
def fX9_actw (a0 : Int) (a1 : Int) (a2 : Int) (μ : vr_M) : Option (Int × vr_M) :=
  (fX8_hasRule 1 a0 (vr_u μ 66 1 0)).bind (fun r1 => if r1.1 = 0 then fX9_actw_B28 r1.2 else (fX9_within a1 0 2 r1.2).bind (fun r2 => if ¬ r2.1 = 0 then (fX4_at 19 a0 r2.2).bind (fun r3 => (fX4_at 21 a0 r3.2).bind (fun r4 => (fX5_performw r3.1 r4.1 a0 a1 a2 r4.2).bind (fun r5 => some (r5.1, r5.2)))) else fX9_actw_B28 r2.2))
set_option maxRecDepth 100000 in
set_option maxHeartbeats 4000000 in
theorem ct_X9_actw (l : Launch) (G : vr_G) (a0 : Int) (h_a0 : vr_R a0) (a1 : Int) (h_a1 : vr_R a1) (a2 : Int) (h_a2 : vr_R a2) (μ : vr_M) : vr_CI l yX9_act cX9_act 4 (some .int) ({ frames := 57, cells := 0, slots := 0, locals := 1967 } : Room) G [.ref (vr_ad G 0), .int (vr_I a0), .int (vr_I a1), .int (vr_I a2)] μ (fX9_actw a0 a1 a2 μ) := by
  refine vr_start (own := RX9) (by decide) rfl (Nat.le_of_ble_eq_true rfl) (fun p e s m args below meth c C0 => ?_)
  show vr_J p l e _ s m args below meth c 4 0 0 G (vr_Z (vr_QI G) G args s below) 0 [(0, .ref (vr_ad G 0)), (1, .int (vr_I a0)), (2, .int (vr_I a1)), (3, .int (vr_I a2))] [] μ _
  have B28 : ∀ (μ : vr_M), vr_J p l e ({ frames := 57, cells := 0, slots := 0, locals := 1967 } : Room) s m args below meth c 4 0 0 G (vr_Z (vr_QI G) G args s below) 28 [] [] μ (fX9_actw_B28 μ) := by
    intro μ
    unfold fX9_actw_B28
    refine jr_iconst C0 dX9_act_28 ?_
    exact jr_iret C0 (⟨by decide, by decide⟩) dX9_act_29
  unfold fX9_actw
  refine jr_aload_n C0 0 dX9_act_0 rfl rfl ?_
  refine jr_getr C0 (by decide) kd_0 (by decide) rfl wx_X9 (i := 7) (by decide) wf_X9_62 (j := 66) rfl dX9_act_1 ?_
  refine jr_iconst C0 dX9_act_4 ?_
  refine jr_puti C0 (by decide) kd_66 (by decide) rfl wx_X5 (i := 1) (by decide) wf_X9_250 rfl tyX5_ok nmX5 rfl rfl rfl dX9_act_5 ?_
  refine jr_aload_n C0 0 dX9_act_8 rfl rfl ?_
  refine jr_getr C0 (by decide) kd_0 (by decide) rfl wx_X9 (i := 0) (by decide) wf_X9_12 (j := 1) rfl dX9_act_9 ?_
  refine jr_iload_n C0 1 dX9_act_12 rfl rfl ?_
  refine jr_vI C0 (by decide) kd_1 (by decide) rfl (ct_X8_hasRule l G (by decide) kd_1 a0 h_a0 _) mi_X8_hasRule wm_X9_169 ⟨Nat.le_of_ble_eq_true rfl, Nat.le_of_ble_eq_true rfl⟩ ⟨rfl, rfl⟩ (As := [.int (vr_I a0)]) rfl (st := []) rfl (Nat.le_of_ble_eq_true rfl) dX9_act_13 (fun r1 hr1 => ?_)
  refine jr_if_eq C0 hr1 dX9_act_16 (tgt := 28) (by decide) ?_ ?_
  · refine jr_sub [] rfl ?_
    exact B28 _
  refine jr_iload_n C0 2 dX9_act_19 rfl rfl ?_
  refine jr_iconst C0 dX9_act_20 ?_
  refine jr_iconst C0 dX9_act_21 ?_
  refine jr_sI C0 (ct_X9_within l G a1 h_a1 0 (⟨by decide, by decide⟩) 2 (⟨by decide, by decide⟩) _) mi_X9_within wm_X9_66 ⟨Nat.le_of_ble_eq_true rfl, Nat.le_of_ble_eq_true rfl⟩ ⟨rfl, rfl⟩ (As := [.int (vr_I a1), .int (vr_I 0), .int (vr_I 2)]) rfl (st := []) rfl (Nat.le_of_ble_eq_true rfl) dX9_act_22 (fun r2 hr2 => ?_)
  refine jr_if_ne C0 hr2 dX9_act_25 (tgt := 30) (by decide) ?_ ?_
  · refine jr_aload_n C0 0 dX9_act_30 rfl rfl ?_
    refine jr_getr C0 (by decide) kd_0 (by decide) rfl wx_X9 (i := 7) (by decide) wf_X9_62 (j := 66) rfl dX9_act_31 ?_
    refine jr_aload_n C0 0 dX9_act_34 rfl rfl ?_
    refine jr_getr C0 (by decide) kd_0 (by decide) rfl wx_X9 (i := 0) (by decide) wf_X9_12 (j := 1) rfl dX9_act_35 ?_
    refine jr_getr C0 (by decide) kd_1 (by decide) rfl wx_X8 (i := 5) (by decide) wf_X9_163 (j := 19) rfl dX9_act_38 ?_
    refine jr_iload_n C0 1 dX9_act_41 rfl rfl ?_
    refine jr_vI C0 (by decide) kd_19 (by decide) rfl (ct_X4_at l G (by decide) kd_19 a0 h_a0 _) mi_X4_at wm_X9_192 ⟨Nat.le_of_ble_eq_true rfl, Nat.le_of_ble_eq_true rfl⟩ ⟨rfl, rfl⟩ (As := [.int (vr_I a0)]) rfl (st := [.ref (vr_ad G 66)]) rfl (Nat.le_of_ble_eq_true rfl) dX9_act_42 (fun r3 hr3 => ?_)
    refine jr_aload_n C0 0 dX9_act_45 rfl rfl ?_
    refine jr_getr C0 (by decide) kd_0 (by decide) rfl wx_X9 (i := 0) (by decide) wf_X9_12 (j := 1) rfl dX9_act_46 ?_
    refine jr_getr C0 (by decide) kd_1 (by decide) rfl wx_X8 (i := 6) (by decide) wf_X9_166 (j := 21) rfl dX9_act_49 ?_
    refine jr_iload_n C0 1 dX9_act_52 rfl rfl ?_
    refine jr_vI C0 (by decide) kd_21 (by decide) rfl (ct_X4_at l G (by decide) kd_21 a0 h_a0 _) mi_X4_at wm_X9_192 ⟨Nat.le_of_ble_eq_true rfl, Nat.le_of_ble_eq_true rfl⟩ ⟨rfl, rfl⟩ (As := [.int (vr_I a0)]) rfl (st := [.int (vr_I r3.1), .ref (vr_ad G 66)]) rfl (Nat.le_of_ble_eq_true rfl) dX9_act_53 (fun r4 hr4 => ?_)
    refine jr_iload_n C0 1 dX9_act_56 rfl rfl ?_
    refine jr_iload_n C0 2 dX9_act_57 rfl rfl ?_
    refine jr_iload_n C0 3 dX9_act_58 rfl rfl ?_
    refine jr_vI C0 (by decide) kd_66 (by decide) rfl (ct_X5_performw l G r3.1 hr3 r4.1 hr4 a0 h_a0 a1 h_a1 a2 h_a2 _) mi_X5_perform wm_X9_253 ⟨Nat.le_of_ble_eq_true rfl, Nat.le_of_ble_eq_true rfl⟩ ⟨rfl, rfl⟩ (As := [.int (vr_I r3.1), .int (vr_I r4.1), .int (vr_I a0), .int (vr_I a1), .int (vr_I a2)]) rfl (st := []) rfl (Nat.le_of_ble_eq_true rfl) dX9_act_59 (fun r5 hr5 => ?_)
    exact jr_iret C0 hr5 dX9_act_62
  refine jr_sub [] rfl ?_
  exact B28 _
def fX10_plainBurnsw (a0 : Int) (μ : vr_M) : Option (Int × vr_M) :=
  (fX10_runs 1 μ).bind (fun r1 => some (vr_w (a0 + (r1.2 68 24)), r1.2))
set_option maxRecDepth 100000 in
set_option maxHeartbeats 4000000 in
theorem ct_X10_plainBurnsw (l : Launch) (G : vr_G) (a0 : Int) (h_a0 : vr_R a0) (μ : vr_M) : vr_CI l yX10_plainBurns cX10_plainBurns 2 (some .int) ({ frames := 1, cells := 0, slots := 0, locals := 21 } : Room) G [.ref (vr_ad G 68), .int (vr_I a0)] μ (fX10_plainBurnsw a0 μ) := by
  refine vr_start (own := RX10) (by decide) rfl (Nat.le_of_ble_eq_true rfl) (fun p e s m args below meth c C0 => ?_)
  show vr_J p l e _ s m args below meth c 2 0 0 G (vr_Z (vr_QI G) G args s below) 0 [(0, .ref (vr_ad G 68)), (1, .int (vr_I a0))] [] μ _
  unfold fX10_plainBurnsw
  refine jr_aload_n C0 0 dX10_plainBurns_0 rfl rfl ?_
  refine jr_iconst C0 dX10_plainBurns_1 ?_
  refine jr_vV0 C0 (by decide) kd_68 (by decide) rfl (ct_X10_runs l G 1 (⟨by decide, by decide⟩) _) mi_X10_runs wm_X10_248 ⟨Nat.le_of_ble_eq_true rfl, Nat.le_of_ble_eq_true rfl⟩ ⟨rfl, rfl⟩ (As := [.int (vr_I 1)]) rfl (st := []) rfl (Nat.le_of_ble_eq_true rfl) dX10_plainBurns_2 (fun r1 => ?_)
  refine jr_iload_n C0 1 dX10_plainBurns_5 rfl rfl ?_
  refine jr_aload_n C0 0 dX10_plainBurns_6 rfl rfl ?_
  refine jr_geti C0 (by decide) kd_68 (by decide) rfl wx_X10 (i := 24) (by decide) wf_X10_251 rfl dX10_plainBurns_7 ?_
  refine jr_iaddw C0 dX10_plainBurns_10 ?_
  exact jr_iret C0 (vr_RT _) dX10_plainBurns_11
def fX10_burnsActsw (a0 : Int) (μ : vr_M) : Option (Int × vr_M) :=
  vr_gd (vr_R (μ 68 23)) (if ¬ (μ 68 23) = 1 then if ¬ (μ 68 23) = 5 then (fX10_plainBurnsw a0 μ).bind (fun r2 => some (r2.1, r2.2)) else (fX10_runs 51 μ).bind (fun r3 => (fX10_plainBurnsw a0 r3.2).bind (fun r4 => some (vr_xor r4.1 (r4.2 68 24), r4.2))) else (fX10_runs 11 μ).bind (fun r5 => (fX10_plainBurnsw (vr_w (a0 * 3)) r5.2).bind (fun r6 => some (r6.1, r6.2))))
set_option maxRecDepth 100000 in
set_option maxHeartbeats 4000000 in
theorem ct_X10_burnsActsw (l : Launch) (G : vr_G) (a0 : Int) (h_a0 : vr_R a0) (μ : vr_M) : vr_CI l yX10_burnsActs cX10_burnsActs 2 (some .int) ({ frames := 2, cells := 0, slots := 0, locals := 42 } : Room) G [.ref (vr_ad G 68), .int (vr_I a0)] μ (fX10_burnsActsw a0 μ) := by
  refine vr_start (own := RX10) (by decide) rfl (Nat.le_of_ble_eq_true rfl) (fun p e s m args below meth c C0 => ?_)
  show vr_J p l e _ s m args below meth c 2 0 0 G (vr_Z (vr_QI G) G args s below) 0 [(0, .ref (vr_ad G 68)), (1, .int (vr_I a0))] [] μ _
  unfold fX10_burnsActsw
  refine jr_aload_n C0 0 dX10_burnsActs_0 rfl rfl ?_
  refine jr_geti C0 (by decide) kd_68 (by decide) rfl wx_X10 (i := 23) (by decide) wf_X10_254 rfl dX10_burnsActs_1 ?_
  refine jr_iconst C0 dX10_burnsActs_4 ?_
  refine jr_gd (fun g1 => ?_)
  refine jr_icmp_ne C0 g1 (⟨by decide, by decide⟩) dX10_burnsActs_5 (tgt := 22) (by decide) ?_ ?_
  · refine jr_aload_n C0 0 dX10_burnsActs_22 rfl rfl ?_
    refine jr_geti C0 (by decide) kd_68 (by decide) rfl wx_X10 (i := 23) (by decide) wf_X10_254 rfl dX10_burnsActs_23 ?_
    refine jr_iconst C0 dX10_burnsActs_26 ?_
    refine jr_icmp_ne C0 g1 (⟨by decide, by decide⟩) dX10_burnsActs_27 (tgt := 47) (by decide) ?_ ?_
    · refine jr_aload_n C0 0 dX10_burnsActs_47 rfl rfl ?_
      refine jr_iload_n C0 1 dX10_burnsActs_48 rfl rfl ?_
      refine jr_vI C0 (by decide) kd_68 (by decide) rfl (ct_X10_plainBurnsw l G a0 h_a0 _) mi_X10_plainBurns wm_X10_257 ⟨Nat.le_of_ble_eq_true rfl, Nat.le_of_ble_eq_true rfl⟩ ⟨rfl, rfl⟩ (As := [.int (vr_I a0)]) rfl (st := []) rfl (Nat.le_of_ble_eq_true rfl) dX10_burnsActs_49 (fun r2 hr2 => ?_)
      exact jr_iret C0 hr2 dX10_burnsActs_52
    refine jr_aload_n C0 0 dX10_burnsActs_30 rfl rfl ?_
    refine jr_bipush C0 dX10_burnsActs_31 rfl ?_
    refine jr_vV0 C0 (by decide) kd_68 (by decide) rfl (ct_X10_runs l G 51 (⟨by decide, by decide⟩) _) mi_X10_runs wm_X10_248 ⟨Nat.le_of_ble_eq_true rfl, Nat.le_of_ble_eq_true rfl⟩ ⟨rfl, rfl⟩ (As := [.int (vr_I 51)]) rfl (st := []) rfl (Nat.le_of_ble_eq_true rfl) dX10_burnsActs_33 (fun r3 => ?_)
    refine jr_aload_n C0 0 dX10_burnsActs_36 rfl rfl ?_
    refine jr_iload_n C0 1 dX10_burnsActs_37 rfl rfl ?_
    refine jr_vI C0 (by decide) kd_68 (by decide) rfl (ct_X10_plainBurnsw l G a0 h_a0 _) mi_X10_plainBurns wm_X10_257 ⟨Nat.le_of_ble_eq_true rfl, Nat.le_of_ble_eq_true rfl⟩ ⟨rfl, rfl⟩ (As := [.int (vr_I a0)]) rfl (st := []) rfl (Nat.le_of_ble_eq_true rfl) dX10_burnsActs_38 (fun r4 hr4 => ?_)
    refine jr_aload_n C0 0 dX10_burnsActs_41 rfl rfl ?_
    refine jr_geti C0 (by decide) kd_68 (by decide) rfl wx_X10 (i := 24) (by decide) wf_X10_251 rfl dX10_burnsActs_42 ?_
    refine jr_ixor C0 dX10_burnsActs_45 ?_
    exact jr_iret C0 (vr_RT _) dX10_burnsActs_46
  refine jr_aload_n C0 0 dX10_burnsActs_8 rfl rfl ?_
  refine jr_bipush C0 dX10_burnsActs_9 rfl ?_
  refine jr_vV0 C0 (by decide) kd_68 (by decide) rfl (ct_X10_runs l G 11 (⟨by decide, by decide⟩) _) mi_X10_runs wm_X10_248 ⟨Nat.le_of_ble_eq_true rfl, Nat.le_of_ble_eq_true rfl⟩ ⟨rfl, rfl⟩ (As := [.int (vr_I 11)]) rfl (st := []) rfl (Nat.le_of_ble_eq_true rfl) dX10_burnsActs_11 (fun r5 => ?_)
  refine jr_aload_n C0 0 dX10_burnsActs_14 rfl rfl ?_
  refine jr_iload_n C0 1 dX10_burnsActs_15 rfl rfl ?_
  refine jr_iconst C0 dX10_burnsActs_16 ?_
  refine jr_imulw C0 dX10_burnsActs_17 ?_
  refine jr_vI C0 (by decide) kd_68 (by decide) rfl (ct_X10_plainBurnsw l G (vr_w (a0 * 3)) (vr_RT _) _) mi_X10_plainBurns wm_X10_257 ⟨Nat.le_of_ble_eq_true rfl, Nat.le_of_ble_eq_true rfl⟩ ⟨rfl, rfl⟩ (As := [.int (vr_I (vr_w (a0 * 3)))]) rfl (st := []) rfl (Nat.le_of_ble_eq_true rfl) dX10_burnsActs_18 (fun r6 hr6 => ?_)
  exact jr_iret C0 hr6 dX10_burnsActs_21
def fX10_plainRestsw (a0 : Int) (μ : vr_M) : Option (Int × vr_M) :=
  (fX10_runs 2 μ).bind (fun r1 => (fX10_burnsActsw a0 r1.2).bind (fun r2 => some (vr_w (r2.1 - (r2.2 68 25)), r2.2)))
set_option maxRecDepth 100000 in
set_option maxHeartbeats 4000000 in
theorem ct_X10_plainRestsw (l : Launch) (G : vr_G) (a0 : Int) (h_a0 : vr_R a0) (μ : vr_M) : vr_CI l yX10_plainRests cX10_plainRests 2 (some .int) ({ frames := 3, cells := 0, slots := 0, locals := 63 } : Room) G [.ref (vr_ad G 68), .int (vr_I a0)] μ (fX10_plainRestsw a0 μ) := by
  refine vr_start (own := RX10) (by decide) rfl (Nat.le_of_ble_eq_true rfl) (fun p e s m args below meth c C0 => ?_)
  show vr_J p l e _ s m args below meth c 2 0 0 G (vr_Z (vr_QI G) G args s below) 0 [(0, .ref (vr_ad G 68)), (1, .int (vr_I a0))] [] μ _
  unfold fX10_plainRestsw
  refine jr_aload_n C0 0 dX10_plainRests_0 rfl rfl ?_
  refine jr_iconst C0 dX10_plainRests_1 ?_
  refine jr_vV0 C0 (by decide) kd_68 (by decide) rfl (ct_X10_runs l G 2 (⟨by decide, by decide⟩) _) mi_X10_runs wm_X10_248 ⟨Nat.le_of_ble_eq_true rfl, Nat.le_of_ble_eq_true rfl⟩ ⟨rfl, rfl⟩ (As := [.int (vr_I 2)]) rfl (st := []) rfl (Nat.le_of_ble_eq_true rfl) dX10_plainRests_2 (fun r1 => ?_)
  refine jr_aload_n C0 0 dX10_plainRests_5 rfl rfl ?_
  refine jr_iload_n C0 1 dX10_plainRests_6 rfl rfl ?_
  refine jr_vI C0 (by decide) kd_68 (by decide) rfl (ct_X10_burnsActsw l G a0 h_a0 _) mi_X10_burnsActs wm_X10_260 ⟨Nat.le_of_ble_eq_true rfl, Nat.le_of_ble_eq_true rfl⟩ ⟨rfl, rfl⟩ (As := [.int (vr_I a0)]) rfl (st := []) rfl (Nat.le_of_ble_eq_true rfl) dX10_plainRests_7 (fun r2 hr2 => ?_)
  refine jr_aload_n C0 0 dX10_plainRests_10 rfl rfl ?_
  refine jr_geti C0 (by decide) kd_68 (by decide) rfl wx_X10 (i := 25) (by decide) wf_X10_263 rfl dX10_plainRests_11 ?_
  refine jr_isubw C0 dX10_plainRests_14 ?_
  exact jr_iret C0 (vr_RT _) dX10_plainRests_15
def fX10_restRestsw (a0 : Int) (μ : vr_M) : Option (Int × vr_M) :=
  (fX10_runs 21 μ).bind (fun r1 => (fX10_plainRestsw a0 r1.2).bind (fun r2 => some (vr_w (-r2.1), r2.2)))
set_option maxRecDepth 100000 in
set_option maxHeartbeats 4000000 in
theorem ct_X10_restRestsw (l : Launch) (G : vr_G) (a0 : Int) (h_a0 : vr_R a0) (μ : vr_M) : vr_CI l yX10_restRests cX10_restRests 2 (some .int) ({ frames := 4, cells := 0, slots := 0, locals := 84 } : Room) G [.ref (vr_ad G 68), .int (vr_I a0)] μ (fX10_restRestsw a0 μ) := by
  refine vr_start (own := RX10) (by decide) rfl (Nat.le_of_ble_eq_true rfl) (fun p e s m args below meth c C0 => ?_)
  show vr_J p l e _ s m args below meth c 2 0 0 G (vr_Z (vr_QI G) G args s below) 0 [(0, .ref (vr_ad G 68)), (1, .int (vr_I a0))] [] μ _
  unfold fX10_restRestsw
  refine jr_aload_n C0 0 dX10_restRests_0 rfl rfl ?_
  refine jr_bipush C0 dX10_restRests_1 rfl ?_
  refine jr_vV0 C0 (by decide) kd_68 (by decide) rfl (ct_X10_runs l G 21 (⟨by decide, by decide⟩) _) mi_X10_runs wm_X10_248 ⟨Nat.le_of_ble_eq_true rfl, Nat.le_of_ble_eq_true rfl⟩ ⟨rfl, rfl⟩ (As := [.int (vr_I 21)]) rfl (st := []) rfl (Nat.le_of_ble_eq_true rfl) dX10_restRests_3 (fun r1 => ?_)
  refine jr_aload_n C0 0 dX10_restRests_6 rfl rfl ?_
  refine jr_iload_n C0 1 dX10_restRests_7 rfl rfl ?_
  refine jr_vI C0 (by decide) kd_68 (by decide) rfl (ct_X10_plainRestsw l G a0 h_a0 _) mi_X10_plainRests wm_X10_266 ⟨Nat.le_of_ble_eq_true rfl, Nat.le_of_ble_eq_true rfl⟩ ⟨rfl, rfl⟩ (As := [.int (vr_I a0)]) rfl (st := []) rfl (Nat.le_of_ble_eq_true rfl) dX10_restRests_8 (fun r2 hr2 => ?_)
  refine jr_inegw C0 dX10_restRests_11 ?_
  exact jr_iret C0 (vr_RT _) dX10_restRests_12
def fX10_restsActsw_B50 (y0 : Int) (μ : vr_M) : Option (Int × vr_M) :=
  some (y0, μ)
def fX10_restsActsw (a0 : Int) (μ : vr_M) : Option (Int × vr_M) :=
  vr_gd (vr_R (μ 68 23)) (if ¬ (μ 68 23) = 6 then (fX10_isUnder (μ 68 23) 2 μ).bind (fun r2 => if r2.1 = 0 then (fX10_plainRestsw a0 r2.2).bind (fun r3 => fX10_restsActsw_B50 r3.1 r3.2) else (fX10_restRestsw a0 r2.2).bind (fun r4 => fX10_restsActsw_B50 r4.1 r4.2)) else (fX10_runs 61 μ).bind (fun r5 => (fX10_restRestsw a0 r5.2).bind (fun r6 => some (vr_w (r6.1 + (r6.2 68 25)), r6.2))))
set_option maxRecDepth 100000 in
set_option maxHeartbeats 4000000 in
theorem ct_X10_restsActsw (l : Launch) (G : vr_G) (a0 : Int) (h_a0 : vr_R a0) (μ : vr_M) : vr_CI l yX10_restsActs cX10_restsActs 2 (some .int) ({ frames := 5, cells := 0, slots := 0, locals := 105 } : Room) G [.ref (vr_ad G 68), .int (vr_I a0)] μ (fX10_restsActsw a0 μ) := by
  refine vr_start (own := RX10) (by decide) rfl (Nat.le_of_ble_eq_true rfl) (fun p e s m args below meth c C0 => ?_)
  show vr_J p l e _ s m args below meth c 2 0 0 G (vr_Z (vr_QI G) G args s below) 0 [(0, .ref (vr_ad G 68)), (1, .int (vr_I a0))] [] μ _
  have B50 : ∀ (y0 : Int) (h_y0 : vr_R y0) (μ : vr_M), vr_J p l e ({ frames := 5, cells := 0, slots := 0, locals := 105 } : Room) s m args below meth c 2 0 0 G (vr_Z (vr_QI G) G args s below) 50 [] [.int (vr_I y0)] μ (fX10_restsActsw_B50 y0 μ) := by
    intro y0 h_y0 μ
    unfold fX10_restsActsw_B50
    exact jr_iret C0 h_y0 dX10_restsActs_50
  unfold fX10_restsActsw
  refine jr_aload_n C0 0 dX10_restsActs_0 rfl rfl ?_
  refine jr_geti C0 (by decide) kd_68 (by decide) rfl wx_X10 (i := 23) (by decide) wf_X10_254 rfl dX10_restsActs_1 ?_
  refine jr_bipush C0 dX10_restsActs_4 rfl ?_
  refine jr_gd (fun g1 => ?_)
  refine jr_icmp_ne C0 g1 (⟨by decide, by decide⟩) dX10_restsActs_6 (tgt := 26) (by decide) ?_ ?_
  · refine jr_aload_n C0 0 dX10_restsActs_26 rfl rfl ?_
    refine jr_geti C0 (by decide) kd_68 (by decide) rfl wx_X10 (i := 23) (by decide) wf_X10_254 rfl dX10_restsActs_27 ?_
    refine jr_iconst C0 dX10_restsActs_30 ?_
    refine jr_sI C0 (ct_X10_isUnder l G (μ 68 23) g1 2 (⟨by decide, by decide⟩) _) mi_X10_isUnder wm_X10_272 ⟨Nat.le_of_ble_eq_true rfl, Nat.le_of_ble_eq_true rfl⟩ ⟨rfl, rfl⟩ (As := [.int (vr_I (μ 68 23)), .int (vr_I 2)]) rfl (st := []) rfl (Nat.le_of_ble_eq_true rfl) dX10_restsActs_31 (fun r2 hr2 => ?_)
    refine jr_if_eq C0 hr2 dX10_restsActs_34 (tgt := 45) (by decide) ?_ ?_
    · refine jr_aload_n C0 0 dX10_restsActs_45 rfl rfl ?_
      refine jr_iload_n C0 1 dX10_restsActs_46 rfl rfl ?_
      refine jr_vI C0 (by decide) kd_68 (by decide) rfl (ct_X10_plainRestsw l G a0 h_a0 _) mi_X10_plainRests wm_X10_266 ⟨Nat.le_of_ble_eq_true rfl, Nat.le_of_ble_eq_true rfl⟩ ⟨rfl, rfl⟩ (As := [.int (vr_I a0)]) rfl (st := []) rfl (Nat.le_of_ble_eq_true rfl) dX10_restsActs_47 (fun r3 hr3 => ?_)
      refine jr_sub [] rfl ?_
      exact B50 r3.1 hr3 _
    refine jr_aload_n C0 0 dX10_restsActs_37 rfl rfl ?_
    refine jr_iload_n C0 1 dX10_restsActs_38 rfl rfl ?_
    refine jr_vI C0 (by decide) kd_68 (by decide) rfl (ct_X10_restRestsw l G a0 h_a0 _) mi_X10_restRests wm_X10_269 ⟨Nat.le_of_ble_eq_true rfl, Nat.le_of_ble_eq_true rfl⟩ ⟨rfl, rfl⟩ (As := [.int (vr_I a0)]) rfl (st := []) rfl (Nat.le_of_ble_eq_true rfl) dX10_restsActs_39 (fun r4 hr4 => ?_)
    refine jr_goto C0 dX10_restsActs_42 (tgt := 50) (by decide) ?_
    refine jr_sub [] rfl ?_
    exact B50 r4.1 hr4 _
  refine jr_aload_n C0 0 dX10_restsActs_9 rfl rfl ?_
  refine jr_bipush C0 dX10_restsActs_10 rfl ?_
  refine jr_vV0 C0 (by decide) kd_68 (by decide) rfl (ct_X10_runs l G 61 (⟨by decide, by decide⟩) _) mi_X10_runs wm_X10_248 ⟨Nat.le_of_ble_eq_true rfl, Nat.le_of_ble_eq_true rfl⟩ ⟨rfl, rfl⟩ (As := [.int (vr_I 61)]) rfl (st := []) rfl (Nat.le_of_ble_eq_true rfl) dX10_restsActs_12 (fun r5 => ?_)
  refine jr_aload_n C0 0 dX10_restsActs_15 rfl rfl ?_
  refine jr_iload_n C0 1 dX10_restsActs_16 rfl rfl ?_
  refine jr_vI C0 (by decide) kd_68 (by decide) rfl (ct_X10_restRestsw l G a0 h_a0 _) mi_X10_restRests wm_X10_269 ⟨Nat.le_of_ble_eq_true rfl, Nat.le_of_ble_eq_true rfl⟩ ⟨rfl, rfl⟩ (As := [.int (vr_I a0)]) rfl (st := []) rfl (Nat.le_of_ble_eq_true rfl) dX10_restsActs_17 (fun r6 hr6 => ?_)
  refine jr_aload_n C0 0 dX10_restsActs_20 rfl rfl ?_
  refine jr_geti C0 (by decide) kd_68 (by decide) rfl wx_X10 (i := 25) (by decide) wf_X10_263 rfl dX10_restsActs_21 ?_
  refine jr_iaddw C0 dX10_restsActs_24 ?_
  exact jr_iret C0 (vr_RT _) dX10_restsActs_25
def fX10_plainTellsw (a0 : Int) (μ : vr_M) : Option (Int × vr_M) :=
  (fX10_runs 3 μ).bind (fun r1 => (fX10_restsActsw a0 r1.2).bind (fun r2 => some (vr_w (r2.1 * 2), r2.2)))
set_option maxRecDepth 100000 in
set_option maxHeartbeats 4000000 in
theorem ct_X10_plainTellsw (l : Launch) (G : vr_G) (a0 : Int) (h_a0 : vr_R a0) (μ : vr_M) : vr_CI l yX10_plainTells cX10_plainTells 2 (some .int) ({ frames := 6, cells := 0, slots := 0, locals := 126 } : Room) G [.ref (vr_ad G 68), .int (vr_I a0)] μ (fX10_plainTellsw a0 μ) := by
  refine vr_start (own := RX10) (by decide) rfl (Nat.le_of_ble_eq_true rfl) (fun p e s m args below meth c C0 => ?_)
  show vr_J p l e _ s m args below meth c 2 0 0 G (vr_Z (vr_QI G) G args s below) 0 [(0, .ref (vr_ad G 68)), (1, .int (vr_I a0))] [] μ _
  unfold fX10_plainTellsw
  refine jr_aload_n C0 0 dX10_plainTells_0 rfl rfl ?_
  refine jr_iconst C0 dX10_plainTells_1 ?_
  refine jr_vV0 C0 (by decide) kd_68 (by decide) rfl (ct_X10_runs l G 3 (⟨by decide, by decide⟩) _) mi_X10_runs wm_X10_248 ⟨Nat.le_of_ble_eq_true rfl, Nat.le_of_ble_eq_true rfl⟩ ⟨rfl, rfl⟩ (As := [.int (vr_I 3)]) rfl (st := []) rfl (Nat.le_of_ble_eq_true rfl) dX10_plainTells_2 (fun r1 => ?_)
  refine jr_aload_n C0 0 dX10_plainTells_5 rfl rfl ?_
  refine jr_iload_n C0 1 dX10_plainTells_6 rfl rfl ?_
  refine jr_vI C0 (by decide) kd_68 (by decide) rfl (ct_X10_restsActsw l G a0 h_a0 _) mi_X10_restsActs wm_X10_276 ⟨Nat.le_of_ble_eq_true rfl, Nat.le_of_ble_eq_true rfl⟩ ⟨rfl, rfl⟩ (As := [.int (vr_I a0)]) rfl (st := []) rfl (Nat.le_of_ble_eq_true rfl) dX10_plainTells_7 (fun r2 hr2 => ?_)
  refine jr_iconst C0 dX10_plainTells_10 ?_
  refine jr_imulw C0 dX10_plainTells_11 ?_
  exact jr_iret C0 (vr_RT _) dX10_plainTells_12
def fX10_nearTellsw (a0 : Int) (μ : vr_M) : Option (Int × vr_M) :=
  (fX10_runs 31 μ).bind (fun r1 => (fX10_plainTellsw a0 r1.2).bind (fun r2 => some (vr_xor r2.1 7, r2.2)))
set_option maxRecDepth 100000 in
set_option maxHeartbeats 4000000 in
theorem ct_X10_nearTellsw (l : Launch) (G : vr_G) (a0 : Int) (h_a0 : vr_R a0) (μ : vr_M) : vr_CI l yX10_nearTells cX10_nearTells 2 (some .int) ({ frames := 7, cells := 0, slots := 0, locals := 147 } : Room) G [.ref (vr_ad G 68), .int (vr_I a0)] μ (fX10_nearTellsw a0 μ) := by
  refine vr_start (own := RX10) (by decide) rfl (Nat.le_of_ble_eq_true rfl) (fun p e s m args below meth c C0 => ?_)
  show vr_J p l e _ s m args below meth c 2 0 0 G (vr_Z (vr_QI G) G args s below) 0 [(0, .ref (vr_ad G 68)), (1, .int (vr_I a0))] [] μ _
  unfold fX10_nearTellsw
  refine jr_aload_n C0 0 dX10_nearTells_0 rfl rfl ?_
  refine jr_bipush C0 dX10_nearTells_1 rfl ?_
  refine jr_vV0 C0 (by decide) kd_68 (by decide) rfl (ct_X10_runs l G 31 (⟨by decide, by decide⟩) _) mi_X10_runs wm_X10_248 ⟨Nat.le_of_ble_eq_true rfl, Nat.le_of_ble_eq_true rfl⟩ ⟨rfl, rfl⟩ (As := [.int (vr_I 31)]) rfl (st := []) rfl (Nat.le_of_ble_eq_true rfl) dX10_nearTells_3 (fun r1 => ?_)
  refine jr_aload_n C0 0 dX10_nearTells_6 rfl rfl ?_
  refine jr_iload_n C0 1 dX10_nearTells_7 rfl rfl ?_
  refine jr_vI C0 (by decide) kd_68 (by decide) rfl (ct_X10_plainTellsw l G a0 h_a0 _) mi_X10_plainTells wm_X10_279 ⟨Nat.le_of_ble_eq_true rfl, Nat.le_of_ble_eq_true rfl⟩ ⟨rfl, rfl⟩ (As := [.int (vr_I a0)]) rfl (st := []) rfl (Nat.le_of_ble_eq_true rfl) dX10_nearTells_8 (fun r2 hr2 => ?_)
  refine jr_bipush C0 dX10_nearTells_11 rfl ?_
  refine jr_ixor C0 dX10_nearTells_13 ?_
  exact jr_iret C0 (vr_RT _) dX10_nearTells_14
def fX10_tellsActsw_B51 (y0 : Int) (μ : vr_M) : Option (Int × vr_M) :=
  some (y0, μ)
def fX10_tellsActsw (a0 : Int) (μ : vr_M) : Option (Int × vr_M) :=
  vr_gd (vr_R (μ 68 23)) (if ¬ (μ 68 23) = 4 then if ¬ (μ 68 23) = 3 then (fX10_plainTellsw a0 μ).bind (fun r2 => fX10_tellsActsw_B51 r2.1 r2.2) else (fX10_nearTellsw a0 μ).bind (fun r3 => fX10_tellsActsw_B51 r3.1 r3.2) else (fX10_runs 41 μ).bind (fun r4 => (fX10_nearTellsw (vr_w (a0 - 1)) r4.2).bind (fun r5 => (fX10_burnsActsw 2 r5.2).bind (fun r6 => some (vr_w (r5.1 + r6.1), r6.2)))))
set_option maxRecDepth 100000 in
set_option maxHeartbeats 4000000 in
theorem ct_X10_tellsActsw (l : Launch) (G : vr_G) (a0 : Int) (h_a0 : vr_R a0) (μ : vr_M) : vr_CI l yX10_tellsActs cX10_tellsActs 3 (some .int) ({ frames := 8, cells := 0, slots := 0, locals := 168 } : Room) G [.ref (vr_ad G 68), .int (vr_I a0)] μ (fX10_tellsActsw a0 μ) := by
  refine vr_start (own := RX10) (by decide) rfl (Nat.le_of_ble_eq_true rfl) (fun p e s m args below meth c C0 => ?_)
  show vr_J p l e _ s m args below meth c 3 0 0 G (vr_Z (vr_QI G) G args s below) 0 [(0, .ref (vr_ad G 68)), (1, .int (vr_I a0))] [] μ _
  have B51 : ∀ (y0 : Int) (h_y0 : vr_R y0) (μ : vr_M), vr_J p l e ({ frames := 8, cells := 0, slots := 0, locals := 168 } : Room) s m args below meth c 3 0 0 G (vr_Z (vr_QI G) G args s below) 51 [] [.int (vr_I y0)] μ (fX10_tellsActsw_B51 y0 μ) := by
    intro y0 h_y0 μ
    unfold fX10_tellsActsw_B51
    exact jr_iret C0 h_y0 dX10_tellsActs_51
  unfold fX10_tellsActsw
  refine jr_aload_n C0 0 dX10_tellsActs_0 rfl rfl ?_
  refine jr_geti C0 (by decide) kd_68 (by decide) rfl wx_X10 (i := 23) (by decide) wf_X10_254 rfl dX10_tellsActs_1 ?_
  refine jr_iconst C0 dX10_tellsActs_4 ?_
  refine jr_gd (fun g1 => ?_)
  refine jr_icmp_ne C0 g1 (⟨by decide, by decide⟩) dX10_tellsActs_5 (tgt := 30) (by decide) ?_ ?_
  · refine jr_aload_n C0 0 dX10_tellsActs_30 rfl rfl ?_
    refine jr_geti C0 (by decide) kd_68 (by decide) rfl wx_X10 (i := 23) (by decide) wf_X10_254 rfl dX10_tellsActs_31 ?_
    refine jr_iconst C0 dX10_tellsActs_34 ?_
    refine jr_icmp_ne C0 g1 (⟨by decide, by decide⟩) dX10_tellsActs_35 (tgt := 46) (by decide) ?_ ?_
    · refine jr_aload_n C0 0 dX10_tellsActs_46 rfl rfl ?_
      refine jr_iload_n C0 1 dX10_tellsActs_47 rfl rfl ?_
      refine jr_vI C0 (by decide) kd_68 (by decide) rfl (ct_X10_plainTellsw l G a0 h_a0 _) mi_X10_plainTells wm_X10_279 ⟨Nat.le_of_ble_eq_true rfl, Nat.le_of_ble_eq_true rfl⟩ ⟨rfl, rfl⟩ (As := [.int (vr_I a0)]) rfl (st := []) rfl (Nat.le_of_ble_eq_true rfl) dX10_tellsActs_48 (fun r2 hr2 => ?_)
      refine jr_sub [] rfl ?_
      exact B51 r2.1 hr2 _
    refine jr_aload_n C0 0 dX10_tellsActs_38 rfl rfl ?_
    refine jr_iload_n C0 1 dX10_tellsActs_39 rfl rfl ?_
    refine jr_vI C0 (by decide) kd_68 (by decide) rfl (ct_X10_nearTellsw l G a0 h_a0 _) mi_X10_nearTells wm_X10_282 ⟨Nat.le_of_ble_eq_true rfl, Nat.le_of_ble_eq_true rfl⟩ ⟨rfl, rfl⟩ (As := [.int (vr_I a0)]) rfl (st := []) rfl (Nat.le_of_ble_eq_true rfl) dX10_tellsActs_40 (fun r3 hr3 => ?_)
    refine jr_goto C0 dX10_tellsActs_43 (tgt := 51) (by decide) ?_
    refine jr_sub [] rfl ?_
    exact B51 r3.1 hr3 _
  refine jr_aload_n C0 0 dX10_tellsActs_8 rfl rfl ?_
  refine jr_bipush C0 dX10_tellsActs_9 rfl ?_
  refine jr_vV0 C0 (by decide) kd_68 (by decide) rfl (ct_X10_runs l G 41 (⟨by decide, by decide⟩) _) mi_X10_runs wm_X10_248 ⟨Nat.le_of_ble_eq_true rfl, Nat.le_of_ble_eq_true rfl⟩ ⟨rfl, rfl⟩ (As := [.int (vr_I 41)]) rfl (st := []) rfl (Nat.le_of_ble_eq_true rfl) dX10_tellsActs_11 (fun r4 => ?_)
  refine jr_aload_n C0 0 dX10_tellsActs_14 rfl rfl ?_
  refine jr_iload_n C0 1 dX10_tellsActs_15 rfl rfl ?_
  refine jr_iconst C0 dX10_tellsActs_16 ?_
  refine jr_isubw C0 dX10_tellsActs_17 ?_
  refine jr_vI C0 (by decide) kd_68 (by decide) rfl (ct_X10_nearTellsw l G (vr_w (a0 - 1)) (vr_RT _) _) mi_X10_nearTells wm_X10_282 ⟨Nat.le_of_ble_eq_true rfl, Nat.le_of_ble_eq_true rfl⟩ ⟨rfl, rfl⟩ (As := [.int (vr_I (vr_w (a0 - 1)))]) rfl (st := []) rfl (Nat.le_of_ble_eq_true rfl) dX10_tellsActs_18 (fun r5 hr5 => ?_)
  refine jr_istore_n C0 dX10_tellsActs_21 rfl (by decide) (lv' := [(2, .int (vr_I r5.1)), (0, .ref (vr_ad G 68)), (1, .int (vr_I a0))]) rfl ?_
  refine jr_iload_n C0 0 dX10_tellsActs_22 rfl rfl ?_
  refine jr_aload_n C0 1 dX10_tellsActs_23 rfl rfl ?_
  refine jr_iconst C0 dX10_tellsActs_24 ?_
  refine jr_vI C0 (by decide) kd_68 (by decide) rfl (ct_X10_burnsActsw l G 2 (⟨by decide, by decide⟩) _) mi_X10_burnsActs wm_X10_260 ⟨Nat.le_of_ble_eq_true rfl, Nat.le_of_ble_eq_true rfl⟩ ⟨rfl, rfl⟩ (As := [.int (vr_I 2)]) rfl (st := [.int (vr_I r5.1)]) rfl (Nat.le_of_ble_eq_true rfl) dX10_tellsActs_25 (fun r6 hr6 => ?_)
  refine jr_iaddw C0 dX10_tellsActs_28 ?_
  exact jr_iret C0 (vr_RT _) dX10_tellsActs_29
def fX10_actw_B22 (μ : vr_M) : Option (Int × vr_M) :=
  some (0, μ)
def fX10_actw_B87 (y0 : Int) (μ : vr_M) : Option (Int × vr_M) :=
  some (y0, μ)
def fX10_actw (a0 : Int) (a1 : Int) (a2 : Int) (μ : vr_M) : Option (Int × vr_M) :=
  (fX10_isRule a0 (vr_u μ 68 22 0)).bind (fun r1 => if r1.1 = 0 then fX10_actw_B22 r1.2 else (fX10_in a1 0 2 r1.2).bind (fun r2 => if ¬ r2.1 = 0 then vr_gd (0 ≤ (vr_w (170 + a0)) ∧ (vr_w (170 + a0)) < 933) (vr_gd (0 ≤ (vr_w (178 + a0)) ∧ (vr_w (178 + a0)) < 933) (vr_let (vr_u (vr_u r2.2 68 23 (r2.2 69 (vr_w (170 + a0)).toNat)) 68 24 a0) (fun μ5 => if ¬ a1 = 0 then if ¬ a1 = 1 then (fX10_tellsActsw a2 (vr_u μ5 68 25 (μ5 69 (vr_w (178 + a0)).toNat))).bind (fun r6 => fX10_actw_B87 r6.1 r6.2) else (fX10_restsActsw a2 (vr_u μ5 68 25 (μ5 69 (vr_w (178 + a0)).toNat))).bind (fun r7 => fX10_actw_B87 r7.1 r7.2) else (fX10_burnsActsw a2 (vr_u μ5 68 25 (μ5 69 (vr_w (178 + a0)).toNat))).bind (fun r8 => fX10_actw_B87 r8.1 r8.2)))) else fX10_actw_B22 r2.2))
set_option maxRecDepth 100000 in
set_option maxHeartbeats 4000000 in
theorem ct_X10_actw (l : Launch) (G : vr_G) (a0 : Int) (h_a0 : vr_R a0) (a1 : Int) (h_a1 : vr_R a1) (a2 : Int) (h_a2 : vr_R a2) (μ : vr_M) : vr_CI l yX10_act cX10_act 4 (some .int) ({ frames := 9, cells := 0, slots := 0, locals := 190 } : Room) G [.ref (vr_ad G 68), .int (vr_I a0), .int (vr_I a1), .int (vr_I a2)] μ (fX10_actw a0 a1 a2 μ) := by
  refine vr_start (own := RX10) (by decide) rfl (Nat.le_of_ble_eq_true rfl) (fun p e s m args below meth c C0 => ?_)
  show vr_J p l e _ s m args below meth c 4 0 0 G (vr_Z (vr_QI G) G args s below) 0 [(0, .ref (vr_ad G 68)), (1, .int (vr_I a0)), (2, .int (vr_I a1)), (3, .int (vr_I a2))] [] μ _
  have B22 : ∀ (μ : vr_M), vr_J p l e ({ frames := 9, cells := 0, slots := 0, locals := 190 } : Room) s m args below meth c 4 0 0 G (vr_Z (vr_QI G) G args s below) 22 [] [] μ (fX10_actw_B22 μ) := by
    intro μ
    unfold fX10_actw_B22
    refine jr_iconst C0 dX10_act_22 ?_
    exact jr_iret C0 (⟨by decide, by decide⟩) dX10_act_23
  have B87 : ∀ (y0 : Int) (h_y0 : vr_R y0) (μ : vr_M), vr_J p l e ({ frames := 9, cells := 0, slots := 0, locals := 190 } : Room) s m args below meth c 4 0 0 G (vr_Z (vr_QI G) G args s below) 87 [] [.int (vr_I y0)] μ (fX10_actw_B87 y0 μ) := by
    intro y0 h_y0 μ
    unfold fX10_actw_B87
    exact jr_iret C0 h_y0 dX10_act_87
  unfold fX10_actw
  refine jr_aload_n C0 0 dX10_act_0 rfl rfl ?_
  refine jr_iconst C0 dX10_act_1 ?_
  refine jr_puti C0 (by decide) kd_68 (by decide) rfl wx_X10 (i := 22) (by decide) wf_X10_245 rfl tyX10_ok nmX10 rfl rfl rfl dX10_act_2 ?_
  refine jr_aload_n C0 0 dX10_act_5 rfl rfl ?_
  refine jr_iload_n C0 1 dX10_act_6 rfl rfl ?_
  refine jr_vI C0 (by decide) kd_68 (by decide) rfl (ct_X10_isRule l G a0 h_a0 _) mi_X10_isRule wm_X10_190 ⟨Nat.le_of_ble_eq_true rfl, Nat.le_of_ble_eq_true rfl⟩ ⟨rfl, rfl⟩ (As := [.int (vr_I a0)]) rfl (st := []) rfl (Nat.le_of_ble_eq_true rfl) dX10_act_7 (fun r1 hr1 => ?_)
  refine jr_if_eq C0 hr1 dX10_act_10 (tgt := 22) (by decide) ?_ ?_
  · refine jr_sub [] rfl ?_
    exact B22 _
  refine jr_iload_n C0 2 dX10_act_13 rfl rfl ?_
  refine jr_iconst C0 dX10_act_14 ?_
  refine jr_iconst C0 dX10_act_15 ?_
  refine jr_sI C0 (ct_X10_in l G a1 h_a1 0 (⟨by decide, by decide⟩) 2 (⟨by decide, by decide⟩) _) mi_X10_in wm_X10_44 ⟨Nat.le_of_ble_eq_true rfl, Nat.le_of_ble_eq_true rfl⟩ ⟨rfl, rfl⟩ (As := [.int (vr_I a1), .int (vr_I 0), .int (vr_I 2)]) rfl (st := []) rfl (Nat.le_of_ble_eq_true rfl) dX10_act_16 (fun r2 hr2 => ?_)
  refine jr_if_ne C0 hr2 dX10_act_19 (tgt := 24) (by decide) ?_ ?_
  · refine jr_aload_n C0 0 dX10_act_24 rfl rfl ?_
    refine jr_aload_n C0 0 dX10_act_25 rfl rfl ?_
    refine jr_getr C0 (by decide) kd_68 (by decide) rfl wx_X10 (i := 1) (by decide) wf_X10_9 (j := 69) rfl dX10_act_26 ?_
    refine jr_sipush C0 dX10_act_29 rfl ?_
    refine jr_iload_n C0 1 dX10_act_32 rfl rfl ?_
    refine jr_iaddw C0 dX10_act_33 ?_
    refine jr_gd (fun g3 => ?_)
    refine jr_iald C0 (by decide) kd_69 kl_69 g3 (j := (vr_w (170 + a0)).toNat) rfl dX10_act_34 ?_
    refine jr_puti C0 (by decide) kd_68 (by decide) rfl wx_X10 (i := 23) (by decide) wf_X10_254 rfl tyX10_ok nmX10 rfl rfl rfl dX10_act_35 ?_
    refine jr_aload_n C0 0 dX10_act_38 rfl rfl ?_
    refine jr_iload_n C0 1 dX10_act_39 rfl rfl ?_
    refine jr_puti C0 (by decide) kd_68 (by decide) rfl wx_X10 (i := 24) (by decide) wf_X10_251 rfl tyX10_ok nmX10 rfl rfl rfl dX10_act_40 ?_
    refine jr_aload_n C0 0 dX10_act_43 rfl rfl ?_
    refine jr_aload_n C0 0 dX10_act_44 rfl rfl ?_
    refine jr_getr C0 (by decide) kd_68 (by decide) rfl wx_X10 (i := 1) (by decide) wf_X10_9 (j := 69) rfl dX10_act_45 ?_
    refine jr_sipush C0 dX10_act_48 rfl ?_
    refine jr_iload_n C0 1 dX10_act_51 rfl rfl ?_
    refine jr_iaddw C0 dX10_act_52 ?_
    refine jr_gd (fun g4 => ?_)
    refine jr_let (fun μ5 => ?_)
    refine jr_iald C0 (by decide) kd_69 kl_69 g4 (j := (vr_w (178 + a0)).toNat) rfl dX10_act_53 ?_
    refine jr_puti C0 (by decide) kd_68 (by decide) rfl wx_X10 (i := 25) (by decide) wf_X10_263 rfl tyX10_ok nmX10 rfl rfl rfl dX10_act_54 ?_
    refine jr_iload_n C0 2 dX10_act_57 rfl rfl ?_
    refine jr_if_ne C0 h_a1 dX10_act_58 (tgt := 69) (by decide) ?_ ?_
    · refine jr_iload_n C0 2 dX10_act_69 rfl rfl ?_
      refine jr_iconst C0 dX10_act_70 ?_
      refine jr_icmp_ne C0 h_a1 (⟨by decide, by decide⟩) dX10_act_71 (tgt := 82) (by decide) ?_ ?_
      · refine jr_aload_n C0 0 dX10_act_82 rfl rfl ?_
        refine jr_iload_n C0 3 dX10_act_83 rfl rfl ?_
        refine jr_vI C0 (by decide) kd_68 (by decide) rfl (ct_X10_tellsActsw l G a2 h_a2 _) mi_X10_tellsActs wm_X10_285 ⟨Nat.le_of_ble_eq_true rfl, Nat.le_of_ble_eq_true rfl⟩ ⟨rfl, rfl⟩ (As := [.int (vr_I a2)]) rfl (st := []) rfl (Nat.le_of_ble_eq_true rfl) dX10_act_84 (fun r6 hr6 => ?_)
        refine jr_sub [] rfl ?_
        exact B87 r6.1 hr6 _
      refine jr_aload_n C0 0 dX10_act_74 rfl rfl ?_
      refine jr_iload_n C0 3 dX10_act_75 rfl rfl ?_
      refine jr_vI C0 (by decide) kd_68 (by decide) rfl (ct_X10_restsActsw l G a2 h_a2 _) mi_X10_restsActs wm_X10_276 ⟨Nat.le_of_ble_eq_true rfl, Nat.le_of_ble_eq_true rfl⟩ ⟨rfl, rfl⟩ (As := [.int (vr_I a2)]) rfl (st := []) rfl (Nat.le_of_ble_eq_true rfl) dX10_act_76 (fun r7 hr7 => ?_)
      refine jr_goto C0 dX10_act_79 (tgt := 87) (by decide) ?_
      refine jr_sub [] rfl ?_
      exact B87 r7.1 hr7 _
    refine jr_aload_n C0 0 dX10_act_61 rfl rfl ?_
    refine jr_iload_n C0 3 dX10_act_62 rfl rfl ?_
    refine jr_vI C0 (by decide) kd_68 (by decide) rfl (ct_X10_burnsActsw l G a2 h_a2 _) mi_X10_burnsActs wm_X10_260 ⟨Nat.le_of_ble_eq_true rfl, Nat.le_of_ble_eq_true rfl⟩ ⟨rfl, rfl⟩ (As := [.int (vr_I a2)]) rfl (st := []) rfl (Nat.le_of_ble_eq_true rfl) dX10_act_63 (fun r8 hr8 => ?_)
    refine jr_goto C0 dX10_act_66 (tgt := 87) (by decide) ?_
    refine jr_sub [] rfl ?_
    exact B87 r8.1 hr8 _
  refine jr_sub [] rfl ?_
  exact B22 _
