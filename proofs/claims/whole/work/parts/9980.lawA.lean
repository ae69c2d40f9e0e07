/-! the law's own walk -/
abbrev vk_L (G : vr_G) (b : Nat) (x : Int) : List (Nat × Value) := [(0, .ref b), (1, .ref (vr_ad G 0)), (2, .ref (vr_ad G 68)), (3, .int (vr_I x))]
def vk_v (xs : Nat → Int32) (x : Int) : Int := (xs x.toNat).toInt
theorem vk_R1 (xs : Nat → Int32) (x : Int) : vr_R (vk_v xs x) := vr_RT _
section LAWJ
variable {ρ : Type} {p : Program} {l : Launch} {e : Env} {R : Room} {s : State} {m : MethodId} {args : Array Value} {below : List Frame} {meth : Method} {c : Code} {nL nc ns : Nat} {G : vr_G} {Z : ρ → State → Prop} {pc : Nat} {lv lv' : List (Nat × Value)} {st : List Value} {μ : vr_M} {P P1 P2 : Option ρ} {own : String} {cc : ByteArray} {ret : Option FieldType}
theorem jl_sld (C0 : vr_Cx R nc ns p s m args meth c own cc nL ret G) {b L : Nat} {xs : Nat → Int32} (hX : va_X b L xs s s.heap) (hbl : b < s.heap.size) (hbA : ¬ vr_A G b) (hL : L ≤ 2048) {x : Int} (hx : 0 ≤ x ∧ x < (L : Int)) (hdg : decode cc pc = .ok (.iaload, 1)) (kk : vr_J p l e R s m args below meth c nL nc ns G Z (pc + 1) lv (.int (vr_I (vk_v xs x)) :: st) μ P) : vr_J p l e R s m args below meth c nL nc ns G Z pc lv (.int (vr_I x) :: .ref b :: st) μ P := fun r hr H locs ls hP hS hl =>
  va_sld C0.1 C0.2.1 hX hbl hbA hS (vr_in' hx (by omega)) hdg (by
    rw [vr_cl hx.1 (by omega)]
    have h := kk r hr H locs ls hP hS hl
    unfold vk_v at h
    rw [vr_IT] at h
    exact h)
theorem jl_slen (C0 : vr_Cx R nc ns p s m args meth c own cc nL ret G) {b L : Nat} {xs : Nat → Int32} (hX : va_X b L xs s s.heap) (hbl : b < s.heap.size) (hbA : ¬ vr_A G b) (hdg : decode cc pc = .ok (.arraylength, 1)) (kk : vr_J p l e R s m args below meth c nL nc ns G Z (pc + 1) lv (.int (vr_I (L : Int)) :: st) μ P) : vr_J p l e R s m args below meth c nL nc ns G Z pc lv (.ref b :: st) μ P := fun r hr H locs ls hP hS hl =>
  va_slen C0.1 C0.2.1 hX hbl hbA hS hdg (by
    have h := kk r hr H locs ls hP hS hl
    rw [show Int32.ofNat L = vr_I (L : Int) from Int32.ofInt_eq_ofNat.symm]
    exact h)
theorem jl_vI (C0 : vr_Cx R nc ns p s m args meth c own cc nL ret G) {y : MethodName} {bytes : ByteArray} {maxL n index : Nat} {ty : Option FieldType} {rm : Room} {As st0 : List Value} {f : Option (Int × vr_M)} {Cn : String} {T : u_T} {N ci k : Nat} (hk : k < 78) (hkd : vr_kd k = ci) (hci : ci < 11) (hcl : vwCl[ci]? = some (Cn, T, N)) (hc : vr_CI l y bytes maxL ty rm G (.ref (vr_ad G k) :: As) μ f) (hy : vr_Mi Cn y bytes maxL ty n) (hl0 : Cond.methodLink own index y ∈ vr_T) (hR : rm.frames + 1 ≤ R.frames ∧ 8 + (maxL + 11) + rm.locals ≤ R.locals) (hrm : rm.cells = 0 ∧ rm.slots = 0) (hAs : As.length = n) (hst : st0 = As.reverse ++ .ref (vr_ad G k) :: st) (hW : (st.map fun v => v.category).sum ≤ 8) {r1 : Int} {μ1 : vr_M} (hf : f = some (r1, μ1)) (hdg : decode cc pc = .ok (.invokevirtual index, 3)) (kk : vr_R r1 → vr_J p l e R s m args below meth c nL nc ns G Z (pc + 3) lv (.int (vr_I r1) :: st) μ1 P) : vr_J p l e R s m args below meth c nL nc ns G Z pc lv st0 μ P := by
  intro r0 hr H locs ls hP hS hl
  have hM := hc (r1, μ1) hf
  refine va_calli (Q := Z r0) (B := _) (A1 := vr_A G) (va_runV (As := As) (rest := st) ⟨C0.1, C0.2.1, C0.2.2.1, C0.2.2.2.1, C0.2.2.2.2.1⟩ hM (cwV n C0.2.2.2.2.1 (vr_gV hl0 hy.1) rfl hrm.1 hrm.2 hy.2 hR) ⟨fun a U g mk q => ⟨q.1, q.2.1, vr_Ev.same q.2.2 rfl⟩, va_recv C0.2.2.2.2.2.1.1 hP (q := (Cn, T, N)) hcl (by rw [vr_ws_at hk, vr_cell_obj hkd hci]), fun U hU hW => ⟨rfl, by rw [hU]; exact hP, by rw [hU]; exact vr_Ev.warm C0.2.2.2.2.2.1 hW (fun a h1 h2 => hS.2.1 a h1 h2)⟩⟩ rfl hAs hl.1 hst (lv_room hW) hdg ⟨C0.2.2.2.2.2.2.2.2.1, C0.2.2.2.2.2.2.2.2.2⟩) hS (fun _ _ h => h) (fun _ h => h) (fun v u t H1 locs1 ht hvm hw hB hz hk1 hS1 => ?_)
  obtain ⟨rfl, hw2⟩ := hw
  rw [ht] at hB
  exact kk hw2 r0 hr H1 locs1 ls hB hS1 hl
theorem jl_vL (C0 : vr_Cx R nc ns p s m args meth c own cc nL ret G) {y : MethodName} {bytes : ByteArray} {maxL n index : Nat} {ty : Option FieldType} {rm : Room} {As st0 : List Value} {f : Option (Int64 × vr_M)} {Cn : String} {T : u_T} {N ci k : Nat} (hk : k < 78) (hkd : vr_kd k = ci) (hci : ci < 11) (hcl : vwCl[ci]? = some (Cn, T, N)) (hc : vr_CL l y bytes maxL ty rm G (.ref (vr_ad G k) :: As) μ f) (hy : vr_Mi Cn y bytes maxL ty n) (hl0 : Cond.methodLink own index y ∈ vr_T) (hR : rm.frames + 1 ≤ R.frames ∧ 8 + (maxL + 11) + rm.locals ≤ R.locals) (hrm : rm.cells = 0 ∧ rm.slots = 0) (hAs : As.length = n) (hst : st0 = As.reverse ++ .ref (vr_ad G k) :: st) (hW : (st.map fun v => v.category).sum ≤ 8) {r1 : Int64} {μ1 : vr_M} (hf : f = some (r1, μ1)) (hdg : decode cc pc = .ok (.invokevirtual index, 3)) (kk : vr_J p l e R s m args below meth c nL nc ns G Z (pc + 3) lv (.long r1 :: st) μ1 P) : vr_J p l e R s m args below meth c nL nc ns G Z pc lv st0 μ P := by
  intro r0 hr H locs ls hP hS hl
  have hM := hc (r1, μ1) hf
  refine va_calll (Q := Z r0) (B := _) (A1 := vr_A G) (va_runV (As := As) (rest := st) ⟨C0.1, C0.2.1, C0.2.2.1, C0.2.2.2.1, C0.2.2.2.2.1⟩ hM (cwV n C0.2.2.2.2.1 (vr_gV hl0 hy.1) rfl hrm.1 hrm.2 hy.2 hR) ⟨fun a U g mk q => ⟨q.1, q.2.1, vr_Ev.same q.2.2 rfl⟩, va_recv C0.2.2.2.2.2.1.1 hP (q := (Cn, T, N)) hcl (by rw [vr_ws_at hk, vr_cell_obj hkd hci]), fun U hU hW => ⟨rfl, by rw [hU]; exact hP, by rw [hU]; exact vr_Ev.warm C0.2.2.2.2.2.1 hW (fun a h1 h2 => hS.2.1 a h1 h2)⟩⟩ rfl hAs hl.1 hst (lv_room hW) hdg ⟨C0.2.2.2.2.2.2.2.2.1, C0.2.2.2.2.2.2.2.2.2⟩) hS (fun _ _ h => h) (fun _ h => h) (fun v u t H1 locs1 ht hvm hw hB hz hk1 hS1 => ?_)
  obtain rfl := hw
  rw [ht] at hB
  exact kk r0 hr H1 locs1 ls hB hS1 hl
theorem jl_eq (C0 : vr_Cx R nc ns p s m args meth c own cc nL ret G) {x : Int} {off : Int} {tgt : Nat} (hx : vr_R x) (hdg : decode cc pc = .ok (.if_icmp .eq off, 3)) (ht : (pc : Int) + off = (tgt : Int)) (kk : vr_J p l e R s m args below meth c nL nc ns G Z tgt lv st μ P) : vr_J p l e R s m args below meth c nL nc ns G Z pc lv (.int (vr_I x) :: .int (vr_I x) :: st) μ P := by
  have h := jr_icmp_eq (P1 := P) (P2 := none) C0 hx hx hdg ht kk jr_none
  rw [if_pos rfl] at h
  exact h
theorem jl_eqL (C0 : vr_Cx R nc ns p s m args meth c own cc nL ret G) {x : Int64} {off : Int} {tgt : Nat} (hd1 : decode cc pc = .ok (.lcmp, 1)) (hdg : decode cc (pc + 1) = .ok (.ifCond .eq off, 3)) (ht : ((pc + 1 : Nat) : Int) + off = (tgt : Int)) (kk : vr_J p l e R s m args below meth c nL nc ns G Z tgt lv st μ P) : vr_J p l e R s m args below meth c nL nc ns G Z pc lv (.long x :: .long x :: st) μ P := by
  refine jr_lcmp C0 hd1 ?_
  have e0 : vr_lcmp x x = 0 := by
    unfold vr_lcmp lg_cmp
    simp
  rw [e0]
  have h := jr_if_eq (P1 := P) (P2 := none) (x := 0) C0 (by decide) hdg ht kk jr_none
  rw [if_pos rfl] at h
  exact h
end LAWJ
