/-! constructors: a world that grows -/
def vbx_N (U : State) : Prop := va_Nw (.methodLinkNest RX9 11 yX8_init "VillageRounds") U ∧ va_Nw (.methodLinkNest RX8 11 yX2_init "VillageRounds") U ∧ va_Nw (.methodLinkNest RX7 11 yX2_init "VillageRounds") U ∧ va_Nw (.methodLinkNest RX9 61 yX5_init "VillageRounds") U
theorem vbx_N.warm {s U : State} (h : vbx_N s) (hW : s.WarmedH U.vm) : vbx_N U := ⟨h.1.warmM hW, h.2.1.warmM hW, h.2.2.1.warmM hW, h.2.2.2.warmM hW⟩
theorem vbx_N.same {u U : State} (h : vbx_N u) (e : u.vm = U.vm) : vbx_N U := ⟨va_Nw.same rfl e h.1, va_Nw.same rfl e h.2.1, va_Nw.same rfl e h.2.2.1, va_Nw.same rfl e h.2.2.2⟩
abbrev vbx_D : Type := va_G × (ClassId × ClassId)
def vbx_B (D : vbx_D) (A : Nat → Prop) (U : State) : Prop := va_K D.1 vwCl [(D.2.1, .int), (D.2.2, .boolean)] U ∧ (∀ q : Nat, U.heap.size ≤ q → A q) ∧ vbx_N U
def vbx_Q (D : vbx_D) (A : Nat → Prop) (X : (Nat → Nat) → va_W) : Array Value → State → Outcome → State → Prop := va_Qv (fun (_ : Unit) => True) (fun _ t => ∃ f : Nat → Nat, va_P D.1 vwCl (X f) t.heap ∧ va_D A (X f)) A
def vbx_C (l : Launch) (y : MethodName) (bytes : ByteArray) (maxL : Nat) (rm : Room) (D : vbx_D) (A : Nat → Prop) (av : List Value) (ws : va_W) (X : (Nat → Nat) → va_W) (mc ms : Nat) : Prop := Met l y (.code y bytes maxL none :: vr_T) rm (va_Pc av (fun U => va_P D.1 vwCl ws U.heap ∧ va_D A ws ∧ vbx_B D A U)) (vbx_Q D A X) mc ms A
def vbx_Cx (p : Program) (s : State) (m : MethodId) (args : Array Value) (meth : Method) (c : Code) (own nm : String) (cc : ByteArray) (nL : Nat) (D : vbx_D) (A : Nat → Prop) : Prop :=
  p.tables.exec = Jvm.exec ∧ c.code = cc ∧ c.maxLocals = nL ∧ s.vm.findClass own = some m.cls ∧ (∀ w ∈ vr_T, w.before args s = true) ∧ vbx_B D A s ∧ meth.sig.returnType = none ∧ meth.name = nm ∧ meth.locks = false
def vbx_J (p : Program) (l : Launch) (e : Env) (R : Room) (s : State) (m : MethodId) (args : Array Value) (below : List Frame) (meth : Method) (c : Code) (nL : Nat) (D : vbx_D) (A : Nat → Prop) (Z : State → Prop) (pc : Nat) (lv : List (Nat × Value)) (st : List Value) (nc ns : Nat) (ws : va_W) : Prop :=
  ∀ (H : Heap) (locs : List Loc) (ls : Array Slot), va_P D.1 vwCl ws H → va_D A ws → va_S A s.heap H locs → lv_has ls nL lv → W p l e R s m args below meth c H locs nc ns Z (F0 m pc ls st)
theorem vbx_start {l : Launch} {y : MethodName} {own : String} {bytes : ByteArray} {maxL : Nat} {rm : Room} {D : vbx_D} {A : Nat → Prop} {av : List Value} {ws : va_W} {X : (Nat → Nat) → va_W} {mc ms : Nat} (hy : plainName y.cls = true) (hown : y.cls = own) (hlen : (lg_sl av).length ≤ maxL)
    (body : ∀ (p : Program) (e : Env) (s : State) (m : MethodId) (args : Array Value) (below : List Frame) (meth : Method) (c : Code), vbx_Cx p s m args meth c own y.name bytes maxL D A → vbx_J p l e rm s m args below meth c maxL D A (MQ below (vbx_Q D A X) args s mc ms A) 0 (lv_args 0 av) [] 0 0 ws) : vbx_C l y bytes maxL rm D A av ws X mc ms := by
  refine Met.ofW (cc := bytes) (maxL := maxL) (ret := none) hy rfl ?_
  intro p e s m args below meth c s₁ B hml hv
  obtain ⟨rfl, hP, hD, hB⟩ := hv
  have hts := atoms_spec (ws := .code y bytes maxL none :: vr_T) B.pre
  have ho : s.vm.findClass own = some m.cls := by rw [← hown]; exact findClass_of_methodNamed B.named
  have hin : meth.name = y.name := (name_of_methodNamed B.named B.method).1
  have K := body p e s m av.toArray below meth c ⟨B.exec, B.bytes, hml, ho, fun w hw => hts w (List.mem_cons_of_mem _ hw), hB, B.returns, hin, B.notSynchronized⟩ s.heap [] _ hP hD va_S.rf (lv_entry av hlen)
  rw [lg_entry_eq]
  exact K
theorem vbx_at {α : Type} {ws L : List α} (k : Nat) : (ws ++ L)[ws.length + k]? = L[k]? := by
  rw [List.getElem?_append_right (by omega), Nat.add_sub_cancel_left]
theorem vbx_set {α : Type} {ws L : List α} (k : Nat) {x : α} : (ws ++ L).set (ws.length + k) x = ws ++ L.set k x := by
  rw [List.set_append_right _ _ (by omega), Nat.add_sub_cancel_left]
theorem vbx_app {ws L M : va_W} : (ws ++ L) ++ M = ws ++ (L ++ M) := List.append_assoc _ _ _
section VBJ
variable {p : Program} {l : Launch} {e : Env} {R : Room} {s : State} {m : MethodId} {args : Array Value} {below : List Frame} {meth : Method} {c : Code} {nL nc ns : Nat} {D : vbx_D} {A : Nat → Prop} {Z : State → Prop} {pc : Nat} {lv : List (Nat × Value)} {st : List Value} {ws ws' : va_W} {own nm : String} {cc : ByteArray}
theorem jb_ws (h : ws = ws') (kk : vbx_J p l e R s m args below meth c nL D A Z pc lv st nc ns ws') : vbx_J p l e R s m args below meth c nL D A Z pc lv st nc ns ws := by rw [h]; exact kk
theorem jb_iconst (C0 : vbx_Cx p s m args meth c own nm cc nL D A) {n : Int} (hdg : decode cc pc = .ok (.iconst n, 1)) (kk : vbx_J p l e R s m args below meth c nL D A Z (pc + 1) lv (.int (vr_I n) :: st) nc ns ws) : vbx_J p l e R s m args below meth c nL D A Z pc lv st nc ns ws := fun H locs ls hP hD hS hl => lv_iconst C0.1 C0.2.1 hdg rfl (kk H locs ls hP hD hS hl)
theorem jb_bipush (C0 : vbx_Cx p s m args meth c own nm cc nL D A) {n : Int} (hdg : decode cc pc = .ok (.bipush n, 2)) (hv : (Int8.ofInt n).toInt32 = vr_I n) (kk : vbx_J p l e R s m args below meth c nL D A Z (pc + 2) lv (.int (vr_I n) :: st) nc ns ws) : vbx_J p l e R s m args below meth c nL D A Z pc lv st nc ns ws := fun H locs ls hP hD hS hl => lv_bipush C0.1 C0.2.1 hdg hv (kk H locs ls hP hD hS hl)
theorem jb_sipush (C0 : vbx_Cx p s m args meth c own nm cc nL D A) {n : Int} (hdg : decode cc pc = .ok (.sipush n, 3)) (hv : (Int16.ofInt n).toInt32 = vr_I n) (kk : vbx_J p l e R s m args below meth c nL D A Z (pc + 3) lv (.int (vr_I n) :: st) nc ns ws) : vbx_J p l e R s m args below meth c nL D A Z pc lv st nc ns ws := fun H locs ls hP hD hS hl => lv_sipush C0.1 C0.2.1 hdg hv (kk H locs ls hP hD hS hl)
theorem jb_iload_n (C0 : vbx_Cx p s m args meth c own nm cc nL D A) {k : Fin 4} {i : Nat} {x : Int} (q : Nat) (hdg : decode cc pc = .ok (.iload_n k, 1)) (hi : (k : Nat) = i) (hq : lv[q]? = some (i, .int (vr_I x))) (kk : vbx_J p l e R s m args below meth c nL D A Z (pc + 1) lv (.int (vr_I x) :: st) nc ns ws) : vbx_J p l e R s m args below meth c nL D A Z pc lv st nc ns ws := fun H locs ls hP hD hS hl => lv_iload_n C0.1 C0.2.1 hdg hi (lv_at hl q hq) (kk H locs ls hP hD hS hl)
theorem jb_aload_n (C0 : vbx_Cx p s m args meth c own nm cc nL D A) {k : Fin 4} {i x : Nat} (q : Nat) (hdg : decode cc pc = .ok (.aload_n k, 1)) (hi : (k : Nat) = i) (hq : lv[q]? = some (i, .ref x)) (kk : vbx_J p l e R s m args below meth c nL D A Z (pc + 1) lv (.ref x :: st) nc ns ws) : vbx_J p l e R s m args below meth c nL D A Z pc lv st nc ns ws := fun H locs ls hP hD hS hl => lv_aload_n C0.1 C0.2.1 hdg hi (lv_at hl q hq) (kk H locs ls hP hD hS hl)
theorem jb_dup (C0 : vbx_Cx p s m args meth c own nm cc nL D A) {va : Value} (hva : va.category = 1) (hdg : decode cc pc = .ok (.dup, 1)) (kk : vbx_J p l e R s m args below meth c nL D A Z (pc + 1) lv (va :: va :: st) nc ns ws) : vbx_J p l e R s m args below meth c nL D A Z pc lv (va :: st) nc ns ws := fun H locs ls hP hD hS hl => lv_dup C0.1 C0.2.1 hdg hva (kk H locs ls hP hD hS hl)
theorem wi_obj : Cond.instanceMethod Lib.objectInit ∈ vr_T := vr_in 98 (by decide +kernel) (by decide +kernel)
theorem wc_obj : Cond.code Lib.objectInit ⟨#[0xb1]⟩ 1 none ∈ vr_T := vr_in 99 (by decide +kernel) (by decide +kernel)
theorem jb_obj (C0 : vbx_Cx p s m args meth c own nm cc nL D A) {a idx : Nat} (hl0 : Cond.methodLink own idx Lib.objectInit ∈ vr_T) (hdg : decode cc pc = .ok (.invokespecial idx, 3)) (hfr : 1 ≤ R.frames) (hlo : 12 ≤ R.locals) (kk : vbx_J p l e R s m args below meth c nL D A Z (pc + 3) lv [] nc ns ws) : vbx_J p l e R s m args below meth c nL D A Z pc lv [.ref a] nc ns ws := by
  intro H locs ls hP hD hS hl
  refine W.objInit C0.1 C0.2.1 C0.2.2.2.1 (C0.2.2.2.2.1 _ hl0) (C0.2.2.2.2.1 _ wi_obj) (C0.2.2.2.2.1 _ wc_obj) rfl (by rw [C0.2.2.1]; exact hl.1) rfl hdg hfr hlo ?_
  exact W.eq (g2 := F0 m (pc + 3) ls []) rfl (kk H locs ls hP hD hS hl)
theorem jb_new (C0 : vbx_Cx p s m args meth c own nm cc nL D A) {C : String} {T : u_T} {N ci index : Nat} (hin : ∀ w ∈ u_ws C T N, w ∈ vr_T) (ty : Nat → FieldType) (hty : ∀ k, k < N → parseFieldDescriptor (T k).2.2.1 = some (ty k)) (wl : Cond.classLink own index C ∈ vr_T) (wn : Cond.instantiable C N ∈ vr_T) (wz : Cond.initialized C ∈ vr_T) (hc : vwCl[ci]? = some (C, T, N)) (fs : List Value) (hfs : ∀ j, j < N → defaultValue (ty j) = vp_V fs j) (hcells : nc + 1 ≤ R.cells) (hslots : ns + N ≤ R.slots) (hdg : decode cc pc = .ok (.new index, 3))
    (kk : ∀ q : Nat, vbx_J p l e R s m args below meth c nL D A Z (pc + 3) lv (.ref q :: st) (nc + 1) (ns + N) (ws ++ [(q, .inr (ci, fs))])) : vbx_J p l e R s m args below meth c nL D A Z pc lv st nc ns ws := fun H locs ls hP hD hS hl =>
  va_new C0.1 C0.2.1 C0.2.2.2.2.1 hin ty hty C0.2.2.2.1 (C0.2.2.2.2.1 _ wl) (C0.2.2.2.2.1 _ wn) (C0.2.2.2.2.1 _ wz) C0.2.2.2.2.2.1.1 hP hD hS C0.2.2.2.2.2.1.2.1 hc hfs hcells hslots hdg (fun q H1 hP hD hS => kk q H1 locs ls hP hD hS hl)
theorem wa_int : Cond.arrayClass .int ∈ vr_T := by decide +kernel
theorem wa_boolean : Cond.arrayClass .boolean ∈ vr_T := by decide +kernel
theorem jb_newi (C0 : vbx_Cx p s m args meth c own nm cc nL D A) {n N : Nat} {x : Int} (hx : x = (N : Int)) (hN : N ≤ 6000) (hcells : nc + 1 ≤ R.cells) (hslots : ns + N ≤ R.slots) (hdg : decode cc pc = .ok (.newarray .int, 2))
    (kk : ∀ q : Nat, vbx_J p l e R s m args below meth c nL D A Z (pc + 2) lv (.ref q :: st) (nc + 1) (ns + N) (ws ++ [(q, .inl (D.2.1, N, .inl (fun _ => vr_I 0)))])) : vbx_J p l e R s m args below meth c nL D A Z pc lv (.int (vr_I x) :: st) nc ns ws := by
  subst hx
  intro H locs ls hP hD hS hl
  have hK := C0.2.2.2.2.2.1.1
  refine va_newa (atype := .int) (ty := .int) (N' := N) (a0 := (N, .inl (fun _ => vr_I 0))) C0.1 C0.2.1 (C0.2.2.2.2.1 _ wa_int) rfl hK hP hD hS C0.2.2.2.2.2.1.2.1 (fun cA => rfl) ?_ (by rw [vr_cl (by omega) (by omega)]; rfl) (by show N * 4 ≤ _; omega) hcells hslots hdg (fun q cA H1 hK1 hP hD hS => ?_)
  · rw [show (0 : Int32) = vr_I 0 from rfl, vr_lt ⟨by omega, by omega⟩ (by decide)]
    omega
  · have h1 : s.vm.findClass ("[" ++ FieldType.int.toString) = some cA := (hK1.2 2 (cA, .int) rfl).2
    have h2 : s.vm.findClass ("[" ++ FieldType.int.toString) = some D.2.1 := (hK.2 0 (D.2.1, .int) rfl).2
    have h3 : cA = D.2.1 := by rw [h1] at h2; exact Option.some.inj h2
    subst h3
    exact kk q H1 locs ls hP hD hS hl
theorem jb_newz (C0 : vbx_Cx p s m args meth c own nm cc nL D A) {n N : Nat} {x : Int} (hx : x = (N : Int)) (hN : N ≤ 6000) (hcells : nc + 1 ≤ R.cells) (hslots : ns + N ≤ R.slots) (hdg : decode cc pc = .ok (.newarray .boolean, 2))
    (kk : ∀ q : Nat, vbx_J p l e R s m args below meth c nL D A Z (pc + 2) lv (.ref q :: st) (nc + 1) (ns + N) (ws ++ [(q, .inl (D.2.2, N, .inl (fun _ => vr_I 0)))])) : vbx_J p l e R s m args below meth c nL D A Z pc lv (.int (vr_I x) :: st) nc ns ws := by
  subst hx
  intro H locs ls hP hD hS hl
  have hK := C0.2.2.2.2.2.1.1
  refine va_newa (atype := .boolean) (ty := .boolean) (N' := N) (a0 := (N, .inl (fun _ => vr_I 0))) C0.1 C0.2.1 (C0.2.2.2.2.1 _ wa_boolean) rfl hK hP hD hS C0.2.2.2.2.2.1.2.1 (fun cA => rfl) ?_ (by rw [vr_cl (by omega) (by omega)]; rfl) (by show N * 1 ≤ _; omega) hcells hslots hdg (fun q cA H1 hK1 hP hD hS => ?_)
  · rw [show (0 : Int32) = vr_I 0 from rfl, vr_lt ⟨by omega, by omega⟩ (by decide)]
    omega
  · have h1 : s.vm.findClass ("[" ++ FieldType.boolean.toString) = some cA := (hK1.2 2 (cA, .boolean) rfl).2
    have h2 : s.vm.findClass ("[" ++ FieldType.boolean.toString) = some D.2.2 := (hK.2 1 (D.2.2, .boolean) rfl).2
    have h3 : cA = D.2.2 := by rw [h1] at h2; exact Option.some.inj h2
    subst h3
    exact kk q H1 locs ls hP hD hS hl
theorem jb_get (C0 : vbx_Cx p s m args meth c own nm cc nL D A) {a : Nat} {C : String} {T : u_T} {N ci index : Nat} (hin : ∀ w ∈ u_ws C T N, w ∈ vr_T) (q0 : Nat) {fs : List Value} (he : ws[q0]? = some (a, .inr (ci, fs))) (hc : vwCl[ci]? = some (C, T, N)) (k : Nat) (hk : k < N) (wf : Cond.fieldLink own index C (T k).2.1 (T k).2.2.1 ∈ vr_T) (hC : (T k).1 = C) {v : Value} (hv : fs[k]? = some v) (hdg : decode cc pc = .ok (.getfield index, 3))
    (kk : vbx_J p l e R s m args below meth c nL D A Z (pc + 3) lv (v :: st) nc ns ws) : vbx_J p l e R s m args below meth c nL D A Z pc lv (.ref a :: st) nc ns ws := fun H locs ls hP hD hS hl =>
  va_get C0.1 C0.2.1 C0.2.2.2.2.1 hin C0.2.2.2.1 C0.2.2.2.2.2.1.1 hP q0 he hc k hk (C0.2.2.2.2.1 _ wf) (fun x h => by rw [hC] at h; exact h) hv hdg (kk H locs ls hP hD hS hl)
theorem jb_putF (C0 : vbx_Cx p s m args meth c own nm cc nL D A) {a : Nat} {T : u_T} {N ci index : Nat} (hin : ∀ w ∈ u_ws own T N, w ∈ vr_T) (ty0 : Nat → FieldType) (hty : ∀ k, k < N → parseFieldDescriptor (T k).2.2.1 = some (ty0 k)) (hnm : ∀ a, a < N → ∀ b, b < N → a ≠ b → (T a).2.1 ≠ (T b).2.1) (hini : nm = "<init>") (q0 : Nat) {fs : List Value} (he : ws[q0]? = some (a, .inr (ci, fs))) (hc : vwCl[ci]? = some (own, T, N)) (k : Nat) (hk : k < N) (wf : Cond.fieldLink own index own (T k).2.1 (T k).2.2.1 ∈ vr_T) (hC : (T k).1 = own) (hfin : (T k).2.2.2 = true) {v : Value} (hn : narrow (ty0 k) v = v) (hfit : fits (ty0 k) v = true) (hl : k < fs.length) (hws : ws.set q0 (a, .inr (ci, fs.set k v)) = ws') (hdg : decode cc pc = .ok (.putfield index, 3))
    (kk : vbx_J p l e R s m args below meth c nL D A Z (pc + 3) lv st nc ns ws') : vbx_J p l e R s m args below meth c nL D A Z pc lv (v :: .ref a :: st) nc ns ws := fun H locs ls hP hD hS hl2 =>
  va_putF (ty := ty0 k) C0.1 C0.2.1 C0.2.2.2.2.1 hin ty0 hty hnm C0.2.2.2.1 C0.2.2.2.2.2.1.1 hP hD hS q0 he hc k hk (C0.2.2.2.2.1 _ wf) (fun x h => by rw [hC] at h; exact h) hfin (C0.2.2.2.2.2.2.2.1.trans hini) hC (hty k hk) hn hfit hl hdg (fun H1 locs1 hP hD hS => kk H1 locs1 ls (by rw [← hws]; exact hP) (by rw [← hws]; exact hD) hS hl2)
theorem jb_put (C0 : vbx_Cx p s m args meth c own nm cc nL D A) {a : Nat} {T : u_T} {N ci index : Nat} (hin : ∀ w ∈ u_ws own T N, w ∈ vr_T) (ty0 : Nat → FieldType) (hty : ∀ k, k < N → parseFieldDescriptor (T k).2.2.1 = some (ty0 k)) (hnm : ∀ a, a < N → ∀ b, b < N → a ≠ b → (T a).2.1 ≠ (T b).2.1) (q0 : Nat) {fs : List Value} (he : ws[q0]? = some (a, .inr (ci, fs))) (hc : vwCl[ci]? = some (own, T, N)) (k : Nat) (hk : k < N) (wf : Cond.fieldLink own index own (T k).2.1 (T k).2.2.1 ∈ vr_T) (hC : (T k).1 = own) (hfin : (T k).2.2.2 = false) {v : Value} (hn : narrow (ty0 k) v = v) (hfit : fits (ty0 k) v = true) (hl : k < fs.length) (hws : ws.set q0 (a, .inr (ci, fs.set k v)) = ws') (hdg : decode cc pc = .ok (.putfield index, 3))
    (kk : vbx_J p l e R s m args below meth c nL D A Z (pc + 3) lv st nc ns ws') : vbx_J p l e R s m args below meth c nL D A Z pc lv (v :: .ref a :: st) nc ns ws := fun H locs ls hP hD hS hl2 =>
  va_put (ty := ty0 k) C0.1 C0.2.1 C0.2.2.2.2.1 hin ty0 hty hnm C0.2.2.2.1 C0.2.2.2.2.2.1.1 hP hD hS q0 he hc k hk (C0.2.2.2.2.1 _ wf) (fun x h => by rw [hC] at h; exact h) hfin (hty k hk) hn hfit hl hdg (fun H1 locs1 hP hD hS => kk H1 locs1 ls (by rw [← hws]; exact hP) (by rw [← hws]; exact hD) hS hl2)
theorem jb_iast (C0 : vbx_Cx p s m args meth c own nm cc nL D A) {a n : Nat} (q0 : Nat) {f : Nat → Int32} (ha : ws[q0]? = some (a, .inl (D.2.1, n, .inl f))) {i : Nat} {x : Int} (hi : i < n) (hn : n ≤ 6000) (hws : ws.set q0 (a, .inl (D.2.1, n, .inl (upd f i (vr_I x)))) = ws') (hdg : decode cc pc = .ok (.iastore, 1))
    (kk : vbx_J p l e R s m args below meth c nL D A Z (pc + 1) lv st nc ns ws') : vbx_J p l e R s m args below meth c nL D A Z pc lv (.int (vr_I x) :: .int (vr_I (i : Int)) :: .ref a :: st) nc ns ws := fun H locs ls hP hD hS hl2 =>
  va_iast C0.1 C0.2.1 C0.2.2.2.2.2.1.1 hP hD hS q0 0 ha rfl (vr_in' ⟨by omega, by omega⟩ (by omega)) hdg (fun H1 locs1 hP hD hS => by
    rw [vr_cl (by omega) (by omega)] at hP hD
    exact kk H1 locs1 ls (by rw [← hws]; exact hP) (by rw [← hws]; exact hD) hS hl2)
theorem jb_max (C0 : vbx_Cx p s m args meth c own nm cc nL D A) {x y : Int} {index : Nat} (hx : vr_R x) (hy : vr_R y) (hl0 : Cond.methodLink own index Lib.Math.max.name ∈ vr_T) (hs0 : Cond.static Lib.Math.max.name ∈ vr_T) (hi0 : Cond.initialized "java/lang/Math" ∈ vr_T) (hc0 : Cond.code Lib.Math.max.name Lib.Math.max.code 2 (some .int) ∈ vr_T) (hfr : 1 ≤ R.frames) (hlo : (st.map fun v => v.category).sum + 13 ≤ R.locals) (hcs : nc ≤ R.cells ∧ ns ≤ R.slots) (hdg : decode cc pc = .ok (.invokestatic index, 3)) (kk : vbx_J p l e R s m args below meth c nL D A Z (pc + 3) lv (.int (vr_I (max x y)) :: st) nc ns ws) : vbx_J p l e R s m args below meth c nL D A Z pc lv (.int (vr_I y) :: .int (vr_I x) :: st) nc ns ws := by
  intro H locs ls hP hD hS hl
  refine va_mmax C0.1 C0.2.1 (C0.2.2.1.trans hl.1.symm) C0.2.2.2.1 (C0.2.2.2.2.1 _ hl0) (C0.2.2.2.2.1 _ hs0) (C0.2.2.2.2.1 _ hi0) (C0.2.2.2.2.1 _ hc0) hfr hlo hcs.1 hcs.2 hdg ?_
  rw [(show (if vr_I x < vr_I y then vr_I y else vr_I x) = vr_I (max x y) from by by_cases h : x < y <;> simp only [vr_lt hx hy, h, if_true, if_false] <;> congr 1 <;> omega)]
  exact kk H locs ls hP hD hS hl
theorem vbx_B.same {u U : State} (h : vbx_B D A u) (hv : u.vm = U.vm) (hh : u.heap = U.heap) : vbx_B D A U := ⟨va_K.moved (by rw [hv]; exact Vm.Alike.refl _) h.1, by rw [← hh]; exact h.2.1, h.2.2.same hv⟩
theorem vbx_B.warm {u U : State} (h : vbx_B D A u) (hW : u.WarmedH U.vm) (hh : u.heap.size ≤ U.heap.size) : vbx_B D A U := ⟨va_K.moved hW.alike h.1, fun q hq => h.2.1 q (Nat.le_trans hh hq), h.2.2.warm hW⟩
theorem jb_init (C0 : vbx_Cx p s m args meth c own nm cc nL D A) {y : MethodName} {bytes : ByteArray} {maxL mc ms n index b : Nat} {rm : Room} {As : List Value} {X : (Nat → Nat) → va_W} {st0 : List Value} (hM : vbx_C l y bytes maxL rm D A (.ref b :: As) ws X mc ms) (wm : Cond.methodLink own index y ∈ vr_T) (wi : Cond.instanceMethod y ∈ vr_T) (wz : Cond.initialized y.cls ∈ vr_T) (wc : Cond.code y bytes maxL none ∈ vr_T) (hy1 : y.name = "<init>") (hd : y.cls ≠ "java/lang/invoke/MethodHandle" ∧ y.cls ≠ "java/lang/invoke/VarHandle" ∧ (parseMethodDescriptor y.desc).map (fun d => d.parameters.length) = some n) (hrm : rm.cells = mc ∧ rm.slots = ms) (hR : rm.frames + 1 ≤ R.frames ∧ 8 + (maxL + 11) + rm.locals ≤ R.locals) (hAs : As.length = n) (hst : st0 = As.reverse ++ .ref b :: st) (hW : (st.map fun v => v.category).sum ≤ 8) (hf : nc + mc ≤ R.cells ∧ ns + ms ≤ R.slots) (hdg : decode cc pc = .ok (.invokespecial index, 3))
    (kk : ∀ f : Nat → Nat, vbx_J p l e R s m args below meth c nL D A Z (pc + 3) lv st (nc + mc) (ns + ms) (X f)) : vbx_J p l e R s m args below meth c nL D A Z pc lv st0 nc ns ws := fun H locs ls hP hD hS hl =>
  va_callv (A1 := A) (va_runI (As := As) (rest := st) ⟨C0.1, C0.2.1, C0.2.2.1, C0.2.2.2.1, C0.2.2.2.2.1⟩ hM (cwI n C0.2.2.2.2.1 (vr_GTT wc) rfl hrm.1 hrm.2 (C0.2.2.2.2.1 _ wz) (C0.2.2.2.2.1 _ wm) (C0.2.2.2.2.1 _ wi) hy1 hd hR) ⟨fun a U g mk q => ⟨q.1, q.2.1, q.2.2.1, vbx_B.same q.2.2.2 rfl rfl⟩, fun U hU hW => ⟨rfl, by rw [hU]; exact hP, hD, vbx_B.warm C0.2.2.2.2.2.1 hW (by rw [hU]; exact hS.1)⟩⟩ rfl hAs hl.1 hst (lv_room hW) hdg hf) hS (fun _ _ h => h) (fun _ h => h) (fun u t H1 locs1 ht hvm hw hB hz hk1 hS1 => by
    obtain ⟨f, hP1, hD1⟩ := hB
    rw [ht] at hP1
    exact kk f H1 locs1 ls hP1 hD1 hS1 hl)
theorem jb_initN (C0 : vbx_Cx p s m args meth c own nm cc nL D A) {y : MethodName} {host : String} {bytes : ByteArray} {maxL mc ms n index b : Nat} {rm : Room} {As : List Value} {X : (Nat → Nat) → va_W} {st0 : List Value} (hM : vbx_C l y bytes maxL rm D A (.ref b :: As) ws X mc ms) (wm : va_Nw (.methodLinkNest own index y host) s) (wi : Cond.instanceMethod y ∈ vr_T) (wz : Cond.initialized y.cls ∈ vr_T) (wc : Cond.code y bytes maxL none ∈ vr_T) (hy1 : y.name = "<init>") (hd : y.cls ≠ "java/lang/invoke/MethodHandle" ∧ y.cls ≠ "java/lang/invoke/VarHandle" ∧ (parseMethodDescriptor y.desc).map (fun d => d.parameters.length) = some n) (hrm : rm.cells = mc ∧ rm.slots = ms) (hR : rm.frames + 1 ≤ R.frames ∧ 8 + (maxL + 11) + rm.locals ≤ R.locals) (hAs : As.length = n) (hst : st0 = As.reverse ++ .ref b :: st) (hW : (st.map fun v => v.category).sum ≤ 8) (hf : nc + mc ≤ R.cells ∧ ns + ms ≤ R.slots) (hdg : decode cc pc = .ok (.invokespecial index, 3))
    (kk : ∀ f : Nat → Nat, vbx_J p l e R s m args below meth c nL D A Z (pc + 3) lv st (nc + mc) (ns + ms) (X f)) : vbx_J p l e R s m args below meth c nL D A Z pc lv st0 nc ns ws := fun H locs ls hP hD hS hl =>
  va_callv (A1 := A) (va_runIN (As := As) (rest := st) ⟨C0.1, C0.2.1, C0.2.2.1, C0.2.2.2.1, C0.2.2.2.2.1⟩ hM ⟨va_cnB n C0.2.2.2.2.1 (vr_GTT wc) rfl hrm.1 hrm.2 wm (C0.2.2.2.2.1 _ wz) hd hR, hy1, C0.2.2.2.2.1 _ wi⟩ ⟨fun a U g mk q => ⟨q.1, q.2.1, q.2.2.1, vbx_B.same q.2.2.2 rfl rfl⟩, fun U hU hW => ⟨rfl, by rw [hU]; exact hP, hD, vbx_B.warm C0.2.2.2.2.2.1 hW (by rw [hU]; exact hS.1)⟩⟩ rfl hAs hl.1 hst (lv_room hW) hdg hf) hS (fun _ _ h => h) (fun _ h => h) (fun u t H1 locs1 ht hvm hw hB hz hk1 hS1 => by
    obtain ⟨f, hP1, hD1⟩ := hB
    rw [ht] at hP1
    exact kk f H1 locs1 ls hP1 hD1 hS1 hl)
theorem jb_call (C0 : vbx_Cx p s m args meth c own nm cc nL D A) {C : String} {y : MethodName} {bytes : ByteArray} {maxL mc ms n index b ci : Nat} {rm : Room} {As : List Value} {X : (Nat → Nat) → va_W} {st0 fs : List Value} {r : vw_C} (hM : vbx_C l y bytes maxL rm D A (.ref b :: As) ws X mc ms) (hl0 : Cond.methodLink own index y ∈ vr_T) (hy : vr_Mi C y bytes maxL none n) (q0 : Nat) (he : ws[q0]? = some (b, .inr (ci, fs))) (hc : vwCl[ci]? = some r) (hr : r.1 = C) (hrm : rm.cells = mc ∧ rm.slots = ms) (hR : rm.frames + 1 ≤ R.frames ∧ 8 + (maxL + 11) + rm.locals ≤ R.locals) (hAs : As.length = n) (hst : st0 = As.reverse ++ .ref b :: st) (hW : (st.map fun v => v.category).sum ≤ 8) (hf : nc + mc ≤ R.cells ∧ ns + ms ≤ R.slots) (hdg : decode cc pc = .ok (.invokevirtual index, 3))
    (kk : ∀ f : Nat → Nat, vbx_J p l e R s m args below meth c nL D A Z (pc + 3) lv st (nc + mc) (ns + ms) (X f)) : vbx_J p l e R s m args below meth c nL D A Z pc lv st0 nc ns ws := by
  subst hr
  exact fun H locs ls hP hD hS hl =>
    va_callv (A1 := A) (va_runV (As := As) (rest := st) ⟨C0.1, C0.2.1, C0.2.2.1, C0.2.2.2.1, C0.2.2.2.2.1⟩ hM (cwV n C0.2.2.2.2.1 (vr_gV hl0 hy.1) rfl hrm.1 hrm.2 hy.2 hR) ⟨fun a U g mk q => ⟨q.1, q.2.1, q.2.2.1, vbx_B.same q.2.2.2 rfl rfl⟩, va_recv C0.2.2.2.2.2.1.1 hP hc he, fun U hU hW => ⟨rfl, by rw [hU]; exact hP, hD, vbx_B.warm C0.2.2.2.2.2.1 hW (by rw [hU]; exact hS.1)⟩⟩ rfl hAs hl.1 hst (lv_room hW) hdg hf) hS (fun _ _ h => h) (fun _ h => h) (fun u t H1 locs1 ht hvm hw hB hz hk1 hS1 => by
      obtain ⟨f, hP1, hD1⟩ := hB
      rw [ht] at hP1
      exact kk f H1 locs1 ls hP1 hD1 hS1 hl)
theorem jb_ret (C0 : vbx_Cx p s m args meth c own nm cc nL D A) {X : (Nat → Nat) → va_W} (f : Nat → Nat) (hw : ws = X f) (hdg : decode cc pc = .ok (.return_, 1)) : vbx_J p l e R s m args below meth c nL D A (MQ below (vbx_Q D A X) args s nc ns A) pc lv [] nc ns ws := by
  subst hw
  exact fun H locs ls hP hD hS hl => W.vret C0.1 C0.2.1 C0.2.2.2.2.2.2.1 (fun t ht hW => ⟨⟨(), rfl, trivial, f, by rw [ht]; exact hP, hD⟩, hS.F ht⟩) hS.2.2 hdg C0.2.2.2.2.2.2.2.2
end VBJ
