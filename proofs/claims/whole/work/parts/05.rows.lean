
/-- what stays through all calls: the classes, the nest's links, the static rows, the Strings -/
def vr_StrTab : List (String × Nat × String × List Int32) := [
  ("VillageRounds$Reader", 63, "give ", [103, 105, 118, 101, 32]), ("VillageRounds$Reader", 65, "wear ", [119, 101, 97, 114, 32]),
  ("VillageRounds$Reader", 67, "walk ", [119, 97, 108, 107, 32]), ("VillageRounds$Reader", 69, "move ", [109, 111, 118, 101, 32]),
  ("VillageRounds$Reader", 71, "grow ", [103, 114, 111, 119, 32]), ("VillageRounds$Reader", 73, "dry ", [100, 114, 121, 32]),
  ("VillageRounds$Reader", 121, "cyswp", [99, 121, 115, 119, 112]), ("VillageRounds$Reader", 123, "<=>", [60, 61, 62]),
  ("VillageRounds$Reader", 104, "0123456789", [48, 49, 50, 51, 52, 53, 54, 55, 56, 57]),
  ("VillageRoundsModel", 114, "row ", [114, 111, 119, 32]), ("VillageRoundsModel", 120, "ive ", [105, 118, 101, 32]),
  ("VillageRoundsModel", 96, "cyswp", [99, 121, 115, 119, 112]), ("VillageRoundsModel", 102, "<=>", [60, 61, 62]),
  ("VillageRoundsModel", 122, "alk ", [97, 108, 107, 32]), ("VillageRoundsModel", 124, "ear ", [101, 97, 114, 32]),
  ("VillageRoundsModel", 126, "move ", [109, 111, 118, 101, 32]), ("VillageRoundsModel", 128, "dry ", [100, 114, 121, 32])]
def vr_Str (i : Nat) : String × Nat × String × List Int32 := vr_StrTab.getD i ("", 0, "", [])
def vr_by (i : Nat) : List Int32 := (vr_Str i).2.2.2
def vr_ABOVE : List Int := [-1, 0, 0, 0, 3, 2, 2]
def vr_BODIES : List Int := [1, 2, 3, 11, 0, 0, 0, 21, 0, 0, 0, 31, 0, 0, 41, 51, 0, 0, 0, 61, 0]
def vr_St (G : vr_G) (U : State) (H : Heap) (i : Nat) : Prop := va_O "java/lang/String" (vr_ak G i) (vr_A G) U H ∧ va_OF "java/lang/String" "coder" "B" (.int 0) (vr_ak G i) (vr_A G) U H ∧ va_OF "java/lang/String" "value" "[B" (.ref (vr_av G i)) (vr_ak G i) (vr_A G) U H ∧ va_T .byte (vr_av G i) (vr_by i).length (fun j => .int ((vr_by i).getD j 0)) (vr_A G) U H
def vr_Ev (G : vr_G) (U : State) (H : Heap) : Prop :=
  va_K (vr_DD G) vwCl [(vr_cI G, .int), (vr_cZ G, .boolean)] U
  ∧ ((∀ i j, i < 78 → j < 78 → vr_ad G i = vr_ad G j → i = j) ∧ ∀ i, i < 78 → vr_x0 G ≤ vr_ad G i)
  ∧ (va_Nw (.fieldLinkNest RX5 29 "VillageRounds" "BODIES" "[I" "VillageRounds") U ∧ va_Nw (.fieldLinkNest RX5 36 "VillageRounds" "ABOVE" "[I" "VillageRounds") U)
  ∧ (va_Z "VillageRounds" "ABOVE" "[I" (.ref (vr_sa G 0)) (vr_A G) U H ∧ va_T .int (vr_sa G 0) 7 (fun j => .int (vr_I (vr_ABOVE.getD j 0))) (vr_A G) U H)
  ∧ (va_Z "VillageRounds" "BODIES" "[I" (.ref (vr_sa G 1)) (vr_A G) U H ∧ va_T .int (vr_sa G 1) 21 (fun j => .int (vr_I (vr_BODIES.getD j 0))) (vr_A G) U H)
  ∧ (va_Z "java/lang/String" "COMPACT_STRINGS" "Z" (.int 1) (vr_A G) U H ∧ ∃ q, va_Z "jdk/internal/util/Preconditions" "SIOOBE_FORMATTER" "Ljava/util/function/BiFunction;" q (vr_A G) U H ∧ q.category = 1)
  ∧ (∀ i, i < 17 → vr_St G U H i)
  ∧ ∀ i, i < 17 → vk_R (vr_Str i).1 (vr_Str i).2.1 (vr_Str i).2.2.1 (vr_ak G i) U
theorem vr_St.keep {G : vr_G} {u U : State} {H H1 : Heap} {i : Nat} (h : vr_St G u H i) (hv : u.vm.Alike U.vm) (hk : ∀ a : Nat, a < H.size → ¬ vr_A G a → H1[a]? = H[a]?) : vr_St G U H1 i :=
  ⟨(h.1.moved hv).kept hk, (h.2.1.moved hv).kept hk, (h.2.2.1.moved hv).kept hk, (h.2.2.2.moved hv).kept hk⟩
theorem vr_Ev.warm {G : vr_G} {s U : State} {H H1 : Heap} (h : vr_Ev G s H) (hW : s.WarmedH U.vm) (hk : ∀ a : Nat, a < H.size → ¬ vr_A G a → H1[a]? = H[a]?) : vr_Ev G U H1 := by
  obtain ⟨h1, h2, ⟨h3, h4⟩, ⟨h5, h6⟩, ⟨h7, h8⟩, ⟨h9, q, h10, hq⟩, h11, h12⟩ := h
  have hv := hW.alike
  exact ⟨va_K.moved hv h1, h2, ⟨h3.warmF hW, h4.warmF hW⟩, ⟨(h5.moved hv).kept hk, (h6.moved hv).kept hk⟩, ⟨(h7.moved hv).kept hk, (h8.moved hv).kept hk⟩, ⟨(h9.moved hv).kept hk, q, (h10.moved hv).kept hk, hq⟩, fun i hi => (h11 i hi).keep hv hk, fun i hi => (h12 i hi).warm hW⟩
theorem vr_Ev.same {G : vr_G} {s U : State} {H : Heap} (h : vr_Ev G s H) (hv : s.vm = U.vm) : vr_Ev G U H := by
  obtain ⟨h1, h2, ⟨h3, h4⟩, ⟨h5, h6⟩, ⟨h7, h8⟩, ⟨h9, q, h10, hq⟩, h11, h12⟩ := h
  have ha : s.vm.Alike U.vm := by rw [hv]; exact Vm.Alike.refl _
  have hk : ∀ a : Nat, a < H.size → ¬ vr_A G a → H[a]? = H[a]? := fun _ _ _ => rfl
  exact ⟨va_K.moved ha h1, h2, ⟨va_Nw.same rfl hv h3, va_Nw.same rfl hv h4⟩, ⟨h5.moved ha, h6.moved ha⟩, ⟨h7.moved ha, h8.moved ha⟩, ⟨h9.moved ha, q, h10.moved ha, hq⟩, fun i hi => (h11 i hi).keep ha hk, fun i hi => (h12 i hi).same hv.symm⟩
theorem vr_dis {G : vr_G} {U : State} {H : Heap} (h : vr_Ev G U H) (μ : vr_M) : va_D (vr_A G) (vr_ws G μ) := by
  have at' : ∀ (i : Nat) (q : Nat × va_E), (vr_ws G μ)[i]? = some q → i < 78 ∧ q.1 = vr_ad G i := by
    intro i q hq
    have hl : i < (vr_ws G μ).length := (List.getElem?_eq_some_iff.mp hq).1
    have hi : i < 78 := by simpa [vr_ws] using hl
    rw [vr_ws_at hi] at hq
    cases hq
    exact ⟨hi, rfl⟩
  refine ⟨fun i j p q hp hq e => ?_, fun i q hq => ?_⟩
  · obtain ⟨a1, a2⟩ := at' i p hp
    obtain ⟨b1, b2⟩ := at' j q hq
    exact h.2.1.1 i j a1 b1 (by rw [← a2, ← b2, e])
  · obtain ⟨a1, a2⟩ := at' i q hq
    rw [a2]
    exact h.2.1.2 i a1
def vr_Cx (R : Room) (nc ns : Nat) (p : Program) (s : State) (m : MethodId) (args : Array Value) (meth : Method) (c : Code) (own : String) (cc : ByteArray) (nL : Nat) (ret : Option FieldType) (G : vr_G) : Prop :=
  p.tables.exec = Jvm.exec ∧ c.code = cc ∧ c.maxLocals = nL ∧ s.vm.findClass own = some m.cls ∧ (∀ w ∈ vr_T, w.before args s = true) ∧ vr_Ev G s s.heap ∧ meth.sig.returnType = ret ∧ meth.locks = false ∧ nc ≤ R.cells ∧ ns ≤ R.slots
def vr_J {ρ : Type} (p : Program) (l : Launch) (e : Env) (R : Room) (s : State) (m : MethodId) (args : Array Value) (below : List Frame) (meth : Method) (c : Code) (nL nc ns : Nat) (G : vr_G) (Z : ρ → State → Prop) (pc : Nat) (lv : List (Nat × Value)) (st : List Value) (μ : vr_M) (P : Option ρ) : Prop :=
  ∀ r : ρ, P = some r → ∀ (H : Heap) (locs : List Loc) (ls : Array Slot), va_P (vr_DD G) vwCl (vr_ws G μ) H → va_S (vr_A G) s.heap H locs → lv_has ls nL lv → W p l e R s m args below meth c H locs nc ns (Z r) (F0 m pc ls st)
def vr_QI (G : vr_G) (r : Int × vr_M) : Array Value → State → Outcome → State → Prop := va_Qi (fun (v : Int32) (_ : Unit) => v = vr_I r.1 ∧ vr_R r.1) (fun _ t => va_P (vr_DD G) vwCl (vr_ws G r.2) t.heap) (vr_A G)
def vr_QV (G : vr_G) (r : Int × vr_M) : Array Value → State → Outcome → State → Prop := va_Qv (fun (_ : Unit) => True) (fun _ t => va_P (vr_DD G) vwCl (vr_ws G r.2) t.heap) (vr_A G)
def vr_QL (G : vr_G) (r : Int64 × vr_M) : Array Value → State → Outcome → State → Prop := va_Ql (fun (v : Int64) (_ : Unit) => v = r.1) (fun _ t => va_P (vr_DD G) vwCl (vr_ws G r.2) t.heap) (vr_A G)
def vr_QS (G : vr_G) (r : Nat × vr_M) : Array Value → State → Outcome → State → Prop := va_Qr (fun (_ : Unit) => True) (fun _ a t => a = vr_ak G r.1 ∧ va_P (vr_DD G) vwCl (vr_ws G r.2) t.heap) (vr_A G)
def vr_Z {ρ : Type} (Q : ρ → Array Value → State → Outcome → State → Prop) (G : vr_G) (args : Array Value) (s : State) (below : List Frame) (r : ρ) : State → Prop := MQ below (Q r) args s 0 0 (vr_A G)
def vr_C {ρ : Type} (Q : ρ → Array Value → State → Outcome → State → Prop) (l : Launch) (y : MethodName) (bytes : ByteArray) (maxL : Nat) (ret : Option FieldType) (rm : Room) (G : vr_G) (av : List Value) (μ : vr_M) (P : Option ρ) : Prop :=
  ∀ r : ρ, P = some r → Met l y (.code y bytes maxL ret :: vr_T) rm (va_Pc av (fun U => va_P (vr_DD G) vwCl (vr_ws G μ) U.heap ∧ vr_Ev G U U.heap)) (Q r) 0 0 (vr_A G)
abbrev vr_CI (l : Launch) (y : MethodName) (bytes : ByteArray) (maxL : Nat) (ret : Option FieldType) (rm : Room) (G : vr_G) (av : List Value) (μ : vr_M) (P : Option (Int × vr_M)) : Prop := vr_C (vr_QI G) l y bytes maxL ret rm G av μ P
abbrev vr_CV (l : Launch) (y : MethodName) (bytes : ByteArray) (maxL : Nat) (ret : Option FieldType) (rm : Room) (G : vr_G) (av : List Value) (μ : vr_M) (P : Option (Int × vr_M)) : Prop := vr_C (vr_QV G) l y bytes maxL ret rm G av μ P
abbrev vr_CL (l : Launch) (y : MethodName) (bytes : ByteArray) (maxL : Nat) (ret : Option FieldType) (rm : Room) (G : vr_G) (av : List Value) (μ : vr_M) (P : Option (Int64 × vr_M)) : Prop := vr_C (vr_QL G) l y bytes maxL ret rm G av μ P
abbrev vr_CS (l : Launch) (y : MethodName) (bytes : ByteArray) (maxL : Nat) (ret : Option FieldType) (rm : Room) (G : vr_G) (av : List Value) (μ : vr_M) (P : Option (Nat × vr_M)) : Prop := vr_C (vr_QS G) l y bytes maxL ret rm G av μ P
theorem vr_start {ρ : Type} {Q : ρ → Array Value → State → Outcome → State → Prop} {l : Launch} {y : MethodName} {own : String} {bytes : ByteArray} {maxL : Nat} {ret : Option FieldType} {rm : Room} {G : vr_G} {av : List Value} {μ : vr_M} {P : Option ρ} (hy : plainName y.cls = true) (hown : y.cls = own) (hlen : (lg_sl av).length ≤ maxL)
    (body : ∀ (p : Program) (e : Env) (s : State) (m : MethodId) (args : Array Value) (below : List Frame) (meth : Method) (c : Code), vr_Cx rm 0 0 p s m args meth c own bytes maxL ret G → vr_J p l e rm s m args below meth c maxL 0 0 G (vr_Z Q G args s below) 0 (lv_args 0 av) [] μ P) : vr_C Q l y bytes maxL ret rm G av μ P := by
  intro r hr
  refine Met.ofW (cc := bytes) (maxL := maxL) (ret := ret) hy rfl ?_
  intro p e s m args below meth c s₁ B hml hv
  obtain ⟨rfl, hP, hE⟩ := hv
  have hts := atoms_spec (ws := .code y bytes maxL ret :: vr_T) B.pre
  have ho : s.vm.findClass own = some m.cls := by rw [← hown]; exact findClass_of_methodNamed B.named
  have K := body p e s m av.toArray below meth c ⟨B.exec, B.bytes, hml, ho, fun w hw => hts w (List.mem_cons_of_mem _ hw), hE, B.returns, B.notSynchronized, Nat.zero_le _, Nat.zero_le _⟩ r hr s.heap [] _ hP va_S.rf (lv_entry av hlen)
  rw [lg_entry_eq]
  exact K
/-- what a call of y needs of the tables -/
def vr_Mi (C : String) (y : MethodName) (bytes : ByteArray) (maxL : Nat) (ret : Option FieldType) (n : Nat) : Prop := (Cond.instanceMethod y ∈ vr_T ∧ Cond.selects C y y ∈ vr_T ∧ Cond.initialized C ∈ vr_T ∧ Cond.code y bytes maxL ret ∈ vr_T) ∧ y.cls = C ∧ y.cls ≠ "java/lang/invoke/MethodHandle" ∧ y.cls ≠ "java/lang/invoke/VarHandle" ∧ (parseMethodDescriptor y.desc).map (fun d => d.parameters.length) = some n
def vr_Ms (y : MethodName) (bytes : ByteArray) (maxL : Nat) (ret : Option FieldType) (n : Nat) : Prop := (Cond.static y ∈ vr_T ∧ Cond.initialized y.cls ∈ vr_T ∧ Cond.code y bytes maxL ret ∈ vr_T) ∧ y.cls ≠ "java/lang/invoke/MethodHandle" ∧ y.cls ≠ "java/lang/invoke/VarHandle" ∧ (parseMethodDescriptor y.desc).map (fun d => d.parameters.length) = some n
theorem vr_gV {own C : String} {index : Nat} {y : MethodName} {bytes : ByteArray} {maxL : Nat} {ret : Option FieldType} (hl : Cond.methodLink own index y ∈ vr_T) (h : Cond.instanceMethod y ∈ vr_T ∧ Cond.selects C y y ∈ vr_T ∧ Cond.initialized C ∈ vr_T ∧ Cond.code y bytes maxL ret ∈ vr_T) : GoodIn vr_T (wsV own index C y (.code y bytes maxL ret :: vr_T)) := by
  intro w hw
  rcases List.mem_append.mp hw with q | q
  · have h9 : w ∈ vr_T := by
      simp only [List.mem_cons, List.not_mem_nil, or_false] at q
      rcases q with rfl | rfl | rfl | rfl
      · exact hl
      · exact h.1
      · exact h.2.1
      · exact h.2.2.1
    exact ⟨h9, vr_good h9⟩
  · exact vr_GTT h.2.2.2 w q
theorem vr_gS {own : String} {index : Nat} {y : MethodName} {bytes : ByteArray} {maxL : Nat} {ret : Option FieldType} (hl : Cond.methodLink own index y ∈ vr_T) (h : Cond.static y ∈ vr_T ∧ Cond.initialized y.cls ∈ vr_T ∧ Cond.code y bytes maxL ret ∈ vr_T) : GoodIn vr_T (va_wsS own index y (.code y bytes maxL ret :: vr_T)) := by
  intro w hw
  rcases List.mem_append.mp hw with q | q
  · have h9 : w ∈ vr_T := by
      simp only [List.mem_cons, List.not_mem_nil, or_false] at q
      rcases q with rfl | rfl | rfl
      · exact hl
      · exact h.1
      · exact h.2.1
    exact ⟨h9, vr_good h9⟩
  · exact vr_GTT h.2.2 w q
section VRJ
variable {ρ : Type} {p : Program} {l : Launch} {e : Env} {R : Room} {s : State} {m : MethodId} {args : Array Value} {below : List Frame} {meth : Method} {c : Code} {nL nc ns : Nat} {G : vr_G} {Z : ρ → State → Prop} {pc : Nat} {lv lv' : List (Nat × Value)} {st : List Value} {μ : vr_M} {P P1 P2 : Option ρ} {own : String} {cc : ByteArray} {ret : Option FieldType}

def vr_and (x y : Int) : Int := (vr_I x &&& vr_I y).toInt
def vr_or (x y : Int) : Int := (vr_I x ||| vr_I y).toInt
def vr_xor (x y : Int) : Int := (vr_I x ^^^ vr_I y).toInt
def vr_shl (x y : Int) : Int := (vr_I x <<< (vr_I y &&& 31)).toInt
def vr_shr (x y : Int) : Int := (vr_I x >>> (vr_I y &&& 31)).toInt
def vr_ushr (x y : Int) : Int := ((vr_I x).toUInt32 >>> ((vr_I y).toUInt32 &&& Int32.toUInt32 31)).toInt32.toInt
def vr_i2c (x : Int) : Int := ((vr_I x).toUInt32 % 65536).toInt32.toInt
def vr_i2b (x : Int) : Int := (vr_I x).toInt8.toInt32.toInt
def vr_l2i (x : Int64) : Int := x.toInt32.toInt
def vr_lcmp (x y : Int64) : Int := (lg_cmp x y).toInt
def vr_lrem (x y : Int64) : Int64 := x - x / y * y
def vr_lushr (x : Int64) (y : Int) : Int64 := (x.toUInt64 >>> ((vr_I y).toInt64.toUInt64 &&& Int64.toUInt64 63)).toInt64
def vr_lshl (x : Int64) (y : Int) : Int64 := x <<< ((vr_I y).toInt64 &&& 63)
def vr_lshr (x : Int64) (y : Int) : Int64 := x >>> ((vr_I y).toInt64 &&& 63)
def vr_i2l (x : Int) : Int64 := (vr_I x).toInt64
theorem vr_IT (x : Int32) : vr_I x.toInt = x := Int32.ofInt_toInt x
theorem vr_RT (x : Int32) : vr_R x.toInt := ⟨Int32.le_toInt x, Int32.toInt_lt x⟩
def vr_sw {α : Type} (x lo : Int) (Ps : List (Option α)) (Pd : Option α) : Option α := if lo ≤ x then Ps.getD (x - lo).toNat Pd else Pd
def vr_ls {α : Type} (x : Int) : List (Int × Option α) → Option α → Option α
  | [], Pd => Pd
  | (a, Pa) :: t, Pd => if x = a then Pa else vr_ls x t Pd

def vr_let {α : Type} (X : vr_M) (K : vr_M → Option α) : Option α := K X
theorem jr_gd {q : Prop} [Decidable q] (kk : q → vr_J p l e R s m args below meth c nL nc ns G Z pc lv st μ P) : vr_J p l e R s m args below meth c nL nc ns G Z pc lv st μ (vr_gd q P) := by
  intro r hr
  unfold vr_gd at hr
  split at hr
  · rename_i h; exact kk h r hr
  · cases hr
theorem jr_let {X : vr_M} {K : vr_M → Option ρ} (kk : ∀ μ : vr_M, vr_J p l e R s m args below meth c nL nc ns G Z pc lv st μ (K μ)) : vr_J p l e R s m args below meth c nL nc ns G Z pc lv st X (vr_let X K) := kk X
theorem jr_none : vr_J p l e R s m args below meth c nL nc ns G Z pc lv st μ none := fun r hr => by cases hr
theorem jr_sub (ks : List Nat) (hl : lv_pick lv ks = lv') (kk : vr_J p l e R s m args below meth c nL nc ns G Z pc lv' st μ P) : vr_J p l e R s m args below meth c nL nc ns G Z pc lv st μ P := fun r hr H locs ls hP hS h => kk r hr H locs ls hP hS (lv_sub h ks hl)
theorem jr_iconst (C0 : vr_Cx R nc ns p s m args meth c own cc nL ret G) {n : Int} (hdg : decode cc pc = .ok (.iconst n, 1))  (kk : vr_J p l e R s m args below meth c nL nc ns G Z (pc + 1) lv (.int (vr_I n) :: st) μ P) : vr_J p l e R s m args below meth c nL nc ns G Z pc lv st μ P := fun r hr H locs ls hP hS hl => lv_iconst C0.1 C0.2.1 hdg rfl (kk r hr H locs ls hP hS hl)
theorem jr_bipush (C0 : vr_Cx R nc ns p s m args meth c own cc nL ret G) {n : Int} (hdg : decode cc pc = .ok (.bipush n, 2)) (hv : (Int8.ofInt n).toInt32 = vr_I n) (kk : vr_J p l e R s m args below meth c nL nc ns G Z (pc + 2) lv (.int (vr_I n) :: st) μ P) : vr_J p l e R s m args below meth c nL nc ns G Z pc lv st μ P := fun r hr H locs ls hP hS hl => lv_bipush C0.1 C0.2.1 hdg hv (kk r hr H locs ls hP hS hl)
theorem jr_sipush (C0 : vr_Cx R nc ns p s m args meth c own cc nL ret G) {n : Int} (hdg : decode cc pc = .ok (.sipush n, 3)) (hv : (Int16.ofInt n).toInt32 = vr_I n) (kk : vr_J p l e R s m args below meth c nL nc ns G Z (pc + 3) lv (.int (vr_I n) :: st) μ P) : vr_J p l e R s m args below meth c nL nc ns G Z pc lv st μ P := fun r hr H locs ls hP hS hl => lv_sipush C0.1 C0.2.1 hdg hv (kk r hr H locs ls hP hS hl)
theorem jr_iload_n (C0 : vr_Cx R nc ns p s m args meth c own cc nL ret G) {k : Fin 4} {i : Nat} {x : Int} (q : Nat) (hdg : decode cc pc = .ok (.iload_n k, 1)) (hi : (k : Nat) = i) (hq : lv[q]? = some (i, .int (vr_I x))) (kk : vr_J p l e R s m args below meth c nL nc ns G Z (pc + 1) lv (.int (vr_I x) :: st) μ P) : vr_J p l e R s m args below meth c nL nc ns G Z pc lv st μ P := fun r hr H locs ls hP hS hl => lv_iload_n C0.1 C0.2.1 hdg hi (lv_at hl q hq) (kk r hr H locs ls hP hS hl)
theorem jr_iload (C0 : vr_Cx R nc ns p s m args meth c own cc nL ret G) {i : Nat} {x : Int} (q : Nat) (hdg : decode cc pc = .ok (.iload i, 2)) (hq : lv[q]? = some (i, .int (vr_I x))) (kk : vr_J p l e R s m args below meth c nL nc ns G Z (pc + 2) lv (.int (vr_I x) :: st) μ P) : vr_J p l e R s m args below meth c nL nc ns G Z pc lv st μ P := fun r hr H locs ls hP hS hl => lv_iload C0.1 C0.2.1 hdg (lv_at hl q hq) (kk r hr H locs ls hP hS hl)
theorem jr_lload_n (C0 : vr_Cx R nc ns p s m args meth c own cc nL ret G) {k : Fin 4} {i : Nat} {x : Int64} (q : Nat) (hdg : decode cc pc = .ok (.lload_n k, 1)) (hi : (k : Nat) = i) (hq : lv[q]? = some (i, .long x)) (kk : vr_J p l e R s m args below meth c nL nc ns G Z (pc + 1) lv (.long x :: st) μ P) : vr_J p l e R s m args below meth c nL nc ns G Z pc lv st μ P := fun r hr H locs ls hP hS hl => lv_lload_n C0.1 C0.2.1 hdg hi (lv_at hl q hq) (kk r hr H locs ls hP hS hl)
theorem jr_lload (C0 : vr_Cx R nc ns p s m args meth c own cc nL ret G) {i : Nat} {x : Int64} (q : Nat) (hdg : decode cc pc = .ok (.lload i, 2)) (hq : lv[q]? = some (i, .long x)) (kk : vr_J p l e R s m args below meth c nL nc ns G Z (pc + 2) lv (.long x :: st) μ P) : vr_J p l e R s m args below meth c nL nc ns G Z pc lv st μ P := fun r hr H locs ls hP hS hl => lv_lload C0.1 C0.2.1 hdg (lv_at hl q hq) (kk r hr H locs ls hP hS hl)
theorem jr_aload_n (C0 : vr_Cx R nc ns p s m args meth c own cc nL ret G) {k : Fin 4} {i : Nat} {x : Nat} (q : Nat) (hdg : decode cc pc = .ok (.aload_n k, 1)) (hi : (k : Nat) = i) (hq : lv[q]? = some (i, .ref x)) (kk : vr_J p l e R s m args below meth c nL nc ns G Z (pc + 1) lv (.ref x :: st) μ P) : vr_J p l e R s m args below meth c nL nc ns G Z pc lv st μ P := fun r hr H locs ls hP hS hl => lv_aload_n C0.1 C0.2.1 hdg hi (lv_at hl q hq) (kk r hr H locs ls hP hS hl)
theorem jr_aload (C0 : vr_Cx R nc ns p s m args meth c own cc nL ret G) {i : Nat} {x : Nat} (q : Nat) (hdg : decode cc pc = .ok (.aload i, 2)) (hq : lv[q]? = some (i, .ref x)) (kk : vr_J p l e R s m args below meth c nL nc ns G Z (pc + 2) lv (.ref x :: st) μ P) : vr_J p l e R s m args below meth c nL nc ns G Z pc lv st μ P := fun r hr H locs ls hP hS hl => lv_aload C0.1 C0.2.1 hdg (lv_at hl q hq) (kk r hr H locs ls hP hS hl)
theorem jr_istore_n (C0 : vr_Cx R nc ns p s m args meth c own cc nL ret G) {k : Fin 4} {i : Nat} {x : Int} (hdg : decode cc pc = .ok (.istore_n k, 1)) (hi : (k : Nat) = i) (hn : i < nL) (h9 : (i, (.int (vr_I x) : Value)) :: lv.filter (fun q => !(q.1 == i) && !(q.1 + 1 == i && q.2.category == 2)) = lv') (kk : vr_J p l e R s m args below meth c nL nc ns G Z (pc + 1) lv' st μ P) : vr_J p l e R s m args below meth c nL nc ns G Z pc lv (.int (vr_I x) :: st) μ P := fun r hr H locs ls hP hS hl => lv_istore_n C0.1 C0.2.1 hdg hi hl hn h9 (fun ls' hl' => kk r hr H locs ls' hP hS hl')
theorem jr_istore (C0 : vr_Cx R nc ns p s m args meth c own cc nL ret G) {i : Nat} {x : Int} (hdg : decode cc pc = .ok (.istore i, 2)) (hn : i < nL) (h9 : (i, (.int (vr_I x) : Value)) :: lv.filter (fun q => !(q.1 == i) && !(q.1 + 1 == i && q.2.category == 2)) = lv') (kk : vr_J p l e R s m args below meth c nL nc ns G Z (pc + 2) lv' st μ P) : vr_J p l e R s m args below meth c nL nc ns G Z pc lv (.int (vr_I x) :: st) μ P := fun r hr H locs ls hP hS hl => lv_istore C0.1 C0.2.1 hdg hl hn h9 (fun ls' hl' => kk r hr H locs ls' hP hS hl')
theorem jr_astore_n (C0 : vr_Cx R nc ns p s m args meth c own cc nL ret G) {k : Fin 4} {i : Nat} {x : Nat} (hdg : decode cc pc = .ok (.astore_n k, 1)) (hi : (k : Nat) = i) (hn : i < nL) (h9 : (i, (.ref x : Value)) :: lv.filter (fun q => !(q.1 == i) && !(q.1 + 1 == i && q.2.category == 2)) = lv') (kk : vr_J p l e R s m args below meth c nL nc ns G Z (pc + 1) lv' st μ P) : vr_J p l e R s m args below meth c nL nc ns G Z pc lv (.ref x :: st) μ P := fun r hr H locs ls hP hS hl => lv_astore_n C0.1 C0.2.1 hdg hi hl hn h9 (fun ls' hl' => kk r hr H locs ls' hP hS hl')
theorem jr_lstore_n (C0 : vr_Cx R nc ns p s m args meth c own cc nL ret G) {k : Fin 4} {i : Nat} {x : Int64} (hdg : decode cc pc = .ok (.lstore_n k, 1)) (hi : (k : Nat) = i) (hn : i + 1 < nL) (h9 : (i, (.long x : Value)) :: lv.filter (fun q => !(q.1 == i) && (!(q.1 == i + 1) && !(q.1 + 1 == i && q.2.category == 2))) = lv') (kk : vr_J p l e R s m args below meth c nL nc ns G Z (pc + 1) lv' st μ P) : vr_J p l e R s m args below meth c nL nc ns G Z pc lv (.long x :: st) μ P := fun r hr H locs ls hP hS hl => lv_lstore_n C0.1 C0.2.1 hdg hi hl hn h9 (fun ls' hl' => kk r hr H locs ls' hP hS hl')
theorem jr_lstore (C0 : vr_Cx R nc ns p s m args meth c own cc nL ret G) {i : Nat} {x : Int64} (hdg : decode cc pc = .ok (.lstore i, 2)) (hn : i + 1 < nL) (h9 : (i, (.long x : Value)) :: lv.filter (fun q => !(q.1 == i) && (!(q.1 == i + 1) && !(q.1 + 1 == i && q.2.category == 2))) = lv') (kk : vr_J p l e R s m args below meth c nL nc ns G Z (pc + 2) lv' st μ P) : vr_J p l e R s m args below meth c nL nc ns G Z pc lv (.long x :: st) μ P := fun r hr H locs ls hP hS hl => lv_lstore C0.1 C0.2.1 hdg hl hn h9 (fun ls' hl' => kk r hr H locs ls' hP hS hl')
theorem jr_iinc (C0 : vr_Cx R nc ns p s m args meth c own cc nL ret G) {i q : Nat} {n x : Int} (hdg : decode cc pc = .ok (.iinc i n, 3)) (hq : lv[q]? = some (i, .int (vr_I x))) (hn : i < nL) (h9 : (i, (Value.int (vr_I (x + n)))) :: lv.filter (fun q => !(q.1 == i) && !(q.1 + 1 == i && q.2.category == 2)) = lv') (kk : vr_J p l e R s m args below meth c nL nc ns G Z (pc + 3) lv' st μ P) : vr_J p l e R s m args below meth c nL nc ns G Z pc lv st μ P := fun r hr H locs ls hP hS hl => lv_iinc (k := q) C0.1 C0.2.1 hdg hl hq (vr_add x n) hn h9 (fun ls' hl' => kk r hr H locs ls' hP hS hl')
theorem jr_iadd (C0 : vr_Cx R nc ns p s m args meth c own cc nL ret G) {x y : Int}  (hdg : decode cc pc = .ok (.iadd, 1)) (kk : vr_J p l e R s m args below meth c nL nc ns G Z (pc + 1) lv (.int (vr_I (x + y)) :: st) μ P) : vr_J p l e R s m args below meth c nL nc ns G Z pc lv (.int (vr_I y) :: .int (vr_I x) :: st) μ P := fun r hr H locs ls hP hS hl => lv_iadd C0.1 C0.2.1 hdg (by rw [vr_add]; exact kk r hr H locs ls hP hS hl)
theorem jr_isub (C0 : vr_Cx R nc ns p s m args meth c own cc nL ret G) {x y : Int}  (hdg : decode cc pc = .ok (.isub, 1)) (kk : vr_J p l e R s m args below meth c nL nc ns G Z (pc + 1) lv (.int (vr_I (x - y)) :: st) μ P) : vr_J p l e R s m args below meth c nL nc ns G Z pc lv (.int (vr_I y) :: .int (vr_I x) :: st) μ P := fun r hr H locs ls hP hS hl => lv_isub C0.1 C0.2.1 hdg (by rw [vr_sub]; exact kk r hr H locs ls hP hS hl)
theorem jr_imul (C0 : vr_Cx R nc ns p s m args meth c own cc nL ret G) {x y : Int}  (hdg : decode cc pc = .ok (.imul, 1)) (kk : vr_J p l e R s m args below meth c nL nc ns G Z (pc + 1) lv (.int (vr_I (x * y)) :: st) μ P) : vr_J p l e R s m args below meth c nL nc ns G Z pc lv (.int (vr_I y) :: .int (vr_I x) :: st) μ P := fun r hr H locs ls hP hS hl => lv_imul C0.1 C0.2.1 hdg (by rw [vr_mul]; exact kk r hr H locs ls hP hS hl)
theorem jr_idiv (C0 : vr_Cx R nc ns p s m args meth c own cc nL ret G) {x y : Int} (hx : vr_R x) (hy : vr_R y) (h0 : ¬ y = 0) (hdg : decode cc pc = .ok (.idiv, 1)) (kk : vr_J p l e R s m args below meth c nL nc ns G Z (pc + 1) lv (.int (vr_I (x.tdiv y)) :: st) μ P) : vr_J p l e R s m args below meth c nL nc ns G Z pc lv (.int (vr_I y) :: .int (vr_I x) :: st) μ P := fun r hr H locs ls hP hS hl => lv_idiv C0.1 C0.2.1 hdg (fun q => h0 ((vr_eq hy ⟨by decide, by decide⟩).mp q)) (by rw [vr_div hx hy]; exact kk r hr H locs ls hP hS hl)
theorem jr_irem (C0 : vr_Cx R nc ns p s m args meth c own cc nL ret G) {x y : Int} (hx : vr_R x) (hy : vr_R y) (h0 : ¬ y = 0) (hdg : decode cc pc = .ok (.irem, 1)) (kk : vr_J p l e R s m args below meth c nL nc ns G Z (pc + 1) lv (.int (vr_I (x.tmod y)) :: st) μ P) : vr_J p l e R s m args below meth c nL nc ns G Z pc lv (.int (vr_I y) :: .int (vr_I x) :: st) μ P := fun r hr H locs ls hP hS hl => lv_irem C0.1 C0.2.1 hdg (fun q => h0 ((vr_eq hy ⟨by decide, by decide⟩).mp q)) (by rw [vr_rem hx hy]; exact kk r hr H locs ls hP hS hl)
theorem jr_iand (C0 : vr_Cx R nc ns p s m args meth c own cc nL ret G) {x y : Int}  (hdg : decode cc pc = .ok (.iand, 1)) (kk : vr_J p l e R s m args below meth c nL nc ns G Z (pc + 1) lv (.int (vr_I (vr_and x y)) :: st) μ P) : vr_J p l e R s m args below meth c nL nc ns G Z pc lv (.int (vr_I y) :: .int (vr_I x) :: st) μ P := fun r hr H locs ls hP hS hl => lv_iand C0.1 C0.2.1 hdg (by have h := kk r hr H locs ls hP hS hl; unfold vr_and at h; rw [vr_IT] at h; exact h)
theorem jr_ior (C0 : vr_Cx R nc ns p s m args meth c own cc nL ret G) {x y : Int}  (hdg : decode cc pc = .ok (.ior, 1)) (kk : vr_J p l e R s m args below meth c nL nc ns G Z (pc + 1) lv (.int (vr_I (vr_or x y)) :: st) μ P) : vr_J p l e R s m args below meth c nL nc ns G Z pc lv (.int (vr_I y) :: .int (vr_I x) :: st) μ P := fun r hr H locs ls hP hS hl => lv_ior C0.1 C0.2.1 hdg (by have h := kk r hr H locs ls hP hS hl; unfold vr_or at h; rw [vr_IT] at h; exact h)
theorem jr_ixor (C0 : vr_Cx R nc ns p s m args meth c own cc nL ret G) {x y : Int}  (hdg : decode cc pc = .ok (.ixor, 1)) (kk : vr_J p l e R s m args below meth c nL nc ns G Z (pc + 1) lv (.int (vr_I (vr_xor x y)) :: st) μ P) : vr_J p l e R s m args below meth c nL nc ns G Z pc lv (.int (vr_I y) :: .int (vr_I x) :: st) μ P := fun r hr H locs ls hP hS hl => lv_ixor C0.1 C0.2.1 hdg (by have h := kk r hr H locs ls hP hS hl; unfold vr_xor at h; rw [vr_IT] at h; exact h)
theorem jr_ishl (C0 : vr_Cx R nc ns p s m args meth c own cc nL ret G) {x y : Int}  (hdg : decode cc pc = .ok (.ishl, 1)) (kk : vr_J p l e R s m args below meth c nL nc ns G Z (pc + 1) lv (.int (vr_I (vr_shl x y)) :: st) μ P) : vr_J p l e R s m args below meth c nL nc ns G Z pc lv (.int (vr_I y) :: .int (vr_I x) :: st) μ P := fun r hr H locs ls hP hS hl => lv_ishl C0.1 C0.2.1 hdg (by have h := kk r hr H locs ls hP hS hl; unfold vr_shl at h; rw [vr_IT] at h; exact h)
theorem jr_ishr (C0 : vr_Cx R nc ns p s m args meth c own cc nL ret G) {x y : Int}  (hdg : decode cc pc = .ok (.ishr, 1)) (kk : vr_J p l e R s m args below meth c nL nc ns G Z (pc + 1) lv (.int (vr_I (vr_shr x y)) :: st) μ P) : vr_J p l e R s m args below meth c nL nc ns G Z pc lv (.int (vr_I y) :: .int (vr_I x) :: st) μ P := fun r hr H locs ls hP hS hl => lv_ishr C0.1 C0.2.1 hdg (by have h := kk r hr H locs ls hP hS hl; unfold vr_shr at h; rw [vr_IT] at h; exact h)
theorem jr_iushr (C0 : vr_Cx R nc ns p s m args meth c own cc nL ret G) {x y : Int}  (hdg : decode cc pc = .ok (.iushr, 1)) (kk : vr_J p l e R s m args below meth c nL nc ns G Z (pc + 1) lv (.int (vr_I (vr_ushr x y)) :: st) μ P) : vr_J p l e R s m args below meth c nL nc ns G Z pc lv (.int (vr_I y) :: .int (vr_I x) :: st) μ P := fun r hr H locs ls hP hS hl => lv_iushr C0.1 C0.2.1 hdg rfl (by have h := kk r hr H locs ls hP hS hl; unfold vr_ushr at h; rw [vr_IT] at h; exact h)
theorem jr_ineg (C0 : vr_Cx R nc ns p s m args meth c own cc nL ret G) {x : Int} (hdg : decode cc pc = .ok (.ineg, 1)) (kk : vr_J p l e R s m args below meth c nL nc ns G Z (pc + 1) lv (.int (vr_I (-x)) :: st) μ P) : vr_J p l e R s m args below meth c nL nc ns G Z pc lv (.int (vr_I x) :: st) μ P := fun r hr H locs ls hP hS hl => lv_ineg C0.1 C0.2.1 hdg (by rw [vr_neg]; exact kk r hr H locs ls hP hS hl)
theorem jr_i2c (C0 : vr_Cx R nc ns p s m args meth c own cc nL ret G) {x : Int} (hdg : decode cc pc = .ok (.i2c, 1)) (kk : vr_J p l e R s m args below meth c nL nc ns G Z (pc + 1) lv (.int (vr_I (vr_i2c x)) :: st) μ P) : vr_J p l e R s m args below meth c nL nc ns G Z pc lv (.int (vr_I x) :: st) μ P := fun r hr H locs ls hP hS hl => lv_i2c C0.1 C0.2.1 hdg rfl (by have h := kk r hr H locs ls hP hS hl; unfold vr_i2c at h; rw [vr_IT] at h; exact h)
theorem jr_i2b (C0 : vr_Cx R nc ns p s m args meth c own cc nL ret G) {x : Int} (hdg : decode cc pc = .ok (.i2b, 1)) (kk : vr_J p l e R s m args below meth c nL nc ns G Z (pc + 1) lv (.int (vr_I (vr_i2b x)) :: st) μ P) : vr_J p l e R s m args below meth c nL nc ns G Z pc lv (.int (vr_I x) :: st) μ P := fun r hr H locs ls hP hS hl => lv_i2b C0.1 C0.2.1 hdg rfl (by have h := kk r hr H locs ls hP hS hl; unfold vr_i2b at h; rw [vr_IT] at h; exact h)
theorem jr_i2l (C0 : vr_Cx R nc ns p s m args meth c own cc nL ret G) {x : Int} (hdg : decode cc pc = .ok (.i2l, 1)) (kk : vr_J p l e R s m args below meth c nL nc ns G Z (pc + 1) lv (.long (vr_i2l x) :: st) μ P) : vr_J p l e R s m args below meth c nL nc ns G Z pc lv (.int (vr_I x) :: st) μ P := fun r hr H locs ls hP hS hl => lv_i2l C0.1 C0.2.1 hdg rfl (kk r hr H locs ls hP hS hl)
theorem jr_l2i (C0 : vr_Cx R nc ns p s m args meth c own cc nL ret G) {x : Int64} (hdg : decode cc pc = .ok (.l2i, 1)) (kk : vr_J p l e R s m args below meth c nL nc ns G Z (pc + 1) lv (.int (vr_I (vr_l2i x)) :: st) μ P) : vr_J p l e R s m args below meth c nL nc ns G Z pc lv (.long x :: st) μ P := fun r hr H locs ls hP hS hl => lv_l2i C0.1 C0.2.1 hdg rfl (by have h := kk r hr H locs ls hP hS hl; unfold vr_l2i at h; rw [vr_IT] at h; exact h)
theorem jr_lcmp (C0 : vr_Cx R nc ns p s m args meth c own cc nL ret G) {x y : Int64} (hdg : decode cc pc = .ok (.lcmp, 1)) (kk : vr_J p l e R s m args below meth c nL nc ns G Z (pc + 1) lv (.int (vr_I (vr_lcmp x y)) :: st) μ P) : vr_J p l e R s m args below meth c nL nc ns G Z pc lv (.long y :: .long x :: st) μ P := fun r hr H locs ls hP hS hl => W.lcmp C0.1 C0.2.1 hdg (by have h := kk r hr H locs ls hP hS hl; unfold vr_lcmp at h; rw [vr_IT] at h; exact h)
theorem jr_ladd (C0 : vr_Cx R nc ns p s m args meth c own cc nL ret G) {x y : Int64} (hdg : decode cc pc = .ok (.ladd, 1)) (kk : vr_J p l e R s m args below meth c nL nc ns G Z (pc + 1) lv (.long (x + y) :: st) μ P) : vr_J p l e R s m args below meth c nL nc ns G Z pc lv (.long y :: .long x :: st) μ P := fun r hr H locs ls hP hS hl => lv_ladd C0.1 C0.2.1 hdg (kk r hr H locs ls hP hS hl)
theorem jr_lmul (C0 : vr_Cx R nc ns p s m args meth c own cc nL ret G) {x y : Int64} (hdg : decode cc pc = .ok (.lmul, 1)) (kk : vr_J p l e R s m args below meth c nL nc ns G Z (pc + 1) lv (.long (x * y) :: st) μ P) : vr_J p l e R s m args below meth c nL nc ns G Z pc lv (.long y :: .long x :: st) μ P := fun r hr H locs ls hP hS hl => lv_lmul C0.1 C0.2.1 hdg (kk r hr H locs ls hP hS hl)
theorem jr_land (C0 : vr_Cx R nc ns p s m args meth c own cc nL ret G) {x y : Int64} (hdg : decode cc pc = .ok (.land, 1)) (kk : vr_J p l e R s m args below meth c nL nc ns G Z (pc + 1) lv (.long (x &&& y) :: st) μ P) : vr_J p l e R s m args below meth c nL nc ns G Z pc lv (.long y :: .long x :: st) μ P := fun r hr H locs ls hP hS hl => lv_land C0.1 C0.2.1 hdg (kk r hr H locs ls hP hS hl)
theorem jr_lor (C0 : vr_Cx R nc ns p s m args meth c own cc nL ret G) {x y : Int64} (hdg : decode cc pc = .ok (.lor, 1)) (kk : vr_J p l e R s m args below meth c nL nc ns G Z (pc + 1) lv (.long (x ||| y) :: st) μ P) : vr_J p l e R s m args below meth c nL nc ns G Z pc lv (.long y :: .long x :: st) μ P := fun r hr H locs ls hP hS hl => lv_lor C0.1 C0.2.1 hdg (kk r hr H locs ls hP hS hl)
theorem jr_lxor (C0 : vr_Cx R nc ns p s m args meth c own cc nL ret G) {x y : Int64} (hdg : decode cc pc = .ok (.lxor, 1)) (kk : vr_J p l e R s m args below meth c nL nc ns G Z (pc + 1) lv (.long (x ^^^ y) :: st) μ P) : vr_J p l e R s m args below meth c nL nc ns G Z pc lv (.long y :: .long x :: st) μ P := fun r hr H locs ls hP hS hl => lv_lxor C0.1 C0.2.1 hdg (kk r hr H locs ls hP hS hl)
theorem jr_ldiv (C0 : vr_Cx R nc ns p s m args meth c own cc nL ret G) {x y : Int64} (h0 : ¬ y = 0) (hdg : decode cc pc = .ok (.ldiv, 1)) (kk : vr_J p l e R s m args below meth c nL nc ns G Z (pc + 1) lv (.long (x / y) :: st) μ P) : vr_J p l e R s m args below meth c nL nc ns G Z pc lv (.long y :: .long x :: st) μ P := fun r hr H locs ls hP hS hl => lv_ldiv C0.1 C0.2.1 hdg h0 (kk r hr H locs ls hP hS hl)
theorem jr_lrem (C0 : vr_Cx R nc ns p s m args meth c own cc nL ret G) {x y : Int64} (h0 : ¬ y = 0) (hdg : decode cc pc = .ok (.lrem, 1)) (kk : vr_J p l e R s m args below meth c nL nc ns G Z (pc + 1) lv (.long (vr_lrem x y) :: st) μ P) : vr_J p l e R s m args below meth c nL nc ns G Z pc lv (.long y :: .long x :: st) μ P := fun r hr H locs ls hP hS hl => lv_lrem C0.1 C0.2.1 hdg h0 (kk r hr H locs ls hP hS hl)
theorem jr_lushr (C0 : vr_Cx R nc ns p s m args meth c own cc nL ret G) {x : Int64} {y : Int} (hdg : decode cc pc = .ok (.lushr, 1)) (kk : vr_J p l e R s m args below meth c nL nc ns G Z (pc + 1) lv (.long (vr_lushr x y) :: st) μ P) : vr_J p l e R s m args below meth c nL nc ns G Z pc lv (.int (vr_I y) :: .long x :: st) μ P := fun r hr H locs ls hP hS hl => lv_lushr C0.1 C0.2.1 hdg rfl (kk r hr H locs ls hP hS hl)
theorem jr_lshl (C0 : vr_Cx R nc ns p s m args meth c own cc nL ret G) {x : Int64} {y : Int} (hdg : decode cc pc = .ok (.lshl, 1)) (kk : vr_J p l e R s m args below meth c nL nc ns G Z (pc + 1) lv (.long (vr_lshl x y) :: st) μ P) : vr_J p l e R s m args below meth c nL nc ns G Z pc lv (.int (vr_I y) :: .long x :: st) μ P := fun r hr H locs ls hP hS hl => lv_lshl C0.1 C0.2.1 hdg rfl (kk r hr H locs ls hP hS hl)
theorem jr_lshr (C0 : vr_Cx R nc ns p s m args meth c own cc nL ret G) {x : Int64} {y : Int} (hdg : decode cc pc = .ok (.lshr, 1)) (kk : vr_J p l e R s m args below meth c nL nc ns G Z (pc + 1) lv (.long (vr_lshr x y) :: st) μ P) : vr_J p l e R s m args below meth c nL nc ns G Z pc lv (.int (vr_I y) :: .long x :: st) μ P := fun r hr H locs ls hP hS hl => lv_lshr C0.1 C0.2.1 hdg rfl (kk r hr H locs ls hP hS hl)
theorem jr_lconst (C0 : vr_Cx R nc ns p s m args meth c own cc nL ret G) {n : Fin 2} {v : Int64} (hdg : decode cc pc = .ok (.lconst n, 1)) (hv : Int64.ofNat (n : Nat) = v) (kk : vr_J p l e R s m args below meth c nL nc ns G Z (pc + 1) lv (.long v :: st) μ P) : vr_J p l e R s m args below meth c nL nc ns G Z pc lv st μ P := fun r hr H locs ls hP hS hl => lv_lconst C0.1 C0.2.1 hdg hv (kk r hr H locs ls hP hS hl)
theorem jr_ldc (C0 : vr_Cx R nc ns p s m args meth c own cc nL ret G) {index : Nat} {n : Int} {v : Int32} (hc : Cond.constant own index v ∈ vr_T) (hv : v = vr_I n) (hdg : decode cc pc = .ok (.ldc index, 2)) (kk : vr_J p l e R s m args below meth c nL nc ns G Z (pc + 2) lv (.int (vr_I n) :: st) μ P) : vr_J p l e R s m args below meth c nL nc ns G Z pc lv st μ P := fun r hr H locs ls hP hS hl => lv_ldc C0.1 C0.2.1 C0.2.2.2.1 (C0.2.2.2.2.1 _ hc) hdg (by rw [hv]; exact kk r hr H locs ls hP hS hl)
theorem jr_ldcw (C0 : vr_Cx R nc ns p s m args meth c own cc nL ret G) {index : Nat} {n : Int} {v : Int32} (hc : Cond.constant own index v ∈ vr_T) (hv : v = vr_I n) (hdg : decode cc pc = .ok (.ldc_w index, 3)) (kk : vr_J p l e R s m args below meth c nL nc ns G Z (pc + 3) lv (.int (vr_I n) :: st) μ P) : vr_J p l e R s m args below meth c nL nc ns G Z pc lv st μ P := fun r hr H locs ls hP hS hl => lv_ldcw C0.1 C0.2.1 C0.2.2.2.1 (C0.2.2.2.2.1 _ hc) hdg (by rw [hv]; exact kk r hr H locs ls hP hS hl)
theorem jr_ldc2 (C0 : vr_Cx R nc ns p s m args meth c own cc nL ret G) {index : Nat} {v : Int64} (hc : Cond.constantLong own index v ∈ vr_T) (hdg : decode cc pc = .ok (.ldc2_w index, 3)) (kk : vr_J p l e R s m args below meth c nL nc ns G Z (pc + 3) lv (.long v :: st) μ P) : vr_J p l e R s m args below meth c nL nc ns G Z pc lv st μ P := fun r hr H locs ls hP hS hl => lv_ldc2 C0.1 C0.2.1 C0.2.2.2.1 (C0.2.2.2.2.1 _ hc) hdg (kk r hr H locs ls hP hS hl)
theorem jr_ldcS (C0 : vr_Cx R nc ns p s m args meth c own cc nL ret G) {index i : Nat} (hi : i < 17) (ho : (vr_Str i).1 = own) (hx : (vr_Str i).2.1 = index) (hdg : decode cc pc = .ok (.ldc index, 2)) (kk : vr_J p l e R s m args below meth c nL nc ns G Z (pc + 2) lv (.ref (vr_ak G i) :: st) μ P) : vr_J p l e R s m args below meth c nL nc ns G Z pc lv st μ P := by
  intro r hr H locs ls hP hS hl
  subst hx
  have h := C0.2.2.2.2.2.1.2.2.2.2.2.2.2 i hi
  rw [ho] at h
  exact va_ldcS C0.1 C0.2.1 C0.2.2.2.1 h hdg (kk r hr H locs ls hP hS hl)
theorem jr_dup (C0 : vr_Cx R nc ns p s m args meth c own cc nL ret G) {va : Value} (hva : va.category = 1) (hdg : decode cc pc = .ok (.dup, 1)) (kk : vr_J p l e R s m args below meth c nL nc ns G Z (pc + 1) lv (va :: va :: st) μ P) : vr_J p l e R s m args below meth c nL nc ns G Z pc lv (va :: st) μ P := fun r hr H locs ls hP hS hl => lv_dup C0.1 C0.2.1 hdg hva (kk r hr H locs ls hP hS hl)
theorem jr_dup2 (C0 : vr_Cx R nc ns p s m args meth c own cc nL ret G) {va vb : Value} (hva : va.category = 1) (hvb : vb.category = 1) (hdg : decode cc pc = .ok (.dup2, 1)) (kk : vr_J p l e R s m args below meth c nL nc ns G Z (pc + 1) lv (vb :: va :: vb :: va :: st) μ P) : vr_J p l e R s m args below meth c nL nc ns G Z pc lv (vb :: va :: st) μ P := fun r hr H locs ls hP hS hl => lv_dup2_11 C0.1 C0.2.1 hdg hvb hva (kk r hr H locs ls hP hS hl)
theorem jr_pop (C0 : vr_Cx R nc ns p s m args meth c own cc nL ret G) {va : Value} (hva : va.category = 1) (hdg : decode cc pc = .ok (.pop, 1)) (kk : vr_J p l e R s m args below meth c nL nc ns G Z (pc + 1) lv st μ P) : vr_J p l e R s m args below meth c nL nc ns G Z pc lv (va :: st) μ P := fun r hr H locs ls hP hS hl => lv_pop C0.1 C0.2.1 hdg hva (kk r hr H locs ls hP hS hl)
theorem jr_goto (C0 : vr_Cx R nc ns p s m args meth c own cc nL ret G) {off : Int} {tgt : Nat} (hdg : decode cc pc = .ok (.goto off, 3)) (ht : (pc : Int) + off = (tgt : Int)) (kk : vr_J p l e R s m args below meth c nL nc ns G Z tgt lv st μ P) : vr_J p l e R s m args below meth c nL nc ns G Z pc lv st μ P := fun r hr H locs ls hP hS hl => lv_goto C0.1 C0.2.1 hdg ht (kk r hr H locs ls hP hS hl)
theorem vr_eq0 {x : Int} (hx : vr_R x) : vr_I x = 0 ↔ x = 0 := vr_eq (b := 0) hx ⟨by decide, by decide⟩
theorem vr_lt0 {x : Int} (hx : vr_R x) : vr_I x < 0 ↔ x < 0 := vr_lt (b := 0) hx ⟨by decide, by decide⟩
theorem vr_ge0 {x : Int} (hx : vr_R x) : 0 ≤ vr_I x ↔ 0 ≤ x := vr_le (a := 0) ⟨by decide, by decide⟩ hx
theorem vr_gt0 {x : Int} (hx : vr_R x) : 0 < vr_I x ↔ 0 < x := vr_lt (a := 0) ⟨by decide, by decide⟩ hx
theorem vr_le0 {x : Int} (hx : vr_R x) : vr_I x ≤ 0 ↔ x ≤ 0 := vr_le (b := 0) hx ⟨by decide, by decide⟩
theorem jr_if_eq (C0 : vr_Cx R nc ns p s m args meth c own cc nL ret G) {x : Int} (hx : vr_R x) {off : Int} {tgt : Nat} (hdg : decode cc pc = .ok (.ifCond .eq off, 3)) (ht : (pc : Int) + off = (tgt : Int)) (kk1 : vr_J p l e R s m args below meth c nL nc ns G Z tgt lv st μ P1) (kk2 : vr_J p l e R s m args below meth c nL nc ns G Z (pc + 3) lv st μ P2) : vr_J p l e R s m args below meth c nL nc ns G Z pc lv (.int (vr_I x) :: st) μ (if x = 0 then P1 else P2) := fun r hr H locs ls hP hS hl => lv_if_eq C0.1 C0.2.1 hdg ht (fun q => kk1 r (by rw [if_pos ((vr_eq0 hx).mp q)] at hr; exact hr) H locs ls hP hS hl) (fun q => kk2 r (by rw [if_neg (fun z => q ((vr_eq0 hx).mpr z))] at hr; exact hr) H locs ls hP hS hl)
theorem jr_icmp_eq (C0 : vr_Cx R nc ns p s m args meth c own cc nL ret G) {x y : Int} (hx : vr_R x) (hy : vr_R y) {off : Int} {tgt : Nat} (hdg : decode cc pc = .ok (.if_icmp .eq off, 3)) (ht : (pc : Int) + off = (tgt : Int)) (kk1 : vr_J p l e R s m args below meth c nL nc ns G Z tgt lv st μ P1) (kk2 : vr_J p l e R s m args below meth c nL nc ns G Z (pc + 3) lv st μ P2) : vr_J p l e R s m args below meth c nL nc ns G Z pc lv (.int (vr_I y) :: .int (vr_I x) :: st) μ (if x = y then P1 else P2) := fun r hr H locs ls hP hS hl => lv_icmp_eq C0.1 C0.2.1 hdg ht (fun q => kk1 r (by rw [if_pos ((vr_eq hx hy).mp q)] at hr; exact hr) H locs ls hP hS hl) (fun q => kk2 r (by rw [if_neg (fun z => q ((vr_eq hx hy).mpr z))] at hr; exact hr) H locs ls hP hS hl)
theorem jr_if_ne (C0 : vr_Cx R nc ns p s m args meth c own cc nL ret G) {x : Int} (hx : vr_R x) {off : Int} {tgt : Nat} (hdg : decode cc pc = .ok (.ifCond .ne off, 3)) (ht : (pc : Int) + off = (tgt : Int)) (kk1 : vr_J p l e R s m args below meth c nL nc ns G Z tgt lv st μ P1) (kk2 : vr_J p l e R s m args below meth c nL nc ns G Z (pc + 3) lv st μ P2) : vr_J p l e R s m args below meth c nL nc ns G Z pc lv (.int (vr_I x) :: st) μ (if ¬ x = 0 then P1 else P2) := fun r hr H locs ls hP hS hl => lv_if_ne C0.1 C0.2.1 hdg ht (fun q => kk1 r (by rw [if_pos (fun z => q ((vr_eq0 hx).mpr z))] at hr; exact hr) H locs ls hP hS hl) (fun q => kk2 r (by rw [if_neg (fun z => z ((vr_eq0 hx).mp q))] at hr; exact hr) H locs ls hP hS hl)
theorem jr_icmp_ne (C0 : vr_Cx R nc ns p s m args meth c own cc nL ret G) {x y : Int} (hx : vr_R x) (hy : vr_R y) {off : Int} {tgt : Nat} (hdg : decode cc pc = .ok (.if_icmp .ne off, 3)) (ht : (pc : Int) + off = (tgt : Int)) (kk1 : vr_J p l e R s m args below meth c nL nc ns G Z tgt lv st μ P1) (kk2 : vr_J p l e R s m args below meth c nL nc ns G Z (pc + 3) lv st μ P2) : vr_J p l e R s m args below meth c nL nc ns G Z pc lv (.int (vr_I y) :: .int (vr_I x) :: st) μ (if ¬ x = y then P1 else P2) := fun r hr H locs ls hP hS hl => lv_icmp_ne C0.1 C0.2.1 hdg ht (fun q => kk1 r (by rw [if_pos (fun z => q ((vr_eq hx hy).mpr z))] at hr; exact hr) H locs ls hP hS hl) (fun q => kk2 r (by rw [if_neg (fun z => z ((vr_eq hx hy).mp q))] at hr; exact hr) H locs ls hP hS hl)
theorem jr_if_lt (C0 : vr_Cx R nc ns p s m args meth c own cc nL ret G) {x : Int} (hx : vr_R x) {off : Int} {tgt : Nat} (hdg : decode cc pc = .ok (.ifCond .lt off, 3)) (ht : (pc : Int) + off = (tgt : Int)) (kk1 : vr_J p l e R s m args below meth c nL nc ns G Z tgt lv st μ P1) (kk2 : vr_J p l e R s m args below meth c nL nc ns G Z (pc + 3) lv st μ P2) : vr_J p l e R s m args below meth c nL nc ns G Z pc lv (.int (vr_I x) :: st) μ (if x < 0 then P1 else P2) := fun r hr H locs ls hP hS hl => lv_if_lt C0.1 C0.2.1 hdg ht (fun q => kk1 r (by rw [if_pos ((vr_lt0 hx).mp q)] at hr; exact hr) H locs ls hP hS hl) (fun q => kk2 r (by rw [if_neg (fun z => q ((vr_lt0 hx).mpr z))] at hr; exact hr) H locs ls hP hS hl)
theorem jr_icmp_lt (C0 : vr_Cx R nc ns p s m args meth c own cc nL ret G) {x y : Int} (hx : vr_R x) (hy : vr_R y) {off : Int} {tgt : Nat} (hdg : decode cc pc = .ok (.if_icmp .lt off, 3)) (ht : (pc : Int) + off = (tgt : Int)) (kk1 : vr_J p l e R s m args below meth c nL nc ns G Z tgt lv st μ P1) (kk2 : vr_J p l e R s m args below meth c nL nc ns G Z (pc + 3) lv st μ P2) : vr_J p l e R s m args below meth c nL nc ns G Z pc lv (.int (vr_I y) :: .int (vr_I x) :: st) μ (if x < y then P1 else P2) := fun r hr H locs ls hP hS hl => lv_icmp_lt C0.1 C0.2.1 hdg ht (fun q => kk1 r (by rw [if_pos ((vr_lt hx hy).mp q)] at hr; exact hr) H locs ls hP hS hl) (fun q => kk2 r (by rw [if_neg (fun z => q ((vr_lt hx hy).mpr z))] at hr; exact hr) H locs ls hP hS hl)
theorem jr_if_ge (C0 : vr_Cx R nc ns p s m args meth c own cc nL ret G) {x : Int} (hx : vr_R x) {off : Int} {tgt : Nat} (hdg : decode cc pc = .ok (.ifCond .ge off, 3)) (ht : (pc : Int) + off = (tgt : Int)) (kk1 : vr_J p l e R s m args below meth c nL nc ns G Z tgt lv st μ P1) (kk2 : vr_J p l e R s m args below meth c nL nc ns G Z (pc + 3) lv st μ P2) : vr_J p l e R s m args below meth c nL nc ns G Z pc lv (.int (vr_I x) :: st) μ (if 0 ≤ x then P1 else P2) := fun r hr H locs ls hP hS hl => lv_if_ge C0.1 C0.2.1 hdg ht (fun q => kk1 r (by rw [if_pos ((vr_ge0 hx).mp q)] at hr; exact hr) H locs ls hP hS hl) (fun q => kk2 r (by rw [if_neg (fun z => q ((vr_ge0 hx).mpr z))] at hr; exact hr) H locs ls hP hS hl)
theorem jr_icmp_ge (C0 : vr_Cx R nc ns p s m args meth c own cc nL ret G) {x y : Int} (hx : vr_R x) (hy : vr_R y) {off : Int} {tgt : Nat} (hdg : decode cc pc = .ok (.if_icmp .ge off, 3)) (ht : (pc : Int) + off = (tgt : Int)) (kk1 : vr_J p l e R s m args below meth c nL nc ns G Z tgt lv st μ P1) (kk2 : vr_J p l e R s m args below meth c nL nc ns G Z (pc + 3) lv st μ P2) : vr_J p l e R s m args below meth c nL nc ns G Z pc lv (.int (vr_I y) :: .int (vr_I x) :: st) μ (if y ≤ x then P1 else P2) := fun r hr H locs ls hP hS hl => lv_icmp_ge C0.1 C0.2.1 hdg ht (fun q => kk1 r (by rw [if_pos ((vr_le hy hx).mp q)] at hr; exact hr) H locs ls hP hS hl) (fun q => kk2 r (by rw [if_neg (fun z => q ((vr_le hy hx).mpr z))] at hr; exact hr) H locs ls hP hS hl)
theorem jr_if_gt (C0 : vr_Cx R nc ns p s m args meth c own cc nL ret G) {x : Int} (hx : vr_R x) {off : Int} {tgt : Nat} (hdg : decode cc pc = .ok (.ifCond .gt off, 3)) (ht : (pc : Int) + off = (tgt : Int)) (kk1 : vr_J p l e R s m args below meth c nL nc ns G Z tgt lv st μ P1) (kk2 : vr_J p l e R s m args below meth c nL nc ns G Z (pc + 3) lv st μ P2) : vr_J p l e R s m args below meth c nL nc ns G Z pc lv (.int (vr_I x) :: st) μ (if 0 < x then P1 else P2) := fun r hr H locs ls hP hS hl => lv_if_gt C0.1 C0.2.1 hdg ht (fun q => kk1 r (by rw [if_pos ((vr_gt0 hx).mp q)] at hr; exact hr) H locs ls hP hS hl) (fun q => kk2 r (by rw [if_neg (fun z => q ((vr_gt0 hx).mpr z))] at hr; exact hr) H locs ls hP hS hl)
theorem jr_icmp_gt (C0 : vr_Cx R nc ns p s m args meth c own cc nL ret G) {x y : Int} (hx : vr_R x) (hy : vr_R y) {off : Int} {tgt : Nat} (hdg : decode cc pc = .ok (.if_icmp .gt off, 3)) (ht : (pc : Int) + off = (tgt : Int)) (kk1 : vr_J p l e R s m args below meth c nL nc ns G Z tgt lv st μ P1) (kk2 : vr_J p l e R s m args below meth c nL nc ns G Z (pc + 3) lv st μ P2) : vr_J p l e R s m args below meth c nL nc ns G Z pc lv (.int (vr_I y) :: .int (vr_I x) :: st) μ (if y < x then P1 else P2) := fun r hr H locs ls hP hS hl => lv_icmp_gt C0.1 C0.2.1 hdg ht (fun q => kk1 r (by rw [if_pos ((vr_lt hy hx).mp q)] at hr; exact hr) H locs ls hP hS hl) (fun q => kk2 r (by rw [if_neg (fun z => q ((vr_lt hy hx).mpr z))] at hr; exact hr) H locs ls hP hS hl)
theorem jr_if_le (C0 : vr_Cx R nc ns p s m args meth c own cc nL ret G) {x : Int} (hx : vr_R x) {off : Int} {tgt : Nat} (hdg : decode cc pc = .ok (.ifCond .le off, 3)) (ht : (pc : Int) + off = (tgt : Int)) (kk1 : vr_J p l e R s m args below meth c nL nc ns G Z tgt lv st μ P1) (kk2 : vr_J p l e R s m args below meth c nL nc ns G Z (pc + 3) lv st μ P2) : vr_J p l e R s m args below meth c nL nc ns G Z pc lv (.int (vr_I x) :: st) μ (if x ≤ 0 then P1 else P2) := fun r hr H locs ls hP hS hl => lv_if_le C0.1 C0.2.1 hdg ht (fun q => kk1 r (by rw [if_pos ((vr_le0 hx).mp q)] at hr; exact hr) H locs ls hP hS hl) (fun q => kk2 r (by rw [if_neg (fun z => q ((vr_le0 hx).mpr z))] at hr; exact hr) H locs ls hP hS hl)
theorem jr_icmp_le (C0 : vr_Cx R nc ns p s m args meth c own cc nL ret G) {x y : Int} (hx : vr_R x) (hy : vr_R y) {off : Int} {tgt : Nat} (hdg : decode cc pc = .ok (.if_icmp .le off, 3)) (ht : (pc : Int) + off = (tgt : Int)) (kk1 : vr_J p l e R s m args below meth c nL nc ns G Z tgt lv st μ P1) (kk2 : vr_J p l e R s m args below meth c nL nc ns G Z (pc + 3) lv st μ P2) : vr_J p l e R s m args below meth c nL nc ns G Z pc lv (.int (vr_I y) :: .int (vr_I x) :: st) μ (if x ≤ y then P1 else P2) := fun r hr H locs ls hP hS hl => lv_icmp_le C0.1 C0.2.1 hdg ht (fun q => kk1 r (by rw [if_pos ((vr_le hx hy).mp q)] at hr; exact hr) H locs ls hP hS hl) (fun q => kk2 r (by rw [if_neg (fun z => q ((vr_le hx hy).mpr z))] at hr; exact hr) H locs ls hP hS hl)
def vr_TS {α : Type} (Jt : Nat → α → Prop) (pc : Nat) : List Int → List α → Prop
  | [], [] => True
  | o :: os, P :: Ps => (∃ tgt : Nat, (pc : Int) + o = (tgt : Int) ∧ Jt tgt P) ∧ vr_TS Jt pc os Ps
  | _, _ => False
theorem vr_TS_nil {α : Type} {Jt : Nat → α → Prop} {pc : Nat} : vr_TS Jt pc [] [] := trivial
theorem vr_TS_cons {α : Type} {Jt : Nat → α → Prop} {pc tgt : Nat} {o : Int} {os : List Int} {P : α} {Ps : List α} (h : (pc : Int) + o = (tgt : Int)) (k : Jt tgt P) (t : vr_TS Jt pc os Ps) : vr_TS Jt pc (o :: os) (P :: Ps) := ⟨⟨tgt, h, k⟩, t⟩
theorem vr_TS_at {α : Type} {Jt : Nat → α → Prop} {pc : Nat} : ∀ {os : List Int} {Ps : List α}, vr_TS Jt pc os Ps → Ps.length = os.length ∧ ∀ (i : Nat) (o : Int), os[i]? = some o → ∃ (tgt : Nat) (P : α), Ps[i]? = some P ∧ (pc : Int) + o = (tgt : Int) ∧ Jt tgt P
  | [], [], _ => ⟨rfl, fun i o h => by simp at h⟩
  | o :: os, P :: Ps, h => by
    obtain ⟨⟨tgt, h1, h2⟩, h3⟩ := h
    obtain ⟨h4, h5⟩ := vr_TS_at h3
    refine ⟨by simp [h4], fun i o' hi => ?_⟩
    cases i with
    | zero => simp at hi; subst hi; exact ⟨tgt, P, rfl, h1, h2⟩
    | succ i => exact h5 i o' (by simpa using hi)
  | [], _ :: _, h => by cases h
  | _ :: _, [], h => by cases h
def vr_LS {α : Type} (Jt : Nat → Option α → Prop) (pc : Nat) : List (Int × Int) → List (Int × Option α) → Prop
  | [], [] => True
  | (a, o) :: os, (b, P) :: Ps => (a = b ∧ ∃ tgt : Nat, (pc : Int) + o = (tgt : Int) ∧ Jt tgt P) ∧ vr_LS Jt pc os Ps
  | _, _ => False
theorem vr_LS_nil {α : Type} {Jt : Nat → Option α → Prop} {pc : Nat} : vr_LS Jt pc [] [] := trivial
theorem vr_LS_cons {α : Type} {Jt : Nat → Option α → Prop} {pc tgt : Nat} {a o : Int} {os : List (Int × Int)} {P : Option α} {Ps : List (Int × Option α)} (h : (pc : Int) + o = (tgt : Int)) (k : Jt tgt P) (t : vr_LS Jt pc os Ps) : vr_LS Jt pc ((a, o) :: os) ((a, P) :: Ps) := ⟨⟨rfl, tgt, h, k⟩, t⟩
theorem vr_LS_at {α : Type} {Jt : Nat → Option α → Prop} {pc td : Nat} {dflt x : Int} {Pd : Option α} (hd : (pc : Int) + dflt = (td : Int)) (hJ : Jt td Pd) : ∀ {os : List (Int × Int)} {Ps : List (Int × Option α)}, vr_LS Jt pc os Ps → ∃ tgt : Nat, (pc : Int) + Op.lookupswitch.offset os dflt x = (tgt : Int) ∧ Jt tgt (vr_ls x Ps Pd)
  | [], [], _ => ⟨td, hd, hJ⟩
  | (a, o) :: os, (b, P) :: Ps, h => by
    obtain ⟨⟨rfl, tgt, h1, h2⟩, h3⟩ := h
    rw [Op.lookupswitch.offset_cons]
    unfold vr_ls
    by_cases q : a = x
    · subst q
      rw [if_pos rfl, if_pos rfl]
      exact ⟨tgt, h1, h2⟩
    · rw [if_neg q, if_neg (fun z => q z.symm)]
      exact vr_LS_at hd hJ h3
  | [], _ :: _, h => by cases h
  | _ :: _, [], h => by cases h
theorem jr_tsw (C0 : vr_Cx R nc ns p s m args meth c own cc nL ret G) {x : Int} (hx : vr_R x) {dflt lo hi : Int} {offs : Array Int} {len : Nat} {Ps : List (Option ρ)} {td : Nat} (hdg : decode cc pc = .ok (.tableswitch dflt lo hi offs, len)) (hsz : hi - lo + 1 = (offs.toList.length : Int)) (htd : (pc : Int) + dflt = (td : Int)) (kk : vr_TS (fun tgt Pi => vr_J p l e R s m args below meth c nL nc ns G Z tgt lv st μ Pi) pc offs.toList Ps) (kkd : vr_J p l e R s m args below meth c nL nc ns G Z td lv st μ P) : vr_J p l e R s m args below meth c nL nc ns G Z pc lv (.int (vr_I x) :: st) μ (vr_sw x lo Ps P) := by
  intro r hr H locs ls hP hS hl
  have hxx := vr_toInt hx
  obtain ⟨hln, hk⟩ := vr_TS_at kk
  unfold vr_sw at hr
  by_cases h1 : x < lo
  · rw [if_neg (by omega)] at hr
    exact lv_tableOut C0.1 C0.2.1 hdg (Or.inl (by rw [hxx]; exact h1)) htd (kkd r hr H locs ls hP hS hl)
  · rw [if_pos (by omega)] at hr
    by_cases h2 : hi < x
    · have h3 : Ps.length ≤ (x - lo).toNat := by omega
      rw [List.getD_eq_getElem?_getD, List.getElem?_eq_none h3] at hr
      exact lv_tableOut C0.1 C0.2.1 hdg (Or.inr (by rw [hxx]; exact h2)) htd (kkd r hr H locs ls hP hS hl)
    · have h4 : (x - lo).toNat < offs.toList.length := by omega
      obtain ⟨tgt, Pi, hPi, ht, hJ⟩ := hk (x - lo).toNat _ (List.getElem?_eq_getElem h4)
      rw [List.getD_eq_getElem?_getD, hPi] at hr
      exact lv_tableIn C0.1 C0.2.1 hdg (by rw [hxx]; exact h1) (by rw [hxx]; exact h2) (by rw [hxx, ← Array.getElem?_toList]; exact List.getElem?_eq_getElem h4) ht (hJ r hr H locs ls hP hS hl)
theorem jr_lsw (C0 : vr_Cx R nc ns p s m args meth c own cc nL ret G) {x : Int} (hx : vr_R x) {dflt : Int} {ps : Array (Int × Int)} {len : Nat} {Ps : List (Int × Option ρ)} {td : Nat} (hdg : decode cc pc = .ok (.lookupswitch dflt ps, len)) (hp : (ps.toList.zip (ps.toList.drop 1)).all (fun (a, next) => a.1 < next.1) = true) (htd : (pc : Int) + dflt = (td : Int)) (kk : vr_LS (fun tgt Pi => vr_J p l e R s m args below meth c nL nc ns G Z tgt lv st μ Pi) pc ps.toList Ps) (kkd : vr_J p l e R s m args below meth c nL nc ns G Z td lv st μ P) : vr_J p l e R s m args below meth c nL nc ns G Z pc lv (.int (vr_I x) :: st) μ (vr_ls x Ps P) := by
  intro r hr H locs ls hP hS hl
  obtain ⟨tgt, ht, hJ⟩ := vr_LS_at (Jt := fun tgt Pi => vr_J p l e R s m args below meth c nL nc ns G Z tgt lv st μ Pi) (x := x) htd kkd kk
  exact lv_lookup C0.1 C0.2.1 hdg hp (by rw [vr_toInt hx]) ht (hJ r hr H locs ls hP hS hl)
theorem jr_gst0 (C0 : vr_Cx R nc ns p s m args meth c RX5 cc nL ret G) (hdg : decode cc pc = .ok (.getstatic 36, 3)) (kk : vr_J p l e R s m args below meth c nL nc ns G Z (pc + 3) lv (.ref (vr_sa G 0) :: st) μ P) : vr_J p l e R s m args below meth c nL nc ns G Z pc lv st μ P := fun r hr H locs ls hP hS hl => va_getsN C0.1 C0.2.1 C0.2.2.2.2.2.1.2.2.2.1.1 hS C0.2.2.2.1 (va_Nw.use rfl C0.2.2.2.2.2.1.2.2.1.2) (fun _ h => h) hdg (kk r hr H locs ls hP hS hl)
theorem jr_gso0 (C0 : vr_Cx R nc ns p s m args meth c own cc nL ret G) {index : Nat} (hl0 : Cond.fieldLink own index "VillageRounds" "ABOVE" "[I" ∈ vr_T) (hdg : decode cc pc = .ok (.getstatic index, 3)) (kk : vr_J p l e R s m args below meth c nL nc ns G Z (pc + 3) lv (.ref (vr_sa G 0) :: st) μ P) : vr_J p l e R s m args below meth c nL nc ns G Z pc lv st μ P := fun r hr H locs ls hP hS hl => va_gets C0.1 C0.2.1 C0.2.2.2.2.2.1.2.2.2.1.1 hS C0.2.2.2.1 (C0.2.2.2.2.1 _ hl0) (fun _ h => h) hdg (kk r hr H locs ls hP hS hl)
theorem jr_sald0 (C0 : vr_Cx R nc ns p s m args meth c own cc nL ret G) {x : Int} (hb : 0 ≤ x ∧ x < 7) (hdg : decode cc pc = .ok (.iaload, 1)) (kk : vr_J p l e R s m args below meth c nL nc ns G Z (pc + 1) lv (.int (vr_I (vr_ABOVE.getD x.toNat 0)) :: st) μ P) : vr_J p l e R s m args below meth c nL nc ns G Z pc lv (.int (vr_I x) :: .ref (vr_sa G 0) :: st) μ P := by
  intro r hr H locs ls hP hS hl
  refine va_ti C0.1 C0.2.1 C0.2.2.2.2.2.1.2.2.2.1.2 hS (vr_in' hb (by decide)) rfl hdg ?_
  rw [vr_cl hb.1 (by omega)]
  exact kk r hr H locs ls hP hS hl
theorem jr_slen0 (C0 : vr_Cx R nc ns p s m args meth c own cc nL ret G) (hdg : decode cc pc = .ok (.arraylength, 1)) (kk : vr_J p l e R s m args below meth c nL nc ns G Z (pc + 1) lv (.int (vr_I 7) :: st) μ P) : vr_J p l e R s m args below meth c nL nc ns G Z pc lv (.ref (vr_sa G 0) :: st) μ P := fun r hr H locs ls hP hS hl => va_tlen C0.1 C0.2.1 C0.2.2.2.2.2.1.2.2.2.1.2 hS (v := vr_I 7) rfl hdg (kk r hr H locs ls hP hS hl)
theorem jr_gst1 (C0 : vr_Cx R nc ns p s m args meth c RX5 cc nL ret G) (hdg : decode cc pc = .ok (.getstatic 29, 3)) (kk : vr_J p l e R s m args below meth c nL nc ns G Z (pc + 3) lv (.ref (vr_sa G 1) :: st) μ P) : vr_J p l e R s m args below meth c nL nc ns G Z pc lv st μ P := fun r hr H locs ls hP hS hl => va_getsN C0.1 C0.2.1 C0.2.2.2.2.2.1.2.2.2.2.1.1 hS C0.2.2.2.1 (va_Nw.use rfl C0.2.2.2.2.2.1.2.2.1.1) (fun _ h => h) hdg (kk r hr H locs ls hP hS hl)
theorem jr_gso1 (C0 : vr_Cx R nc ns p s m args meth c own cc nL ret G) {index : Nat} (hl0 : Cond.fieldLink own index "VillageRounds" "BODIES" "[I" ∈ vr_T) (hdg : decode cc pc = .ok (.getstatic index, 3)) (kk : vr_J p l e R s m args below meth c nL nc ns G Z (pc + 3) lv (.ref (vr_sa G 1) :: st) μ P) : vr_J p l e R s m args below meth c nL nc ns G Z pc lv st μ P := fun r hr H locs ls hP hS hl => va_gets C0.1 C0.2.1 C0.2.2.2.2.2.1.2.2.2.2.1.1 hS C0.2.2.2.1 (C0.2.2.2.2.1 _ hl0) (fun _ h => h) hdg (kk r hr H locs ls hP hS hl)
theorem jr_sald1 (C0 : vr_Cx R nc ns p s m args meth c own cc nL ret G) {x : Int} (hb : 0 ≤ x ∧ x < 21) (hdg : decode cc pc = .ok (.iaload, 1)) (kk : vr_J p l e R s m args below meth c nL nc ns G Z (pc + 1) lv (.int (vr_I (vr_BODIES.getD x.toNat 0)) :: st) μ P) : vr_J p l e R s m args below meth c nL nc ns G Z pc lv (.int (vr_I x) :: .ref (vr_sa G 1) :: st) μ P := by
  intro r hr H locs ls hP hS hl
  refine va_ti C0.1 C0.2.1 C0.2.2.2.2.2.1.2.2.2.2.1.2 hS (vr_in' hb (by decide)) rfl hdg ?_
  rw [vr_cl hb.1 (by omega)]
  exact kk r hr H locs ls hP hS hl
theorem jr_slen1 (C0 : vr_Cx R nc ns p s m args meth c own cc nL ret G) (hdg : decode cc pc = .ok (.arraylength, 1)) (kk : vr_J p l e R s m args below meth c nL nc ns G Z (pc + 1) lv (.int (vr_I 21) :: st) μ P) : vr_J p l e R s m args below meth c nL nc ns G Z pc lv (.ref (vr_sa G 1) :: st) μ P := fun r hr H locs ls hP hS hl => va_tlen C0.1 C0.2.1 C0.2.2.2.2.2.1.2.2.2.2.1.2 hS (v := vr_I 21) rfl hdg (kk r hr H locs ls hP hS hl)
theorem jr_geti (C0 : vr_Cx R nc ns p s m args meth c own cc nL ret G) {ci k i N : Nat} {Cn : String} {T : u_T} {index : Nat} (hk : k < 78) (hkd : vr_kd k = ci) (hci : ci < 11) (hcl : vwCl[ci]? = some (Cn, T, N)) (hin : ∀ w ∈ u_ws Cn T N, w ∈ vr_T) (hi : i < N) (hlink : Cond.fieldLink own index (T i).1 (T i).2.1 (T i).2.2.1 ∈ vr_T) (hfl : (vr_fl ci k)[i]? = some none) (hdg : decode cc pc = .ok (.getfield index, 3)) (kk : vr_J p l e R s m args below meth c nL nc ns G Z (pc + 3) lv (.int (vr_I (μ k i)) :: st) μ P) : vr_J p l e R s m args below meth c nL nc ns G Z pc lv (.ref (vr_ad G k) :: st) μ P := fun r hr H locs ls hP hS hl => va_get C0.1 C0.2.1 C0.2.2.2.2.1 hin C0.2.2.2.1 C0.2.2.2.2.2.1.1 hP k (by rw [vr_ws_at hk, vr_cell_obj hkd hci]) hcl i hi (C0.2.2.2.2.1 _ hlink) (fun _ h9 => h9) (v := .int (vr_I (μ k i))) (by have h := vr_vs_get (vr_ad G) (μ k) _ 0 i _ hfl; rw [Nat.zero_add] at h; exact h) hdg (kk r hr H locs ls hP hS hl)
theorem jr_getr (C0 : vr_Cx R nc ns p s m args meth c own cc nL ret G) {ci k i N : Nat} {Cn : String} {T : u_T} {index : Nat} (hk : k < 78) (hkd : vr_kd k = ci) (hci : ci < 11) (hcl : vwCl[ci]? = some (Cn, T, N)) (hin : ∀ w ∈ u_ws Cn T N, w ∈ vr_T) (hi : i < N) (hlink : Cond.fieldLink own index (T i).1 (T i).2.1 (T i).2.2.1 ∈ vr_T) {j : Nat} (hfl : (vr_fl ci k)[i]? = some (some j)) (hdg : decode cc pc = .ok (.getfield index, 3)) (kk : vr_J p l e R s m args below meth c nL nc ns G Z (pc + 3) lv (.ref (vr_ad G j) :: st) μ P) : vr_J p l e R s m args below meth c nL nc ns G Z pc lv (.ref (vr_ad G k) :: st) μ P := fun r hr H locs ls hP hS hl => va_get C0.1 C0.2.1 C0.2.2.2.2.1 hin C0.2.2.2.1 C0.2.2.2.2.2.1.1 hP k (by rw [vr_ws_at hk, vr_cell_obj hkd hci]) hcl i hi (C0.2.2.2.2.1 _ hlink) (fun _ h9 => h9) (v := .ref (vr_ad G j)) (vr_vs_get (vr_ad G) (μ k) _ 0 i _ hfl) hdg (kk r hr H locs ls hP hS hl)
theorem jr_puti (C0 : vr_Cx R nc ns p s m args meth c own cc nL ret G) {ci k i N : Nat} {Cn : String} {T : u_T} {index : Nat} (hk : k < 78) (hkd : vr_kd k = ci) (hci : ci < 11) (hcl : vwCl[ci]? = some (Cn, T, N)) (hin : ∀ w ∈ u_ws Cn T N, w ∈ vr_T) (hi : i < N) (hlink : Cond.fieldLink own index (T i).1 (T i).2.1 (T i).2.2.1 ∈ vr_T) (hfl : (vr_fl ci k)[i]? = some none) {tyf : Nat → FieldType} (hty : ∀ k, k < N → parseFieldDescriptor (T k).2.2.1 = some (tyf k)) (hnm : ∀ a, a < N → ∀ b, b < N → a ≠ b → (T a).2.1 ≠ (T b).2.1) (hfin : (T i).2.2.2 = false) {x : Int} (hnar : narrow (tyf i) (.int (vr_I x)) = .int (vr_I x)) (hfit : fits (tyf i) (.int (vr_I x)) = true) (hdg : decode cc pc = .ok (.putfield index, 3)) (kk : vr_J p l e R s m args below meth c nL nc ns G Z (pc + 3) lv st (vr_u μ k i x) P) : vr_J p l e R s m args below meth c nL nc ns G Z pc lv (.int (vr_I x) :: .ref (vr_ad G k) :: st) μ P := by
  intro r hr H locs ls hP hS hl
  have hil : i < (vr_vs (vr_ad G) (μ k) (vr_fl ci k) 0).length := by rw [vr_vs_len]; exact (List.getElem?_eq_some_iff.mp hfl).1
  refine va_put C0.1 C0.2.1 C0.2.2.2.2.1 hin tyf hty hnm C0.2.2.2.1 C0.2.2.2.2.2.1.1 hP (vr_dis C0.2.2.2.2.2.1 μ) hS k (fs := vr_vs (vr_ad G) (μ k) (vr_fl ci k) 0) (by rw [vr_ws_at hk, vr_cell_obj hkd hci]) hcl i hi (C0.2.2.2.2.1 _ hlink) (fun _ h9 => h9) hfin (hty i hi) hnar hfit hil hdg (fun H1 locs1 hP1 _ hS1 => ?_)
  refine kk r hr H1 locs1 ls ?_ hS1 hl
  have e1 : vr_cell G (vr_u μ k i x) k = .inr (ci, (vr_vs (vr_ad G) (μ k) (vr_fl ci k) 0).set i (.int (vr_I x))) := by
    rw [vr_cell_obj hkd hci, ← vr_vs_set (vr_ad G) (μ k) x (vr_fl ci k) 0 i hfl]
    congr 3
    funext b
    simp [vr_u]
  rw [← vr_ws_set hk, e1]
  exact hP1
theorem jr_iald (C0 : vr_Cx R nc ns p s m args meth c own cc nL ret G) {k n : Nat} (hk : k < 78) (hkd : vr_kd k = 11) (hln : vr_ln k = n) {x : Int} (hb : 0 ≤ x ∧ x < n) {j : Nat} (hj : x.toNat = j) (hdg : decode cc pc = .ok (.iaload, 1)) (kk : vr_J p l e R s m args below meth c nL nc ns G Z (pc + 1) lv (.int (vr_I (μ k j)) :: st) μ P) : vr_J p l e R s m args below meth c nL nc ns G Z pc lv (.int (vr_I x) :: .ref (vr_ad G k) :: st) μ P := by
  intro r hr H locs ls hP hS hl
  have hn := vr_ln_lt k
  rw [hln] at hn
  refine va_iald C0.1 C0.2.1 C0.2.2.2.2.2.1.1 hP k 0 (f := fun j => vr_I (μ k j)) (by rw [vr_ws_at hk, vr_cell_arr hkd hln]) rfl (vr_in' hb hn) hdg ?_
  rw [vr_cl hb.1 (by omega), hj]
  exact kk r hr H locs ls hP hS hl
theorem jr_zald (C0 : vr_Cx R nc ns p s m args meth c own cc nL ret G) {k n : Nat} (hk : k < 78) (hkd : vr_kd k = 12) (hln : vr_ln k = n) {x : Int} (hb : 0 ≤ x ∧ x < n) {j : Nat} (hj : x.toNat = j) (hdg : decode cc pc = .ok (.baload, 1)) (kk : vr_J p l e R s m args below meth c nL nc ns G Z (pc + 1) lv (.int (vr_I (μ k j)) :: st) μ P) : vr_J p l e R s m args below meth c nL nc ns G Z pc lv (.int (vr_I x) :: .ref (vr_ad G k) :: st) μ P := by
  intro r hr H locs ls hP hS hl
  have hn := vr_ln_lt k
  rw [hln] at hn
  refine va_zald C0.1 C0.2.1 C0.2.2.2.2.2.1.1 hP k 1 (f := fun j => vr_I (μ k j)) (by rw [vr_ws_at hk, vr_cell_arz hkd hln]) rfl (vr_in' hb hn) hdg ?_
  rw [vr_cl hb.1 (by omega), hj]
  exact kk r hr H locs ls hP hS hl
theorem jr_iast (C0 : vr_Cx R nc ns p s m args meth c own cc nL ret G) {k n : Nat} (hk : k < 78) (hkd : vr_kd k = 11) (hln : vr_ln k = n) {x : Int} (hb : 0 ≤ x ∧ x < n) {j : Nat} (hj : x.toNat = j) {v : Int} (hdg : decode cc pc = .ok (.iastore, 1)) (kk : vr_J p l e R s m args below meth c nL nc ns G Z (pc + 1) lv st (vr_u μ k j v) P) : vr_J p l e R s m args below meth c nL nc ns G Z pc lv (.int (vr_I v) :: .int (vr_I x) :: .ref (vr_ad G k) :: st) μ P := by
  intro r hr H locs ls hP hS hl
  have hn := vr_ln_lt k
  rw [hln] at hn
  refine va_iast C0.1 C0.2.1 C0.2.2.2.2.2.1.1 hP (vr_dis C0.2.2.2.2.2.1 μ) hS k 0 (f := fun j => vr_I (μ k j)) (by rw [vr_ws_at hk, vr_cell_arr hkd hln]) rfl (vr_in' hb hn) hdg (fun H1 locs1 hP1 _ hS1 => ?_)
  refine kk r hr H1 locs1 ls ?_ hS1 hl
  rw [vr_cl hb.1 (by omega), hj] at hP1
  have e1 : vr_cell G (vr_u μ k j v) k = .inl (vr_cI G, n, .inl (upd (fun j => vr_I (μ k j)) j (vr_I v))) := by
    rw [vr_cell_arr hkd hln]
    congr 4
    funext b
    by_cases hbj : b = j
    · subst hbj; simp [vr_u, upd]
    · simp [vr_u, upd, hbj]
  rw [← vr_ws_set hk, e1]
  exact hP1
theorem jr_zast (C0 : vr_Cx R nc ns p s m args meth c own cc nL ret G) {k n : Nat} (hk : k < 78) (hkd : vr_kd k = 12) (hln : vr_ln k = n) {x : Int} (hb : 0 ≤ x ∧ x < n) {j : Nat} (hj : x.toNat = j) {v : Int} (hv : v = 0 ∨ v = 1) (hdg : decode cc pc = .ok (.bastore, 1)) (kk : vr_J p l e R s m args below meth c nL nc ns G Z (pc + 1) lv st (vr_u μ k j v) P) : vr_J p l e R s m args below meth c nL nc ns G Z pc lv (.int (vr_I v) :: .int (vr_I x) :: .ref (vr_ad G k) :: st) μ P := by
  intro r hr H locs ls hP hS hl
  have hn := vr_ln_lt k
  rw [hln] at hn
  refine va_zast C0.1 C0.2.1 C0.2.2.2.2.2.1.1 hP (vr_dis C0.2.2.2.2.2.1 μ) hS k 1 (f := fun j => vr_I (μ k j)) (by rw [vr_ws_at hk, vr_cell_arz hkd hln]) rfl (vr_in' hb hn) hdg (fun H1 locs1 hP1 _ hS1 => ?_)
  refine kk r hr H1 locs1 ls ?_ hS1 hl
  have hnr : vp_nar .boolean (vr_I v) = vr_I v := by rcases hv with rfl | rfl <;> rfl
  rw [vr_cl hb.1 (by omega), hj, hnr] at hP1
  have e1 : vr_cell G (vr_u μ k j v) k = .inl (vr_cZ G, n, .inl (upd (fun j => vr_I (μ k j)) j (vr_I v))) := by
    rw [vr_cell_arz hkd hln]
    congr 4
    funext b
    by_cases hbj : b = j
    · subst hbj; simp [vr_u, upd]
    · simp [vr_u, upd, hbj]
  rw [← vr_ws_set hk, e1]
  exact hP1
theorem jr_alen (C0 : vr_Cx R nc ns p s m args meth c own cc nL ret G) {k n : Nat} (hk : k < 78) (hkd : vr_kd k = 11) (hln : vr_ln k = n) (hdg : decode cc pc = .ok (.arraylength, 1)) (kk : vr_J p l e R s m args below meth c nL nc ns G Z (pc + 1) lv (.int (vr_I (n : Int)) :: st) μ P) : vr_J p l e R s m args below meth c nL nc ns G Z pc lv (.ref (vr_ad G k) :: st) μ P := fun r hr H locs ls hP hS hl => va_alen C0.1 C0.2.1 C0.2.2.2.2.2.1.1 hP k 0 (x := (n, .inl (fun j => vr_I (μ k j)))) (by rw [vr_ws_at hk, vr_cell_arr hkd hln]) rfl (v := vr_I (n : Int)) Int32.ofInt_eq_ofNat.symm hdg (kk r hr H locs ls hP hS hl)
theorem jr_vI (C0 : vr_Cx R nc ns p s m args meth c own cc nL ret G) {y : MethodName} {bytes : ByteArray} {maxL n index : Nat} {ty : Option FieldType} {rm : Room} {As st0 : List Value} {f : Option (Int × vr_M)} {K : Int × vr_M → Option ρ} {Cn : String} {T : u_T} {N ci k : Nat} (hk : k < 78) (hkd : vr_kd k = ci) (hci : ci < 11) (hcl : vwCl[ci]? = some (Cn, T, N)) (hc : vr_CI l y bytes maxL ty rm G (.ref (vr_ad G k) :: As) μ f) (hy : vr_Mi Cn y bytes maxL ty n) (hl0 : Cond.methodLink own index y ∈ vr_T) (hR : rm.frames + 1 ≤ R.frames ∧ 8 + (maxL + 11) + rm.locals ≤ R.locals) (hrm : rm.cells = 0 ∧ rm.slots = 0) (hAs : As.length = n) (hst : st0 = As.reverse ++ .ref (vr_ad G k) :: st) (hW : (st.map fun v => v.category).sum ≤ 8) (hdg : decode cc pc = .ok (.invokevirtual index, 3)) (kk : ∀ r : Int × vr_M, vr_R r.1 → vr_J p l e R s m args below meth c nL nc ns G Z (pc + 3) lv (.int (vr_I r.1) :: st) r.2 (K r)) : vr_J p l e R s m args below meth c nL nc ns G Z pc lv st0 μ (f.bind K) := by
  intro r0 hr H locs ls hP hS hl
  rcases hf : f with _ | r1
  · rw [hf] at hr; cases hr
  rw [hf] at hr
  have hr2 : K r1 = some r0 := hr
  have hM := hc r1 hf
  refine va_calli (Q := Z r0) (B := _) (A1 := vr_A G) (va_runV (As := As) (rest := st) ⟨C0.1, C0.2.1, C0.2.2.1, C0.2.2.2.1, C0.2.2.2.2.1⟩ hM (cwV n C0.2.2.2.2.1 (vr_gV hl0 hy.1) rfl hrm.1 hrm.2 hy.2 hR) ⟨fun a U g mk q => ⟨q.1, q.2.1, vr_Ev.same q.2.2 rfl⟩, va_recv C0.2.2.2.2.2.1.1 hP (q := (Cn, T, N)) hcl (by rw [vr_ws_at hk, vr_cell_obj hkd hci]), fun U hU hW => ⟨rfl, by rw [hU]; exact hP, by rw [hU]; exact vr_Ev.warm C0.2.2.2.2.2.1 hW (fun a h1 h2 => hS.2.1 a h1 h2)⟩⟩ rfl hAs hl.1 hst (lv_room hW) hdg ⟨C0.2.2.2.2.2.2.2.2.1, C0.2.2.2.2.2.2.2.2.2⟩) hS (fun _ _ h => h) (fun _ h => h) (fun v u t H1 locs1 ht hvm hw hB hz hk1 hS1 => ?_)
  obtain ⟨rfl, hw2⟩ := hw
  rw [ht] at hB
  exact kk r1 hw2 r0 hr2 H1 locs1 ls hB hS1 hl
theorem jr_sI (C0 : vr_Cx R nc ns p s m args meth c own cc nL ret G) {y : MethodName} {bytes : ByteArray} {maxL n index : Nat} {ty : Option FieldType} {rm : Room} {As st0 : List Value} {f : Option (Int × vr_M)} {K : Int × vr_M → Option ρ} (hc : vr_CI l y bytes maxL ty rm G As μ f) (hy : vr_Ms y bytes maxL ty n) (hl0 : Cond.methodLink own index y ∈ vr_T) (hR : rm.frames + 1 ≤ R.frames ∧ 8 + (maxL + 11) + rm.locals ≤ R.locals) (hrm : rm.cells = 0 ∧ rm.slots = 0) (hAs : As.length = n) (hst : st0 = As.reverse ++ st) (hW : (st.map fun v => v.category).sum ≤ 8) (hdg : decode cc pc = .ok (.invokestatic index, 3)) (kk : ∀ r : Int × vr_M, vr_R r.1 → vr_J p l e R s m args below meth c nL nc ns G Z (pc + 3) lv (.int (vr_I r.1) :: st) r.2 (K r)) : vr_J p l e R s m args below meth c nL nc ns G Z pc lv st0 μ (f.bind K) := by
  intro r0 hr H locs ls hP hS hl
  rcases hf : f with _ | r1
  · rw [hf] at hr; cases hr
  rw [hf] at hr
  have hr2 : K r1 = some r0 := hr
  have hM := hc r1 hf
  refine va_calli (Q := Z r0) (B := _) (A1 := vr_A G) (va_runS (As := As) (rest := st) ⟨C0.1, C0.2.1, C0.2.2.1, C0.2.2.2.1, C0.2.2.2.2.1⟩ hM (va_cwS n C0.2.2.2.2.1 (vr_gS hl0 hy.1) rfl hrm.1 hrm.2 hy.2 hR) ⟨fun a U g mk q => ⟨q.1, q.2.1, vr_Ev.same q.2.2 rfl⟩, fun U hU hW => ⟨rfl, by rw [hU]; exact hP, by rw [hU]; exact vr_Ev.warm C0.2.2.2.2.2.1 hW (fun a h1 h2 => hS.2.1 a h1 h2)⟩⟩ rfl hAs hl.1 hst (lv_room hW) hdg ⟨C0.2.2.2.2.2.2.2.2.1, C0.2.2.2.2.2.2.2.2.2⟩) hS (fun _ _ h => h) (fun _ h => h) (fun v u t H1 locs1 ht hvm hw hB hz hk1 hS1 => ?_)
  obtain ⟨rfl, hw2⟩ := hw
  rw [ht] at hB
  exact kk r1 hw2 r0 hr2 H1 locs1 ls hB hS1 hl
theorem jr_vV0 (C0 : vr_Cx R nc ns p s m args meth c own cc nL ret G) {y : MethodName} {bytes : ByteArray} {maxL n index : Nat} {ty : Option FieldType} {rm : Room} {As st0 : List Value} {f : Option (Int × vr_M)} {K : Int × vr_M → Option ρ} {Cn : String} {T : u_T} {N ci k : Nat} (hk : k < 78) (hkd : vr_kd k = ci) (hci : ci < 11) (hcl : vwCl[ci]? = some (Cn, T, N)) (hc : vr_CV l y bytes maxL ty rm G (.ref (vr_ad G k) :: As) μ f) (hy : vr_Mi Cn y bytes maxL ty n) (hl0 : Cond.methodLink own index y ∈ vr_T) (hR : rm.frames + 1 ≤ R.frames ∧ 8 + (maxL + 11) + rm.locals ≤ R.locals) (hrm : rm.cells = 0 ∧ rm.slots = 0) (hAs : As.length = n) (hst : st0 = As.reverse ++ .ref (vr_ad G k) :: st) (hW : (st.map fun v => v.category).sum ≤ 8) (hdg : decode cc pc = .ok (.invokevirtual index, 3)) (kk : ∀ r : Int × vr_M, vr_J p l e R s m args below meth c nL nc ns G Z (pc + 3) lv (st) r.2 (K r)) : vr_J p l e R s m args below meth c nL nc ns G Z pc lv st0 μ (f.bind K) := by
  intro r0 hr H locs ls hP hS hl
  rcases hf : f with _ | r1
  · rw [hf] at hr; cases hr
  rw [hf] at hr
  have hr2 : K r1 = some r0 := hr
  have hM := hc r1 hf
  refine va_callv (Q := Z r0) (B := _) (A1 := vr_A G) (va_runV (As := As) (rest := st) ⟨C0.1, C0.2.1, C0.2.2.1, C0.2.2.2.1, C0.2.2.2.2.1⟩ hM (cwV n C0.2.2.2.2.1 (vr_gV hl0 hy.1) rfl hrm.1 hrm.2 hy.2 hR) ⟨fun a U g mk q => ⟨q.1, q.2.1, vr_Ev.same q.2.2 rfl⟩, va_recv C0.2.2.2.2.2.1.1 hP (q := (Cn, T, N)) hcl (by rw [vr_ws_at hk, vr_cell_obj hkd hci]), fun U hU hW => ⟨rfl, by rw [hU]; exact hP, by rw [hU]; exact vr_Ev.warm C0.2.2.2.2.2.1 hW (fun a h1 h2 => hS.2.1 a h1 h2)⟩⟩ rfl hAs hl.1 hst (lv_room hW) hdg ⟨C0.2.2.2.2.2.2.2.2.1, C0.2.2.2.2.2.2.2.2.2⟩) hS (fun _ _ h => h) (fun _ h => h) (fun u t H1 locs1 ht hvm hw hB hz hk1 hS1 => ?_)
  rw [ht] at hB
  exact kk r1 r0 hr2 H1 locs1 ls hB hS1 hl
theorem jr_sV0 (C0 : vr_Cx R nc ns p s m args meth c own cc nL ret G) {y : MethodName} {bytes : ByteArray} {maxL n index : Nat} {ty : Option FieldType} {rm : Room} {As st0 : List Value} {f : Option (Int × vr_M)} {K : Int × vr_M → Option ρ} (hc : vr_CV l y bytes maxL ty rm G As μ f) (hy : vr_Ms y bytes maxL ty n) (hl0 : Cond.methodLink own index y ∈ vr_T) (hR : rm.frames + 1 ≤ R.frames ∧ 8 + (maxL + 11) + rm.locals ≤ R.locals) (hrm : rm.cells = 0 ∧ rm.slots = 0) (hAs : As.length = n) (hst : st0 = As.reverse ++ st) (hW : (st.map fun v => v.category).sum ≤ 8) (hdg : decode cc pc = .ok (.invokestatic index, 3)) (kk : ∀ r : Int × vr_M, vr_J p l e R s m args below meth c nL nc ns G Z (pc + 3) lv (st) r.2 (K r)) : vr_J p l e R s m args below meth c nL nc ns G Z pc lv st0 μ (f.bind K) := by
  intro r0 hr H locs ls hP hS hl
  rcases hf : f with _ | r1
  · rw [hf] at hr; cases hr
  rw [hf] at hr
  have hr2 : K r1 = some r0 := hr
  have hM := hc r1 hf
  refine va_callv (Q := Z r0) (B := _) (A1 := vr_A G) (va_runS (As := As) (rest := st) ⟨C0.1, C0.2.1, C0.2.2.1, C0.2.2.2.1, C0.2.2.2.2.1⟩ hM (va_cwS n C0.2.2.2.2.1 (vr_gS hl0 hy.1) rfl hrm.1 hrm.2 hy.2 hR) ⟨fun a U g mk q => ⟨q.1, q.2.1, vr_Ev.same q.2.2 rfl⟩, fun U hU hW => ⟨rfl, by rw [hU]; exact hP, by rw [hU]; exact vr_Ev.warm C0.2.2.2.2.2.1 hW (fun a h1 h2 => hS.2.1 a h1 h2)⟩⟩ rfl hAs hl.1 hst (lv_room hW) hdg ⟨C0.2.2.2.2.2.2.2.2.1, C0.2.2.2.2.2.2.2.2.2⟩) hS (fun _ _ h => h) (fun _ h => h) (fun u t H1 locs1 ht hvm hw hB hz hk1 hS1 => ?_)
  rw [ht] at hB
  exact kk r1 r0 hr2 H1 locs1 ls hB hS1 hl
theorem jr_vL (C0 : vr_Cx R nc ns p s m args meth c own cc nL ret G) {y : MethodName} {bytes : ByteArray} {maxL n index : Nat} {ty : Option FieldType} {rm : Room} {As st0 : List Value} {f : Option (Int64 × vr_M)} {K : Int64 × vr_M → Option ρ} {Cn : String} {T : u_T} {N ci k : Nat} (hk : k < 78) (hkd : vr_kd k = ci) (hci : ci < 11) (hcl : vwCl[ci]? = some (Cn, T, N)) (hc : vr_CL l y bytes maxL ty rm G (.ref (vr_ad G k) :: As) μ f) (hy : vr_Mi Cn y bytes maxL ty n) (hl0 : Cond.methodLink own index y ∈ vr_T) (hR : rm.frames + 1 ≤ R.frames ∧ 8 + (maxL + 11) + rm.locals ≤ R.locals) (hrm : rm.cells = 0 ∧ rm.slots = 0) (hAs : As.length = n) (hst : st0 = As.reverse ++ .ref (vr_ad G k) :: st) (hW : (st.map fun v => v.category).sum ≤ 8) (hdg : decode cc pc = .ok (.invokevirtual index, 3)) (kk : ∀ r : Int64 × vr_M, vr_J p l e R s m args below meth c nL nc ns G Z (pc + 3) lv (.long r.1 :: st) r.2 (K r)) : vr_J p l e R s m args below meth c nL nc ns G Z pc lv st0 μ (f.bind K) := by
  intro r0 hr H locs ls hP hS hl
  rcases hf : f with _ | r1
  · rw [hf] at hr; cases hr
  rw [hf] at hr
  have hr2 : K r1 = some r0 := hr
  have hM := hc r1 hf
  refine va_calll (Q := Z r0) (B := _) (A1 := vr_A G) (va_runV (As := As) (rest := st) ⟨C0.1, C0.2.1, C0.2.2.1, C0.2.2.2.1, C0.2.2.2.2.1⟩ hM (cwV n C0.2.2.2.2.1 (vr_gV hl0 hy.1) rfl hrm.1 hrm.2 hy.2 hR) ⟨fun a U g mk q => ⟨q.1, q.2.1, vr_Ev.same q.2.2 rfl⟩, va_recv C0.2.2.2.2.2.1.1 hP (q := (Cn, T, N)) hcl (by rw [vr_ws_at hk, vr_cell_obj hkd hci]), fun U hU hW => ⟨rfl, by rw [hU]; exact hP, by rw [hU]; exact vr_Ev.warm C0.2.2.2.2.2.1 hW (fun a h1 h2 => hS.2.1 a h1 h2)⟩⟩ rfl hAs hl.1 hst (lv_room hW) hdg ⟨C0.2.2.2.2.2.2.2.2.1, C0.2.2.2.2.2.2.2.2.2⟩) hS (fun _ _ h => h) (fun _ h => h) (fun v u t H1 locs1 ht hvm hw hB hz hk1 hS1 => ?_)
  subst hw
  rw [ht] at hB
  exact kk r1 r0 hr2 H1 locs1 ls hB hS1 hl
theorem jr_sL (C0 : vr_Cx R nc ns p s m args meth c own cc nL ret G) {y : MethodName} {bytes : ByteArray} {maxL n index : Nat} {ty : Option FieldType} {rm : Room} {As st0 : List Value} {f : Option (Int64 × vr_M)} {K : Int64 × vr_M → Option ρ} (hc : vr_CL l y bytes maxL ty rm G As μ f) (hy : vr_Ms y bytes maxL ty n) (hl0 : Cond.methodLink own index y ∈ vr_T) (hR : rm.frames + 1 ≤ R.frames ∧ 8 + (maxL + 11) + rm.locals ≤ R.locals) (hrm : rm.cells = 0 ∧ rm.slots = 0) (hAs : As.length = n) (hst : st0 = As.reverse ++ st) (hW : (st.map fun v => v.category).sum ≤ 8) (hdg : decode cc pc = .ok (.invokestatic index, 3)) (kk : ∀ r : Int64 × vr_M, vr_J p l e R s m args below meth c nL nc ns G Z (pc + 3) lv (.long r.1 :: st) r.2 (K r)) : vr_J p l e R s m args below meth c nL nc ns G Z pc lv st0 μ (f.bind K) := by
  intro r0 hr H locs ls hP hS hl
  rcases hf : f with _ | r1
  · rw [hf] at hr; cases hr
  rw [hf] at hr
  have hr2 : K r1 = some r0 := hr
  have hM := hc r1 hf
  refine va_calll (Q := Z r0) (B := _) (A1 := vr_A G) (va_runS (As := As) (rest := st) ⟨C0.1, C0.2.1, C0.2.2.1, C0.2.2.2.1, C0.2.2.2.2.1⟩ hM (va_cwS n C0.2.2.2.2.1 (vr_gS hl0 hy.1) rfl hrm.1 hrm.2 hy.2 hR) ⟨fun a U g mk q => ⟨q.1, q.2.1, vr_Ev.same q.2.2 rfl⟩, fun U hU hW => ⟨rfl, by rw [hU]; exact hP, by rw [hU]; exact vr_Ev.warm C0.2.2.2.2.2.1 hW (fun a h1 h2 => hS.2.1 a h1 h2)⟩⟩ rfl hAs hl.1 hst (lv_room hW) hdg ⟨C0.2.2.2.2.2.2.2.2.1, C0.2.2.2.2.2.2.2.2.2⟩) hS (fun _ _ h => h) (fun _ h => h) (fun v u t H1 locs1 ht hvm hw hB hz hk1 hS1 => ?_)
  subst hw
  rw [ht] at hB
  exact kk r1 r0 hr2 H1 locs1 ls hB hS1 hl
theorem jr_vS (C0 : vr_Cx R nc ns p s m args meth c own cc nL ret G) {y : MethodName} {bytes : ByteArray} {maxL n index : Nat} {ty : Option FieldType} {rm : Room} {As st0 : List Value} {f : Option (Nat × vr_M)} {K : Nat × vr_M → Option ρ} {Cn : String} {T : u_T} {N ci k : Nat} (hk : k < 78) (hkd : vr_kd k = ci) (hci : ci < 11) (hcl : vwCl[ci]? = some (Cn, T, N)) (hc : vr_CS l y bytes maxL ty rm G (.ref (vr_ad G k) :: As) μ f) (hy : vr_Mi Cn y bytes maxL ty n) (hl0 : Cond.methodLink own index y ∈ vr_T) (hR : rm.frames + 1 ≤ R.frames ∧ 8 + (maxL + 11) + rm.locals ≤ R.locals) (hrm : rm.cells = 0 ∧ rm.slots = 0) (hAs : As.length = n) (hst : st0 = As.reverse ++ .ref (vr_ad G k) :: st) (hW : (st.map fun v => v.category).sum ≤ 8) (hdg : decode cc pc = .ok (.invokevirtual index, 3)) (kk : ∀ r : Nat × vr_M, vr_J p l e R s m args below meth c nL nc ns G Z (pc + 3) lv (.ref (vr_ak G r.1) :: st) r.2 (K r)) : vr_J p l e R s m args below meth c nL nc ns G Z pc lv st0 μ (f.bind K) := by
  intro r0 hr H locs ls hP hS hl
  rcases hf : f with _ | r1
  · rw [hf] at hr; cases hr
  rw [hf] at hr
  have hr2 : K r1 = some r0 := hr
  have hM := hc r1 hf
  refine va_callr (Q := Z r0) (B := _) (A1 := vr_A G) (va_runV (As := As) (rest := st) ⟨C0.1, C0.2.1, C0.2.2.1, C0.2.2.2.1, C0.2.2.2.2.1⟩ hM (cwV n C0.2.2.2.2.1 (vr_gV hl0 hy.1) rfl hrm.1 hrm.2 hy.2 hR) ⟨fun a U g mk q => ⟨q.1, q.2.1, vr_Ev.same q.2.2 rfl⟩, va_recv C0.2.2.2.2.2.1.1 hP (q := (Cn, T, N)) hcl (by rw [vr_ws_at hk, vr_cell_obj hkd hci]), fun U hU hW => ⟨rfl, by rw [hU]; exact hP, by rw [hU]; exact vr_Ev.warm C0.2.2.2.2.2.1 hW (fun a h1 h2 => hS.2.1 a h1 h2)⟩⟩ rfl hAs hl.1 hst (lv_room hW) hdg ⟨C0.2.2.2.2.2.2.2.2.1, C0.2.2.2.2.2.2.2.2.2⟩) hS (fun _ _ h => h) (fun _ h => h) (fun u a t H1 locs1 ht hvm hw hB hz hk1 hS1 => ?_)
  obtain ⟨rfl, hB⟩ := hB
  rw [ht] at hB
  exact kk r1 r0 hr2 H1 locs1 ls hB hS1 hl
theorem jr_sS (C0 : vr_Cx R nc ns p s m args meth c own cc nL ret G) {y : MethodName} {bytes : ByteArray} {maxL n index : Nat} {ty : Option FieldType} {rm : Room} {As st0 : List Value} {f : Option (Nat × vr_M)} {K : Nat × vr_M → Option ρ} (hc : vr_CS l y bytes maxL ty rm G As μ f) (hy : vr_Ms y bytes maxL ty n) (hl0 : Cond.methodLink own index y ∈ vr_T) (hR : rm.frames + 1 ≤ R.frames ∧ 8 + (maxL + 11) + rm.locals ≤ R.locals) (hrm : rm.cells = 0 ∧ rm.slots = 0) (hAs : As.length = n) (hst : st0 = As.reverse ++ st) (hW : (st.map fun v => v.category).sum ≤ 8) (hdg : decode cc pc = .ok (.invokestatic index, 3)) (kk : ∀ r : Nat × vr_M, vr_J p l e R s m args below meth c nL nc ns G Z (pc + 3) lv (.ref (vr_ak G r.1) :: st) r.2 (K r)) : vr_J p l e R s m args below meth c nL nc ns G Z pc lv st0 μ (f.bind K) := by
  intro r0 hr H locs ls hP hS hl
  rcases hf : f with _ | r1
  · rw [hf] at hr; cases hr
  rw [hf] at hr
  have hr2 : K r1 = some r0 := hr
  have hM := hc r1 hf
  refine va_callr (Q := Z r0) (B := _) (A1 := vr_A G) (va_runS (As := As) (rest := st) ⟨C0.1, C0.2.1, C0.2.2.1, C0.2.2.2.1, C0.2.2.2.2.1⟩ hM (va_cwS n C0.2.2.2.2.1 (vr_gS hl0 hy.1) rfl hrm.1 hrm.2 hy.2 hR) ⟨fun a U g mk q => ⟨q.1, q.2.1, vr_Ev.same q.2.2 rfl⟩, fun U hU hW => ⟨rfl, by rw [hU]; exact hP, by rw [hU]; exact vr_Ev.warm C0.2.2.2.2.2.1 hW (fun a h1 h2 => hS.2.1 a h1 h2)⟩⟩ rfl hAs hl.1 hst (lv_room hW) hdg ⟨C0.2.2.2.2.2.2.2.2.1, C0.2.2.2.2.2.2.2.2.2⟩) hS (fun _ _ h => h) (fun _ h => h) (fun u a t H1 locs1 ht hvm hw hB hz hk1 hS1 => ?_)
  obtain ⟨rfl, hB⟩ := hB
  rw [ht] at hB
  exact kk r1 r0 hr2 H1 locs1 ls hB hS1 hl
theorem jr_strI (C0 : vr_Cx R nc ns p s m args meth c own cc nL ret G) {y : MethodName} {bytes : ByteArray} {maxL n index : Nat} {ty : Option FieldType} {rm : Room} {As st0 : List Value} {f : Option (Int × vr_M)} {K : Int × vr_M → Option ρ} {i : Nat} (hi : i < 17) (hc : vr_CI l y bytes maxL ty rm G (.ref (vr_ak G i) :: As) μ f) (hy : vr_Mi "java/lang/String" y bytes maxL ty n) (hl0 : Cond.methodLink own index y ∈ vr_T) (hR : rm.frames + 1 ≤ R.frames ∧ 8 + (maxL + 11) + rm.locals ≤ R.locals) (hrm : rm.cells = 0 ∧ rm.slots = 0) (hAs : As.length = n) (hst : st0 = As.reverse ++ .ref (vr_ak G i) :: st) (hW : (st.map fun v => v.category).sum ≤ 8) (hdg : decode cc pc = .ok (.invokevirtual index, 3)) (kk : ∀ r : Int × vr_M, vr_R r.1 → vr_J p l e R s m args below meth c nL nc ns G Z (pc + 3) lv (.int (vr_I r.1) :: st) r.2 (K r)) : vr_J p l e R s m args below meth c nL nc ns G Z pc lv st0 μ (f.bind K) := by
  intro r0 hr H locs ls hP hS hl
  rcases hf : f with _ | r1
  · rw [hf] at hr; cases hr
  rw [hf] at hr
  have hr2 : K r1 = some r0 := hr
  have hM := hc r1 hf
  refine va_calli (Q := Z r0) (B := _) (A1 := vr_A G) (va_runV (As := As) (rest := st) ⟨C0.1, C0.2.1, C0.2.2.1, C0.2.2.2.1, C0.2.2.2.2.1⟩ hM (cwV n C0.2.2.2.2.1 (vr_gV hl0 hy.1) rfl hrm.1 hrm.2 hy.2 hR) ⟨fun a U g mk q => ⟨q.1, q.2.1, vr_Ev.same q.2.2 rfl⟩, (by obtain ⟨cell, h1, h2, h3, _⟩ := (C0.2.2.2.2.2.1.2.2.2.2.2.2.1 i hi).1.kept hS.2.1; exact ⟨cell, h1, h2, h3⟩), fun U hU hW => ⟨rfl, by rw [hU]; exact hP, by rw [hU]; exact vr_Ev.warm C0.2.2.2.2.2.1 hW (fun a h1 h2 => hS.2.1 a h1 h2)⟩⟩ rfl hAs hl.1 hst (lv_room hW) hdg ⟨C0.2.2.2.2.2.2.2.2.1, C0.2.2.2.2.2.2.2.2.2⟩) hS (fun _ _ h => h) (fun _ h => h) (fun v u t H1 locs1 ht hvm hw hB hz hk1 hS1 => ?_)
  obtain ⟨rfl, hw2⟩ := hw
  rw [ht] at hB
  exact kk r1 hw2 r0 hr2 H1 locs1 ls hB hS1 hl
theorem jr_max (C0 : vr_Cx R nc ns p s m args meth c own cc nL ret G) {x y : Int} {index : Nat} (hx : vr_R x) (hy : vr_R y) (hl0 : Cond.methodLink own index Lib.Math.max.name ∈ vr_T) (hs0 : Cond.static Lib.Math.max.name ∈ vr_T) (hi0 : Cond.initialized "java/lang/Math" ∈ vr_T) (hc0 : Cond.code Lib.Math.max.name Lib.Math.max.code 2 (some .int) ∈ vr_T) (hfr : 1 ≤ R.frames) (hlo : (st.map fun v => v.category).sum + 13 ≤ R.locals) (hdg : decode cc pc = .ok (.invokestatic index, 3)) (kk : vr_J p l e R s m args below meth c nL nc ns G Z (pc + 3) lv (.int (vr_I (max x y)) :: st) μ P) : vr_J p l e R s m args below meth c nL nc ns G Z pc lv (.int (vr_I y) :: .int (vr_I x) :: st) μ P := by
  intro r hr H locs ls hP hS hl
  refine va_mmax C0.1 C0.2.1 (C0.2.2.1.trans hl.1.symm) C0.2.2.2.1 (C0.2.2.2.2.1 _ hl0) (C0.2.2.2.2.1 _ hs0) (C0.2.2.2.2.1 _ hi0) (C0.2.2.2.2.1 _ hc0) hfr hlo C0.2.2.2.2.2.2.2.2.1 C0.2.2.2.2.2.2.2.2.2 hdg ?_
  rw [(show (if vr_I x < vr_I y then vr_I y else vr_I x) = vr_I (max x y) from by by_cases h : x < y <;> simp only [vr_lt hx hy, h, if_true, if_false] <;> congr 1 <;> omega)]
  exact kk r hr H locs ls hP hS hl
theorem jr_min (C0 : vr_Cx R nc ns p s m args meth c own cc nL ret G) {x y : Int} {index : Nat} (hx : vr_R x) (hy : vr_R y) (hl0 : Cond.methodLink own index Lib.Math.min.name ∈ vr_T) (hs0 : Cond.static Lib.Math.min.name ∈ vr_T) (hi0 : Cond.initialized "java/lang/Math" ∈ vr_T) (hc0 : Cond.code Lib.Math.min.name Lib.Math.min.code 2 (some .int) ∈ vr_T) (hfr : 1 ≤ R.frames) (hlo : (st.map fun v => v.category).sum + 13 ≤ R.locals) (hdg : decode cc pc = .ok (.invokestatic index, 3)) (kk : vr_J p l e R s m args below meth c nL nc ns G Z (pc + 3) lv (.int (vr_I (min x y)) :: st) μ P) : vr_J p l e R s m args below meth c nL nc ns G Z pc lv (.int (vr_I y) :: .int (vr_I x) :: st) μ P := by
  intro r hr H locs ls hP hS hl
  refine va_mmin C0.1 C0.2.1 (C0.2.2.1.trans hl.1.symm) C0.2.2.2.1 (C0.2.2.2.2.1 _ hl0) (C0.2.2.2.2.1 _ hs0) (C0.2.2.2.2.1 _ hi0) (C0.2.2.2.2.1 _ hc0) hfr hlo C0.2.2.2.2.2.2.2.2.1 C0.2.2.2.2.2.2.2.2.2 hdg ?_
  rw [(show (if vr_I y < vr_I x then vr_I y else vr_I x) = vr_I (min x y) from by by_cases h : y < x <;> simp only [vr_lt hy hx, h, if_true, if_false] <;> congr 1 <;> omega)]
  exact kk r hr H locs ls hP hS hl
theorem jr_abs (C0 : vr_Cx R nc ns p s m args meth c own cc nL ret G) {x : Int} {index : Nat} (hx : vr_R x) (hl0 : Cond.methodLink own index Lib.Math.abs.name ∈ vr_T) (hs0 : Cond.static Lib.Math.abs.name ∈ vr_T) (hi0 : Cond.initialized "java/lang/Math" ∈ vr_T) (hc0 : Cond.code Lib.Math.abs.name Lib.Math.abs.code 1 (some .int) ∈ vr_T) (hfr : 1 ≤ R.frames) (hlo : (st.map fun v => v.category).sum + 13 ≤ R.locals) (hdg : decode cc pc = .ok (.invokestatic index, 3)) (kk : vr_J p l e R s m args below meth c nL nc ns G Z (pc + 3) lv (.int (vr_I (if 0 ≤ x then x else -x)) :: st) μ P) : vr_J p l e R s m args below meth c nL nc ns G Z pc lv (.int (vr_I x) :: st) μ P := by
  intro r hr H locs ls hP hS hl
  refine va_mabs C0.1 C0.2.1 (C0.2.2.1.trans hl.1.symm) C0.2.2.2.1 (C0.2.2.2.2.1 _ hl0) (C0.2.2.2.2.1 _ hs0) (C0.2.2.2.2.1 _ hi0) (C0.2.2.2.2.1 _ hc0) hfr hlo C0.2.2.2.2.2.2.2.2.1 C0.2.2.2.2.2.2.2.2.2 hdg ?_
  have e9 : (if 0 ≤ vr_I x then vr_I x else 0 - vr_I x) = vr_I (if 0 ≤ x then x else -x) := by
    have h0 := vr_ge0 hx
    by_cases h : 0 ≤ x
    · rw [if_pos h, if_pos (h0.mpr h)]
    · rw [if_neg h, if_neg (fun q => h (h0.mp q)), show (0 : Int32) = vr_I 0 from rfl, vr_sub]
      congr 1; omega
  rw [e9]
  exact kk r hr H locs ls hP hS hl
theorem jr_sval (C0 : vr_Cx R nc ns p s m args meth c own cc nL ret G) {index i : Nat} (hi : i < 17) (hl0 : Cond.fieldLink own index "java/lang/String" "value" "[B" ∈ vr_T) (hdg : decode cc pc = .ok (.getfield index, 3)) (kk : vr_J p l e R s m args below meth c nL nc ns G Z (pc + 3) lv (.ref (vr_av G i) :: st) μ P) : vr_J p l e R s m args below meth c nL nc ns G Z pc lv (.ref (vr_ak G i) :: st) μ P := fun r hr H locs ls hP hS hl => vk_getf C0.1 C0.2.1 (C0.2.2.2.2.2.1.2.2.2.2.2.2.1 i hi).2.2.1 hS C0.2.2.2.1 (C0.2.2.2.2.1 _ hl0) (fun _ h => h) hdg (kk r hr H locs ls hP hS hl)
theorem jr_scod (C0 : vr_Cx R nc ns p s m args meth c own cc nL ret G) {index i : Nat} (hi : i < 17) (hl0 : Cond.fieldLink own index "java/lang/String" "coder" "B" ∈ vr_T) (hdg : decode cc pc = .ok (.getfield index, 3)) (kk : vr_J p l e R s m args below meth c nL nc ns G Z (pc + 3) lv (.int (vr_I 0) :: st) μ P) : vr_J p l e R s m args below meth c nL nc ns G Z pc lv (.ref (vr_ak G i) :: st) μ P := fun r hr H locs ls hP hS hl => vk_getf C0.1 C0.2.1 (C0.2.2.2.2.2.1.2.2.2.2.2.2.1 i hi).2.1 hS C0.2.2.2.1 (C0.2.2.2.2.1 _ hl0) (fun _ h => h) hdg (kk r hr H locs ls hP hS hl)
theorem jr_sbal (C0 : vr_Cx R nc ns p s m args meth c own cc nL ret G) {i : Nat} (hi : i < 17) {x : Int} (hb : 0 ≤ x ∧ x < ((vr_by i).length : Int)) (hdg : decode cc pc = .ok (.baload, 1)) (kk : vr_J p l e R s m args below meth c nL nc ns G Z (pc + 1) lv (.int (vr_I ((vr_by i).getD x.toNat 0).toInt) :: st) μ P) : vr_J p l e R s m args below meth c nL nc ns G Z pc lv (.int (vr_I x) :: .ref (vr_av G i) :: st) μ P := by
  intro r hr H locs ls hP hS hl
  have h17 : ∀ i, i < 17 → (vr_by i).length < 100 := by decide
  have h18 := h17 i hi
  refine va_tb C0.1 C0.2.1 (C0.2.2.2.2.2.1.2.2.2.2.2.2.1 i hi).2.2.2 hS (vr_in' hb (by omega)) rfl hdg ?_
  rw [vr_cl hb.1 (by omega)]
  have h := kk r hr H locs ls hP hS hl
  rw [vr_IT] at h
  exact h
theorem jr_sbln (C0 : vr_Cx R nc ns p s m args meth c own cc nL ret G) {i : Nat} (hi : i < 17) (hdg : decode cc pc = .ok (.arraylength, 1)) (kk : vr_J p l e R s m args below meth c nL nc ns G Z (pc + 1) lv (.int (vr_I ((vr_by i).length : Int)) :: st) μ P) : vr_J p l e R s m args below meth c nL nc ns G Z pc lv (.ref (vr_av G i) :: st) μ P := fun r hr H locs ls hP hS hl => va_tlen C0.1 C0.2.1 (C0.2.2.2.2.2.1.2.2.2.2.2.2.1 i hi).2.2.2 hS (v := vr_I ((vr_by i).length : Int)) Int32.ofInt_eq_ofNat.symm hdg (kk r hr H locs ls hP hS hl)
theorem jr_gcs (C0 : vr_Cx R nc ns p s m args meth c own cc nL ret G) {index : Nat} (hl0 : Cond.fieldLink own index "java/lang/String" "COMPACT_STRINGS" "Z" ∈ vr_T) (hdg : decode cc pc = .ok (.getstatic index, 3)) (kk : vr_J p l e R s m args below meth c nL nc ns G Z (pc + 3) lv (.int (vr_I 1) :: st) μ P) : vr_J p l e R s m args below meth c nL nc ns G Z pc lv st μ P := fun r hr H locs ls hP hS hl => va_gets C0.1 C0.2.1 C0.2.2.2.2.2.1.2.2.2.2.2.1.1 hS C0.2.2.2.1 (C0.2.2.2.2.1 _ hl0) (fun _ h => h) hdg (kk r hr H locs ls hP hS hl)
theorem jr_gsf (C0 : vr_Cx R nc ns p s m args meth c own cc nL ret G) {index : Nat} (hl0 : Cond.fieldLink own index "jdk/internal/util/Preconditions" "SIOOBE_FORMATTER" "Ljava/util/function/BiFunction;" ∈ vr_T) (hdg : decode cc pc = .ok (.getstatic index, 3)) (kk : ∀ q : Value, q.category = 1 → vr_J p l e R s m args below meth c nL nc ns G Z (pc + 3) lv (q :: st) μ P) : vr_J p l e R s m args below meth c nL nc ns G Z pc lv st μ P := by
  intro r hr H locs ls hP hS hl
  obtain ⟨q, hq, hc⟩ := C0.2.2.2.2.2.1.2.2.2.2.2.1.2
  exact va_gets C0.1 C0.2.1 hq hS C0.2.2.2.1 (C0.2.2.2.2.1 _ hl0) (fun _ h => h) hdg (kk q hc r hr H locs ls hP hS hl)
theorem jr_valload (C0 : vr_Cx R nc ns p s m args meth c own cc nL ret G) {k : Fin 4} {i : Nat} {x : Value} (q : Nat) (hdg : decode cc pc = .ok (.aload_n k, 1)) (hi : (k : Nat) = i) (hq : lv[q]? = some (i, x)) (hx : ∃ a, x = .ref a) (kk : vr_J p l e R s m args below meth c nL nc ns G Z (pc + 1) lv (x :: st) μ P) : vr_J p l e R s m args below meth c nL nc ns G Z pc lv st μ P := by
  obtain ⟨a, rfl⟩ := hx
  exact jr_aload_n C0 q hdg hi hq kk
end VRJ
section VRE
variable {p : Program} {l : Launch} {e : Env} {R : Room} {s : State} {m : MethodId} {args : Array Value} {below : List Frame} {meth : Method} {c : Code} {nL : Nat} {G : vr_G} {pc : Nat} {lv : List (Nat × Value)} {μ : vr_M} {own : String} {cc : ByteArray}
theorem jr_iret  (C0 : vr_Cx R 0 0 p s m args meth c own cc nL (some .int) G) {x : Int} (hx : vr_R x) (hdg : decode cc pc = .ok (.ireturn, 1)) : vr_J p l e R s m args below meth c nL 0 0 G (vr_Z (vr_QI G) G args s below) pc lv [.int (vr_I x)] μ (some (x, μ)) := by
  intro r hr H locs ls hP hS hl
  cases hr
  have hlk := C0.2.2.2.2.2.2.2.1
  exact W.iret C0.1 C0.2.1 C0.2.2.2.2.2.2.1 (fun t ht hW => ⟨⟨_, (), rfl, ⟨rfl, hx⟩, by show va_P _ _ _ _; rw [ht]; exact hP⟩, hS.F ht⟩) hS.2.2 hdg
theorem jr_zret {ty : FieldType} {x : Int} (C0 : vr_Cx R 0 0 p s m args meth c own cc nL (some ty) G) (hx : vr_R x) (hn : narrow ty (.int (vr_I x)) = .int (vr_I x)) (hdg : decode cc pc = .ok (.ireturn, 1)) : vr_J p l e R s m args below meth c nL 0 0 G (vr_Z (vr_QI G) G args s below) pc lv [.int (vr_I x)] μ (some (x, μ)) := by
  intro r hr H locs ls hP hS hl
  cases hr
  have hlk := C0.2.2.2.2.2.2.2.1
  exact W.zret C0.1 C0.2.1 C0.2.2.2.2.2.2.1 hn (fun t ht hW => ⟨⟨_, (), rfl, ⟨rfl, hx⟩, by show va_P _ _ _ _; rw [ht]; exact hP⟩, hS.F ht⟩) hS.2.2 hdg
theorem jr_vret  (C0 : vr_Cx R 0 0 p s m args meth c own cc nL none G)  (hdg : decode cc pc = .ok (.return_, 1)) : vr_J p l e R s m args below meth c nL 0 0 G (vr_Z (vr_QV G) G args s below) pc lv [] μ (some ((0 : Int), μ)) := by
  intro r hr H locs ls hP hS hl
  cases hr
  have hlk := C0.2.2.2.2.2.2.2.1
  exact W.vret C0.1 C0.2.1 C0.2.2.2.2.2.2.1 (fun t ht hW => ⟨⟨(), rfl, trivial, by show va_P _ _ _ _; rw [ht]; exact hP⟩, hS.F ht⟩) hS.2.2 hdg
theorem jr_lret  (C0 : vr_Cx R 0 0 p s m args meth c own cc nL (some .long) G) {x : Int64} (hdg : decode cc pc = .ok (.lreturn, 1)) : vr_J p l e R s m args below meth c nL 0 0 G (vr_Z (vr_QL G) G args s below) pc lv [.long x] μ (some (x, μ)) := by
  intro r hr H locs ls hP hS hl
  cases hr
  have hlk := C0.2.2.2.2.2.2.2.1
  exact W.lret C0.1 C0.2.1 C0.2.2.2.2.2.2.1 (fun t ht hW => ⟨⟨_, (), rfl, rfl, by show va_P _ _ _ _; rw [ht]; exact hP⟩, hS.F ht⟩) hS.2.2 hdg
theorem jr_sret {nm : String} {i : Nat} (C0 : vr_Cx R 0 0 p s m args meth c own cc nL (some (.object nm)) G)  (hdg : decode cc pc = .ok (.areturn, 1)) : vr_J p l e R s m args below meth c nL 0 0 G (vr_Z (vr_QS G) G args s below) pc lv [.ref (vr_ak G i)] μ (some (i, μ)) := by
  intro r hr H locs ls hP hS hl
  cases hr
  have hlk := C0.2.2.2.2.2.2.2.1
  exact W.aret C0.1 C0.2.1 C0.2.2.2.2.2.2.1 (Or.inl ⟨_, rfl⟩) (Or.inr ⟨_, rfl⟩) (fun t ht hW => ⟨⟨(), _, rfl, trivial, rfl, by show va_P _ _ _ _; rw [ht]; exact hP⟩, hS.F ht⟩) hS.2.2 hdg
end VRE
theorem vr_nch {x : Int} (h : 0 ≤ x ∧ x < 65536) : narrow .char (.int (vr_I x)) = .int (vr_I x) := by
  obtain ⟨n, rfl⟩ : ∃ n : Nat, x = (n : Int) := ⟨x.toNat, by omega⟩
  have hn : n < 65536 := by omega
  have e : vp_nar .char (vr_I n) = vr_I n := by
    rw [vp_nar_char]
    show (Int32.ofInt (n : Int)).toUInt32.toUInt16.toUInt32.toInt32 = Int32.ofInt (n : Int)
    rw [Int32.ofInt_eq_ofNat]
    apply Int32.toBitVec_inj.mp
    apply BitVec.eq_of_toNat_eq
    simp
    omega
  have e2 : ∃ y, narrow .char (.int (vr_I n)) = .int y := ⟨_, rfl⟩
  obtain ⟨y, hy⟩ := e2
  unfold vp_nar at e
  rw [hy] at e
  rw [hy]
  exact congrArg Value.int e
theorem vr_nb2 {x : Int} (h : x = 0 ∨ x = 1) : narrow .byte (.int (vr_I x)) = .int (vr_I x) := by rcases h with rfl | rfl <;> rfl
theorem vr_nz {x : Int} (h : x = 0 ∨ x = 1) : narrow .boolean (.int (vr_I x)) = .int (vr_I x) := by rcases h with rfl | rfl <;> rfl
theorem vr_fz (ty : FieldType) (h : ty = .int ∨ ty = .boolean) {x : Int} (hx : ty = .boolean → x = 0 ∨ x = 1) : narrow ty (.int (vr_I x)) = .int (vr_I x) ∧ fits ty (.int (vr_I x)) = true := by
  rcases h with rfl | rfl
  · exact ⟨rfl, rfl⟩
  · rcases hx rfl with rfl | rfl <;> exact ⟨rfl, rfl⟩
theorem vr_Rby {i : Nat} (hi : i < 17) : vr_R ((vr_by i).length : Int) := by
  have h17 : ∀ i, i < 17 → (vr_by i).length < 100 := by decide
  have := h17 i hi
  exact ⟨by omega, by omega⟩
theorem vr_Rln (k : Nat) : vr_R (vr_ln k : Int) := by
  have := vr_ln_lt k
  exact ⟨by omega, by omega⟩
theorem vr_RA (j : Nat) : vr_R (vr_ABOVE.getD j 0) ∧ vr_R (vr_BODIES.getD j 0) := by
  have h1 : ∀ a ∈ vr_ABOVE, vr_R a := by decide
  have h2 : ∀ a ∈ vr_BODIES, vr_R a := by decide
  rw [List.getD_eq_getElem?_getD, List.getD_eq_getElem?_getD]
  refine ⟨?_, ?_⟩
  · rcases e : vr_ABOVE[j]? with _ | q
    · exact ⟨by decide, by decide⟩
    · exact h1 q (List.mem_of_getElem? e)
  · rcases e : vr_BODIES[j]? with _ | q
    · exact ⟨by decide, by decide⟩
    · exact h2 q (List.mem_of_getElem? e)
theorem kd_0 : vr_kd 0 = 9 := by decide +kernel
theorem kd_1 : vr_kd 1 = 8 := by decide +kernel
theorem kd_2 : vr_kd 2 = 2 := by decide +kernel
theorem kd_3 : vr_kd 3 = 11 := by decide +kernel
theorem kl_3 : vr_ln 3 = 8 := by decide +kernel
theorem kd_4 : vr_kd 4 = 11 := by decide +kernel
theorem kl_4 : vr_ln 4 = 8 := by decide +kernel
theorem kd_5 : vr_kd 5 = 11 := by decide +kernel
theorem kl_5 : vr_ln 5 = 8 := by decide +kernel
theorem kd_6 : vr_kd 6 = 11 := by decide +kernel
theorem kl_6 : vr_ln 6 = 8 := by decide +kernel
theorem kd_7 : vr_kd 7 = 11 := by decide +kernel
theorem kl_7 : vr_ln 7 = 8 := by decide +kernel
theorem kd_8 : vr_kd 8 = 3 := by decide +kernel
theorem kd_9 : vr_kd 9 = 11 := by decide +kernel
theorem kl_9 : vr_ln 9 = 10 := by decide +kernel
theorem kd_10 : vr_kd 10 = 11 := by decide +kernel
theorem kl_10 : vr_ln 10 = 10 := by decide +kernel
theorem kd_11 : vr_kd 11 = 11 := by decide +kernel
theorem kl_11 : vr_ln 11 = 120 := by decide +kernel
theorem kd_12 : vr_kd 12 = 11 := by decide +kernel
theorem kl_12 : vr_ln 12 = 5 := by decide +kernel
theorem kd_13 : vr_kd 13 = 4 := by decide +kernel
theorem kd_14 : vr_kd 14 = 11 := by decide +kernel
theorem kl_14 : vr_ln 14 = 120 := by decide +kernel
theorem kd_15 : vr_kd 15 = 4 := by decide +kernel
theorem kd_16 : vr_kd 16 = 11 := by decide +kernel
theorem kl_16 : vr_ln 16 = 12 := by decide +kernel
theorem kd_17 : vr_kd 17 = 4 := by decide +kernel
theorem kd_18 : vr_kd 18 = 11 := by decide +kernel
theorem kl_18 : vr_ln 18 = 10 := by decide +kernel
theorem kd_19 : vr_kd 19 = 4 := by decide +kernel
theorem kd_20 : vr_kd 20 = 11 := by decide +kernel
theorem kl_20 : vr_ln 20 = 8 := by decide +kernel
theorem kd_21 : vr_kd 21 = 4 := by decide +kernel
theorem kd_22 : vr_kd 22 = 11 := by decide +kernel
theorem kl_22 : vr_ln 22 = 8 := by decide +kernel
theorem kd_23 : vr_kd 23 = 8 := by decide +kernel
theorem kd_24 : vr_kd 24 = 2 := by decide +kernel
theorem kd_25 : vr_kd 25 = 11 := by decide +kernel
theorem kl_25 : vr_ln 25 = 8 := by decide +kernel
theorem kd_26 : vr_kd 26 = 11 := by decide +kernel
theorem kl_26 : vr_ln 26 = 8 := by decide +kernel
theorem kd_27 : vr_kd 27 = 11 := by decide +kernel
theorem kl_27 : vr_ln 27 = 8 := by decide +kernel
theorem kd_28 : vr_kd 28 = 11 := by decide +kernel
theorem kl_28 : vr_ln 28 = 8 := by decide +kernel
theorem kd_29 : vr_kd 29 = 11 := by decide +kernel
theorem kl_29 : vr_ln 29 = 8 := by decide +kernel
theorem kd_30 : vr_kd 30 = 3 := by decide +kernel
theorem kd_31 : vr_kd 31 = 11 := by decide +kernel
theorem kl_31 : vr_ln 31 = 10 := by decide +kernel
theorem kd_32 : vr_kd 32 = 11 := by decide +kernel
theorem kl_32 : vr_ln 32 = 10 := by decide +kernel
theorem kd_33 : vr_kd 33 = 11 := by decide +kernel
theorem kl_33 : vr_ln 33 = 120 := by decide +kernel
theorem kd_34 : vr_kd 34 = 11 := by decide +kernel
theorem kl_34 : vr_ln 34 = 5 := by decide +kernel
theorem kd_35 : vr_kd 35 = 4 := by decide +kernel
theorem kd_36 : vr_kd 36 = 11 := by decide +kernel
theorem kl_36 : vr_ln 36 = 120 := by decide +kernel
theorem kd_37 : vr_kd 37 = 4 := by decide +kernel
theorem kd_38 : vr_kd 38 = 11 := by decide +kernel
theorem kl_38 : vr_ln 38 = 12 := by decide +kernel
theorem kd_39 : vr_kd 39 = 4 := by decide +kernel
theorem kd_40 : vr_kd 40 = 11 := by decide +kernel
theorem kl_40 : vr_ln 40 = 10 := by decide +kernel
theorem kd_41 : vr_kd 41 = 4 := by decide +kernel
theorem kd_42 : vr_kd 42 = 11 := by decide +kernel
theorem kl_42 : vr_ln 42 = 8 := by decide +kernel
theorem kd_43 : vr_kd 43 = 4 := by decide +kernel
theorem kd_44 : vr_kd 44 = 11 := by decide +kernel
theorem kl_44 : vr_ln 44 = 8 := by decide +kernel
theorem kd_45 : vr_kd 45 = 3 := by decide +kernel
theorem kd_46 : vr_kd 46 = 11 := by decide +kernel
theorem kl_46 : vr_ln 46 = 10 := by decide +kernel
theorem kd_47 : vr_kd 47 = 11 := by decide +kernel
theorem kl_47 : vr_ln 47 = 10 := by decide +kernel
theorem kd_48 : vr_kd 48 = 11 := by decide +kernel
theorem kl_48 : vr_ln 48 = 120 := by decide +kernel
theorem kd_49 : vr_kd 49 = 11 := by decide +kernel
theorem kl_49 : vr_ln 49 = 5 := by decide +kernel
theorem kd_50 : vr_kd 50 = 6 := by decide +kernel
theorem kd_51 : vr_kd 51 = 7 := by decide +kernel
theorem kd_52 : vr_kd 52 = 2 := by decide +kernel
theorem kd_53 : vr_kd 53 = 11 := by decide +kernel
theorem kl_53 : vr_ln 53 = 8 := by decide +kernel
theorem kd_54 : vr_kd 54 = 11 := by decide +kernel
theorem kl_54 : vr_ln 54 = 8 := by decide +kernel
theorem kd_55 : vr_kd 55 = 11 := by decide +kernel
theorem kl_55 : vr_ln 55 = 8 := by decide +kernel
theorem kd_56 : vr_kd 56 = 11 := by decide +kernel
theorem kl_56 : vr_ln 56 = 8 := by decide +kernel
theorem kd_57 : vr_kd 57 = 11 := by decide +kernel
theorem kl_57 : vr_ln 57 = 8 := by decide +kernel
theorem kd_58 : vr_kd 58 = 0 := by decide +kernel
theorem kd_59 : vr_kd 59 = 11 := by decide +kernel
theorem kl_59 : vr_ln 59 = 8 := by decide +kernel
theorem kd_60 : vr_kd 60 = 11 := by decide +kernel
theorem kl_60 : vr_ln 60 = 8 := by decide +kernel
theorem kd_61 : vr_kd 61 = 11 := by decide +kernel
theorem kl_61 : vr_ln 61 = 8 := by decide +kernel
theorem kd_62 : vr_kd 62 = 11 := by decide +kernel
theorem kl_62 : vr_ln 62 = 256 := by decide +kernel
theorem kd_63 : vr_kd 63 = 1 := by decide +kernel
theorem kd_64 : vr_kd 64 = 11 := by decide +kernel
theorem kl_64 : vr_ln 64 = 1809 := by decide +kernel
theorem kd_65 : vr_kd 65 = 11 := by decide +kernel
theorem kl_65 : vr_ln 65 = 200 := by decide +kernel
theorem kd_66 : vr_kd 66 = 5 := by decide +kernel
theorem kd_67 : vr_kd 67 = 11 := by decide +kernel
theorem kl_67 : vr_ln 67 = 20 := by decide +kernel
theorem kd_68 : vr_kd 68 = 10 := by decide +kernel
theorem kd_69 : vr_kd 69 = 11 := by decide +kernel
theorem kl_69 : vr_ln 69 = 933 := by decide +kernel
theorem kd_70 : vr_kd 70 = 11 := by decide +kernel
theorem kl_70 : vr_ln 70 = 933 := by decide +kernel
theorem kd_71 : vr_kd 71 = 11 := by decide +kernel
theorem kl_71 : vr_ln 71 = 933 := by decide +kernel
theorem kd_72 : vr_kd 72 = 11 := by decide +kernel
theorem kl_72 : vr_ln 72 = 5 := by decide +kernel
theorem kd_73 : vr_kd 73 = 12 := by decide +kernel
theorem kl_73 : vr_ln 73 = 64 := by decide +kernel
theorem kd_74 : vr_kd 74 = 11 := by decide +kernel
theorem kl_74 : vr_ln 74 = 8 := by decide +kernel
theorem kd_75 : vr_kd 75 = 11 := by decide +kernel
theorem kl_75 : vr_ln 75 = 5226 := by decide +kernel
theorem kd_76 : vr_kd 76 = 11 := by decide +kernel
theorem kl_76 : vr_ln 76 = 201 := by decide +kernel
theorem kd_77 : vr_kd 77 = 11 := by decide +kernel
theorem kl_77 : vr_ln 77 = 20 := by decide +kernel
theorem vr_hill {k : Nat} (hk : k < 78) (h : vr_kd k = 2) : k + 5 < 78 ∧ (vr_kd (k+1) = 11 ∧ vr_kd (k+2) = 11 ∧ vr_kd (k+3) = 11 ∧ vr_kd (k+4) = 11 ∧ vr_kd (k+5) = 11) ∧ vr_ln (k+1) = 8 ∧ vr_ln (k+2) = 8 ∧ vr_ln (k+3) = 8 ∧ vr_ln (k+4) = 8 ∧ vr_ln (k+5) = 8 := by
  have := (by decide +kernel : ∀ k, k < 78 → vr_kd k = 2 → k + 5 < 78 ∧ (vr_kd (k+1) = 11 ∧ vr_kd (k+2) = 11 ∧ vr_kd (k+3) = 11 ∧ vr_kd (k+4) = 11 ∧ vr_kd (k+5) = 11) ∧ vr_ln (k+1) = 8 ∧ vr_ln (k+2) = 8 ∧ vr_ln (k+3) = 8 ∧ vr_ln (k+4) = 8 ∧ vr_ln (k+5) = 8) k hk h
  exact this
theorem vr_land {k : Nat} (hk : k < 78) (h : vr_kd k = 3) : k + 4 < 78 ∧ (vr_kd (k+1) = 11 ∧ vr_kd (k+2) = 11 ∧ vr_kd (k+3) = 11 ∧ vr_kd (k+4) = 11) ∧ vr_ln (k+1) = 10 ∧ vr_ln (k+2) = 10 ∧ vr_ln (k+3) = 120 ∧ vr_ln (k+4) = 5 := by
  have := (by decide +kernel : ∀ k, k < 78 → vr_kd k = 3 → k + 4 < 78 ∧ (vr_kd (k+1) = 11 ∧ vr_kd (k+2) = 11 ∧ vr_kd (k+3) = 11 ∧ vr_kd (k+4) = 11) ∧ vr_ln (k+1) = 10 ∧ vr_ln (k+2) = 10 ∧ vr_ln (k+3) = 120 ∧ vr_ln (k+4) = 5) k hk h
  exact this
theorem vr_nums {k : Nat} (hk : k < 78) (h : vr_kd k = 4) : k + 1 < 78 ∧ vr_kd (k+1) = 11 := by
  have := (by decide +kernel : ∀ k, k < 78 → vr_kd k = 4 → k + 1 < 78 ∧ vr_kd (k+1) = 11) k hk h
  exact this
theorem vr_world {k : Nat} (hk : k < 78) (h : vr_kd k = 8) : k + 20 < 78 ∧ vr_kd (k+1) = 2 ∧ vr_kd (k+7) = 3 ∧ vr_kd (k+12) = 4 ∧ vr_kd (k+14) = 4 ∧ vr_kd (k+16) = 4 ∧ vr_kd (k+18) = 4 ∧ vr_kd (k+20) = 4 := by
  have := (by decide +kernel : ∀ k, k < 78 → vr_kd k = 8 → k + 20 < 78 ∧ vr_kd (k+1) = 2 ∧ vr_kd (k+7) = 3 ∧ vr_kd (k+12) = 4 ∧ vr_kd (k+14) = 4 ∧ vr_kd (k+16) = 4 ∧ vr_kd (k+18) = 4 ∧ vr_kd (k+20) = 4) k hk h
  exact this
