/-! ===== the making phase: worlds that grow ===== -/
abbrev nTy (cI cZ cR cH : ClassId) : List (ClassId × FieldType) := [(cI, .int), (cZ, .boolean), (cR, .object "KeyDrift$Row"), (cH, .object "KeyDrift$Hall")]
def nP (X : kX) (D : va_G) (A : Nat → Prop) (nL pc : Nat) (lv : List (Nat × Value)) (st : List Value) (ws : va_W) (ce sl : Nat) : Prop :=
  ∀ (H : Heap) (locs : List Loc) (ls : Array Slot), va_P D vwCl ws H → va_D A ws → va_S A (kXs X).heap H locs → lv_has ls nL lv → W X.1 (kXl X) (kXe X) (kXR X) (kXs X) (kXm X) (kXa X) (kXb X) (kXt X) (kXc X) H locs ce sl (kXZ X) (F0 (kXm X) pc ls st)
def nOk (X : kX) (D : va_G) (tys : List (ClassId × FieldType)) (A : Nat → Prop) (own : String) (cc : ByteArray) (nL : Nat) (ret : Option FieldType) (mc ms K : Nat) : Prop :=
  X.1.tables.exec = Jvm.exec ∧ (kXc X).code = cc ∧ (kXt X).sig.returnType = ret ∧ (kXc X).maxLocals = nL ∧ (kXs X).vm.findClass own = some (kXm X).cls ∧ (∀ w ∈ kT, w.before (kXa X) (kXs X) = true) ∧ va_K D vwCl tys (kXs X) ∧ (kXt X).locks = false ∧ (∀ q, (kXs X).heap.size ≤ q → A q) ∧ (mc ≤ (kXR X).cells ∧ ms ≤ (kXR X).slots) ∧ (K ≤ (kXR X).frames ∧ 64 * K ≤ (kXR X).locals)
section NR
variable {X : kX} {D : va_G} {tys : List (ClassId × FieldType)} {A : Nat → Prop} {own : String} {cc : ByteArray} {nL mc ms K : Nat} {ret : Option FieldType} {pc ce sl : Nat} {lv : List (Nat × Value)} {st rest : List Value} {ws : va_W}
theorem n_ws (ws' : va_W) (h : ws = ws') (kk : nP X D A nL pc lv st ws' ce sl) : nP X D A nL pc lv st ws ce sl := h ▸ kk

theorem n_iconst (hc : nOk X D tys A own cc nL ret mc ms K) {n : Int} {v : Int32} (d : decode cc pc = .ok (.iconst n, 1)) (hv : Int32.ofInt n = v) (kk : nP X D A nL (pc + 1) lv (.int v :: st) ws ce sl) : nP X D A nL pc lv (st) ws ce sl := fun H locs ls hP hD hS hl => lv_iconst hc.1 hc.2.1 d hv (kk H locs ls hP hD hS hl)
theorem n_bipush (hc : nOk X D tys A own cc nL ret mc ms K) {n : Int} {v : Int32} (d : decode cc pc = .ok (.bipush n, 2)) (hv : (Int8.ofInt n).toInt32 = v) (kk : nP X D A nL (pc + 2) lv (.int v :: st) ws ce sl) : nP X D A nL pc lv (st) ws ce sl := fun H locs ls hP hD hS hl => lv_bipush hc.1 hc.2.1 d hv (kk H locs ls hP hD hS hl)
theorem n_sipush (hc : nOk X D tys A own cc nL ret mc ms K) {n : Int} {v : Int32} (d : decode cc pc = .ok (.sipush n, 3)) (hv : (Int16.ofInt n).toInt32 = v) (kk : nP X D A nL (pc + 3) lv (.int v :: st) ws ce sl) : nP X D A nL pc lv (st) ws ce sl := fun H locs ls hP hD hS hl => lv_sipush hc.1 hc.2.1 d hv (kk H locs ls hP hD hS hl)
theorem n_iload_n (hc : nOk X D tys A own cc nL ret mc ms K) (k : Nat) {n : Fin 4} {x : Int32} (d : decode cc pc = .ok (.iload_n n, 1)) (hk : lv[k]? = some (n.val, .int x)) (kk : nP X D A nL (pc + 1) lv (.int x :: st) ws ce sl) : nP X D A nL pc lv (st) ws ce sl := fun H locs ls hP hD hS hl => lv_iload_n hc.1 hc.2.1 d rfl (lv_at hl k hk) (kk H locs ls hP hD hS hl)
theorem n_aload_n (hc : nOk X D tys A own cc nL ret mc ms K) (k : Nat) {n : Fin 4} {x : Nat} (d : decode cc pc = .ok (.aload_n n, 1)) (hk : lv[k]? = some (n.val, .ref x)) (kk : nP X D A nL (pc + 1) lv (.ref x :: st) ws ce sl) : nP X D A nL pc lv (st) ws ce sl := fun H locs ls hP hD hS hl => lv_aload_n hc.1 hc.2.1 d rfl (lv_at hl k hk) (kk H locs ls hP hD hS hl)
theorem n_dup (hc : nOk X D tys A own cc nL ret mc ms K) {v : Value} (d : decode cc pc = .ok (.dup, 1)) (hv : v.category = 1) (kk : nP X D A nL (pc + 1) lv (v :: v :: st) ws ce sl) : nP X D A nL pc lv (v :: st) ws ce sl := fun H locs ls hP hD hS hl => lv_dup hc.1 hc.2.1 d hv (kk H locs ls hP hD hS hl)
theorem n_istore_n (hc : nOk X D tys A own cc nL ret mc ms K) {n : Fin 4} {x : Int32} (lv' : List (Nat × Value)) (d : decode cc pc = .ok (.istore_n n, 1)) (hn : n.val < nL) (hl : (n.val, Value.int x) :: lv.filter (fun q => !(q.1 == n.val) && !(q.1 + 1 == n.val && q.2.category == 2)) = lv') (kk : nP X D A nL (pc + 1) lv' st ws ce sl) : nP X D A nL pc lv (Value.int x :: st) ws ce sl := fun H locs _ hP hD hS h => lv_istore_n hc.1 hc.2.1 d rfl h hn hl (fun ls' h' => kk H locs ls' hP hD hS h')
theorem n_astore_n (hc : nOk X D tys A own cc nL ret mc ms K) {n : Fin 4} {x : Nat} (lv' : List (Nat × Value)) (d : decode cc pc = .ok (.astore_n n, 1)) (hn : n.val < nL) (hl : (n.val, Value.ref x) :: lv.filter (fun q => !(q.1 == n.val) && !(q.1 + 1 == n.val && q.2.category == 2)) = lv') (kk : nP X D A nL (pc + 1) lv' st ws ce sl) : nP X D A nL pc lv (Value.ref x :: st) ws ce sl := fun H locs _ hP hD hS h => lv_astore_n hc.1 hc.2.1 d rfl h hn hl (fun ls' h' => kk H locs ls' hP hD hS h')
theorem n_iinc (hc : nOk X D tys A own cc nL ret mc ms K) (k : Nat) {i : Nat} {n : Int} {x v : Int32} (lv' : List (Nat × Value)) (d : decode cc pc = .ok (.iinc i n, 3)) (hk : lv[k]? = some (i, .int x)) (hv : x + Int32.ofInt n = v) (hn : i < nL) (hl : (i, Value.int v) :: lv.filter (fun q => !(q.1 == i) && !(q.1 + 1 == i && q.2.category == 2)) = lv') (kk : nP X D A nL (pc + 3) lv' st ws ce sl) : nP X D A nL pc lv st ws ce sl := fun H locs _ hP hD hS h => lv_iinc hc.1 hc.2.1 d h hk hv hn hl (fun ls' h' => kk H locs ls' hP hD hS h')
theorem n_goto (hc : nOk X D tys A own cc nL ret mc ms K) {off : Int} (tgt : Nat) (d : decode cc pc = .ok (.goto off, 3)) (ht : (pc : Int) + off = (tgt : Int)) (kk : nP X D A nL tgt lv st ws ce sl) : nP X D A nL pc lv st ws ce sl := fun H locs ls hP hD hS hl => lv_goto hc.1 hc.2.1 d ht (kk H locs ls hP hD hS hl)
theorem n_ic_ge (hc : nOk X D tys A own cc nL ret mc ms K) {x y : Int32} {off : Int} (tgt : Nat) (d : decode cc pc = .ok (.if_icmp .ge off, 3)) (ht : (pc : Int) + off = (tgt : Int)) (kt : y ≤ x → nP X D A nL tgt lv st ws ce sl) (kf : ¬ y ≤ x → nP X D A nL (pc + 3) lv st ws ce sl) : nP X D A nL pc lv (.int y :: .int x :: st) ws ce sl := fun H locs ls hP hD hS hl => lv_icmp_ge hc.1 hc.2.1 d ht (fun q => kt q H locs ls hP hD hS hl) (fun q => kf q H locs ls hP hD hS hl)
theorem n_obj (hc : nOk X D tys A own cc nL ret mc ms K) {idx x : Nat} (hlk : Cond.methodLink own idx objectInit ∈ kT) (hK : 1 ≤ K) (hrest : (rest.map fun v => v.category).sum ≤ 8) (d : decode cc pc = .ok (.invokespecial idx, 3)) (kk : nP X D A nL (pc + 3) lv rest ws ce sl) : nP X D A nL pc lv (.ref x :: rest) ws ce sl := by
  intro H locs ls hP hD hS hl
  refine W.objInit hc.1 hc.2.1 hc.2.2.2.2.1 (hc.2.2.2.2.2.1 _ hlk) (hc.2.2.2.2.2.1 _ wi_O_init) (hc.2.2.2.2.2.1 _ wc_O_init) rfl (by rw [hc.2.2.2.1]; exact hl.1) rfl d (Nat.le_trans hK hc.2.2.2.2.2.2.2.2.2.2.1) (Nat.le_trans ?_ hc.2.2.2.2.2.2.2.2.2.2.2) ?_
  · have e := lv_room (m := kXm X) (pc := pc) (ls := ls) (rest := Value.ref x :: rest) hrest
    omega
  · exact kk H locs ls hP hD hS hl
theorem n_new (hc : nOk X D tys A own cc nL ret mc ms K) {C : String} {T : u_T} {N ci idx : Nat} {ty : Nat → FieldType} {fs : List Value} (hin : ∀ w ∈ u_ws C T N, w ∈ kT) (hty : ∀ k, k < N → parseFieldDescriptor (T k).2.2.1 = some (ty k)) (hcl : Cond.classLink own idx C ∈ kT) (hins : Cond.instantiable C N ∈ kT) (hini : Cond.initialized C ∈ kT) (hq : vwCl[ci]? = some (C, T, N)) (hfs : ∀ j, j < N → defaultValue (ty j) = vp_V fs j) (h1 : ce + 1 ≤ mc) (h2 : sl + N ≤ ms) (d : decode cc pc = .ok (.new idx, 3)) (kk : ∀ q : Nat, nP X D A nL (pc + 3) lv (.ref q :: st) (ws ++ [(q, .inr (ci, fs))]) (ce + 1) (sl + N)) : nP X D A nL pc lv st ws ce sl :=
  fun H locs ls hP hD hS hl => va_new (ci := ci) (fs := fs) (C := C) (T := T) (N := N) hc.1 hc.2.1 hc.2.2.2.2.2.1 hin ty hty hc.2.2.2.2.1 (hc.2.2.2.2.2.1 _ hcl) (hc.2.2.2.2.2.1 _ hins) (hc.2.2.2.2.2.1 _ hini) hc.2.2.2.2.2.2.1 hP hD hS hc.2.2.2.2.2.2.2.2.1 hq hfs (Nat.le_trans h1 hc.2.2.2.2.2.2.2.2.2.1.1) (Nat.le_trans h2 hc.2.2.2.2.2.2.2.2.2.1.2) d (fun q H1 hP1 hD1 hS1 => kk q H1 locs ls hP1 hD1 hS1 hl)
theorem n_newI (hc : nOk X D tys A own cc nL ret mc ms K) {cI : ClassId} (ht : tys[0]? = some (cI, .int)) {n : Int32} {N : Nat} (hn : ¬ n < 0) (hN : n.toNatClampNeg = N) (hb : N * componentBytes .int ≤ 536870912) (h1 : ce + 1 ≤ mc) (h2 : sl + N ≤ ms) (d : decode cc pc = .ok (.newarray .int, 2)) (kk : ∀ q : Nat, nP X D A nL (pc + 2) lv (.ref q :: st) (ws ++ [(q, .inl (cI, N, .inl (fun _ => 0)))]) (ce + 1) (sl + N)) : nP X D A nL pc lv (.int n :: st) ws ce sl := by
  intro H locs ls hP hD hS hl
  refine va_newa (atype := .int) (a0 := (N, .inl (fun _ => 0))) (ty := .int) hc.1 hc.2.1 (hc.2.2.2.2.2.1 _ wy_int) rfl hc.2.2.2.2.2.2.1 hP hD hS hc.2.2.2.2.2.2.2.2.1 (fun cA => rfl) hn hN hb (Nat.le_trans h1 hc.2.2.2.2.2.2.2.2.2.1.1) (Nat.le_trans h2 hc.2.2.2.2.2.2.2.2.2.1.2) d (fun q cA H1 hK1 hP1 hD1 hS1 => ?_)
  have e1 := (hK1.2 tys.length (cA, .int) (by simp)).2
  have e2 := (hc.2.2.2.2.2.2.1.2 0 _ ht).2
  have e : cA = cI := Option.some.inj (e1.symm.trans e2)
  subst e
  exact kk q H1 locs ls hP1 hD1 hS1 hl
theorem n_newZ (hc : nOk X D tys A own cc nL ret mc ms K) {cZ : ClassId} (ht : tys[1]? = some (cZ, .boolean)) {n : Int32} {N : Nat} (hn : ¬ n < 0) (hN : n.toNatClampNeg = N) (hb : N * componentBytes .boolean ≤ 536870912) (h1 : ce + 1 ≤ mc) (h2 : sl + N ≤ ms) (d : decode cc pc = .ok (.newarray .boolean, 2)) (kk : ∀ q : Nat, nP X D A nL (pc + 2) lv (.ref q :: st) (ws ++ [(q, .inl (cZ, N, .inl (fun _ => 0)))]) (ce + 1) (sl + N)) : nP X D A nL pc lv (.int n :: st) ws ce sl := by
  intro H locs ls hP hD hS hl
  refine va_newa (atype := .boolean) (a0 := (N, .inl (fun _ => 0))) (ty := .boolean) hc.1 hc.2.1 (hc.2.2.2.2.2.1 _ wy_boolean) rfl hc.2.2.2.2.2.2.1 hP hD hS hc.2.2.2.2.2.2.2.2.1 (fun cA => rfl) hn hN hb (Nat.le_trans h1 hc.2.2.2.2.2.2.2.2.2.1.1) (Nat.le_trans h2 hc.2.2.2.2.2.2.2.2.2.1.2) d (fun q cA H1 hK1 hP1 hD1 hS1 => ?_)
  have e1 := (hK1.2 tys.length (cA, .boolean) (by simp)).2
  have e2 := (hc.2.2.2.2.2.2.1.2 1 _ ht).2
  have e : cA = cZ := Option.some.inj (e1.symm.trans e2)
  subst e
  exact kk q H1 locs ls hP1 hD1 hS1 hl
theorem n_newq (hc : nOk X D tys A own cc nL ret mc ms K) {C : String} {idx t0 : Nat} {cR : ClassId} (ht : tys[t0]? = some (cR, .object C)) (hcl : Cond.classLink own idx C ∈ kT) (hao : va_AO C (kXs X)) {n : Int32} {N : Nat} (hn : ¬ n < 0) (hN : n.toNatClampNeg = N) (hb : N * 4 ≤ 536870912) (h1 : ce + 1 ≤ mc) (h2 : sl + N ≤ ms) (d : decode cc pc = .ok (.anewarray idx, 3)) (kk : ∀ q : Nat, nP X D A nL (pc + 3) lv (.ref q :: st) (ws ++ [(q, .inl (cR, N, .inr (.inr (.inr (.inr (fun _ => none))))))]) (ce + 1) (sl + N)) : nP X D A nL pc lv (.int n :: st) ws ce sl := by
  intro H locs ls hP hD hS hl
  refine va_newq hc.1 hc.2.1 hc.2.2.2.2.1 (hc.2.2.2.2.2.1 _ hcl) hao hc.2.2.2.2.2.2.1 hP hD hS hc.2.2.2.2.2.2.2.2.1 hn hN hb (Nat.le_trans h1 hc.2.2.2.2.2.2.2.2.2.1.1) (Nat.le_trans h2 hc.2.2.2.2.2.2.2.2.2.1.2) d (fun q cA H1 hK1 hP1 hD1 hS1 => ?_)
  obtain ⟨_, _, _, _, _, e1⟩ := (hK1.2 tys.length (cA, .object C) (by simp)).2
  obtain ⟨_, _, _, _, _, e2⟩ := (hc.2.2.2.2.2.2.1.2 t0 _ ht).2
  have e : cA = cR := Option.some.inj (e1.symm.trans e2)
  subst e
  exact kk q H1 locs ls hP1 hD1 hS1 hl
theorem n_putF (hc : nOk X D tys A own cc nL ret mc ms K) {C : String} {T : u_T} {N ci idx a : Nat} {ty0 : Nat → FieldType} {fs : List Value} (hin : ∀ w ∈ u_ws C T N, w ∈ kT) (hty : ∀ k, k < N → parseFieldDescriptor (T k).2.2.1 = some (ty0 k)) (hnm : ∀ a, a < N → ∀ b, b < N → a ≠ b → (T a).2.1 ≠ (T b).2.1) (hq : vwCl[ci]? = some (C, T, N)) (p0 : Nat) (he : ws[p0]? = some (a, .inr (ci, fs))) (k : Nat) (hk : k < N) (hl : Cond.fieldLink own idx (T k).1 (T k).2.1 (T k).2.2.1 ∈ kT) (hfin : (T k).2.2.2 = true) (hin2 : (kXt X).name = "<init>") (hdecl : (T k).1 = own) {v : Nat} (hn : narrow (ty0 k) (.ref v) = .ref v) (hfit : fits (ty0 k) (.ref v) = true) (hfl : k < fs.length) (d : decode cc pc = .ok (.putfield idx, 3)) (ws' : va_W) (hw : ws.set p0 (a, .inr (ci, fs.set k (.ref v))) = ws') (kk : nP X D A nL (pc + 3) lv st ws' ce sl) : nP X D A nL pc lv (.ref v :: .ref a :: st) ws ce sl :=
  fun H locs ls hP hD hS hL => va_putF (D := D) (ci := ci) (v := .ref v) (ty := ty0 k) (C := C) (T := T) (N := N) hc.1 hc.2.1 hc.2.2.2.2.2.1 hin ty0 hty hnm hc.2.2.2.2.1 hc.2.2.2.2.2.2.1 hP hD hS p0 he hq k hk (hc.2.2.2.2.2.1 _ hl) (fun _ h => h) hfin hin2 hdecl (hty k hk) hn hfit hfl d (fun H1 locs1 hP1 hD1 hS1 => kk H1 locs1 ls (hw ▸ hP1) (hw ▸ hD1) hS1 hL)
theorem n_put (hc : nOk X D tys A own cc nL ret mc ms K) {C : String} {T : u_T} {N ci idx a : Nat} {ty0 : Nat → FieldType} {fs : List Value} (hin : ∀ w ∈ u_ws C T N, w ∈ kT) (hty : ∀ k, k < N → parseFieldDescriptor (T k).2.2.1 = some (ty0 k)) (hnm : ∀ a, a < N → ∀ b, b < N → a ≠ b → (T a).2.1 ≠ (T b).2.1) (hq : vwCl[ci]? = some (C, T, N)) (p0 : Nat) (he : ws[p0]? = some (a, .inr (ci, fs))) (k : Nat) (hk : k < N) (hl : Cond.fieldLink own idx (T k).1 (T k).2.1 (T k).2.2.1 ∈ kT) (hfin : (T k).2.2.2 = false) {v : Int32} (hn : narrow (ty0 k) (.int v) = .int v) (hfit : fits (ty0 k) (.int v) = true) (hfl : k < fs.length) (d : decode cc pc = .ok (.putfield idx, 3)) (ws' : va_W) (hw : ws.set p0 (a, .inr (ci, fs.set k (.int v))) = ws') (kk : nP X D A nL (pc + 3) lv st ws' ce sl) : nP X D A nL pc lv (.int v :: .ref a :: st) ws ce sl :=
  fun H locs ls hP hD hS hL => va_put (D := D) (ci := ci) (v := .int v) (ty := ty0 k) (C := C) (T := T) (N := N) hc.1 hc.2.1 hc.2.2.2.2.2.1 hin ty0 hty hnm hc.2.2.2.2.1 hc.2.2.2.2.2.2.1 hP hD hS p0 he hq k hk (hc.2.2.2.2.2.1 _ hl) (fun _ h => h) hfin (hty k hk) hn hfit hfl d (fun H1 locs1 hP1 hD1 hS1 => kk H1 locs1 ls (hw ▸ hP1) (hw ▸ hD1) hS1 hL)
theorem n_get (hc : nOk X D tys A own cc nL ret mc ms K) {C : String} {T : u_T} {N ci idx a : Nat} {fs : List Value} (hin : ∀ w ∈ u_ws C T N, w ∈ kT) (hq : vwCl[ci]? = some (C, T, N)) (p0 : Nat) (he : ws[p0]? = some (a, .inr (ci, fs))) (k : Nat) (hk : k < N) (hl : Cond.fieldLink own idx (T k).1 (T k).2.1 (T k).2.2.1 ∈ kT) {v : Value} (hv : fs[k]? = some v) (d : decode cc pc = .ok (.getfield idx, 3)) (kk : nP X D A nL (pc + 3) lv (v :: st) ws ce sl) : nP X D A nL pc lv (.ref a :: st) ws ce sl :=
  fun H locs ls hP hD hS hL => va_get (D := D) (ci := ci) (v := v) (C := C) (T := T) (N := N) hc.1 hc.2.1 hc.2.2.2.2.2.1 hin hc.2.2.2.2.1 hc.2.2.2.2.2.2.1 hP p0 he hq k hk (hc.2.2.2.2.2.1 _ hl) (fun _ h => h) hv d (kk H locs ls hP hD hS hL)
theorem n_astq (hc : nOk X D tys A own cc nL ret mc ms K) {a v n ci : Nat} {cR : ClassId} {r : vw_C} {vs : List Value} {f : Nat → Option Nat} (p0 t0 pk : Nat) (ha : ws[p0]? = some (a, .inl (cR, n, .inr (.inr (.inr (.inr f)))))) (ht : tys[t0]? = some (cR, .object r.1)) (hv : ws[pk]? = some (v, .inr (ci, vs))) (hq : vwCl[ci]? = some r) {i : Int32} {j : Nat} (hj : i.toNatClampNeg = j) (hin : vp_in i n) (d : decode cc pc = .ok (.aastore, 1)) (ws' : va_W) (hw : ws.set p0 (a, .inl (cR, n, .inr (.inr (.inr (.inr (va_up f j (some v))))))) = ws') (kk : nP X D A nL (pc + 1) lv st ws' ce sl) : nP X D A nL pc lv (.ref v :: .int i :: .ref a :: st) ws ce sl := by
  subst hj
  exact fun H locs ls hP hD hS hL => va_astq hc.1 hc.2.1 hc.2.2.2.2.2.2.1 hP hD hS p0 t0 pk ci ha ht hv hq hin d (fun H1 locs1 hP1 hD1 hS1 => kk H1 locs1 ls (hw ▸ hP1) (hw ▸ hD1) hS1 hL)
theorem n_iast (hc : nOk X D tys A own cc nL ret mc ms K) {a n : Nat} {cI : ClassId} {f : Nat → Int32} (p0 : Nat) (ha : ws[p0]? = some (a, .inl (cI, n, .inl f))) (ht : tys[0]? = some (cI, .int)) {i x : Int32} {j : Nat} (hj : i.toNatClampNeg = j) (hin : vp_in i n) (d : decode cc pc = .ok (.iastore, 1)) (ws' : va_W) (hw : ws.set p0 (a, .inl (cI, n, .inl (upd f j x))) = ws') (kk : nP X D A nL (pc + 1) lv st ws' ce sl) : nP X D A nL pc lv (.int x :: .int i :: .ref a :: st) ws ce sl := by
  subst hj
  exact fun H locs ls hP hD hS hL => va_iast hc.1 hc.2.1 hc.2.2.2.2.2.2.1 hP hD hS p0 0 ha ht hin d (fun H1 locs1 hP1 hD1 hS1 => kk H1 locs1 ls (hw ▸ hP1) (hw ▸ hD1) hS1 hL)
def nRm (d mc ms : Nat) : Room := { frames := d, cells := mc, slots := ms, locals := 64 * d }
abbrev nM (l : Launch) (D : va_G) (tys : List (ClassId × FieldType)) (y : MethodName) (bytes : ByteArray) (maxL d mc ms b : Nat) (As : List Value) (wc : va_W) (S : Type) (w1 : S → va_W) (Ex : State → Prop) : Prop :=
  ∀ sz : Nat, Met l y (kws y bytes maxL none) (nRm d mc ms) (va_Pc (.ref b :: As) (fun U => U.heap.size = sz ∧ va_P D vwCl wc U.heap ∧ va_K D vwCl tys U ∧ va_D (fun _ => True) wc ∧ Ex U)) (va_Qv (fun _ : S => True) (fun u t => va_P D vwCl (w1 u) t.heap ∧ va_D (va_A wc sz) (w1 u)) (va_A wc sz)) mc ms (va_A wc sz)
theorem nCallB (hc : nOk X D tys A own cc nL ret mc ms K) {y : MethodName} {bytes : ByteArray} {maxL d n mc' ms' idx : Nat} (cw : kCw y bytes maxL none n) (hlk : Cond.methodLink own idx y ∈ kT) (hd : d + 1 ≤ K) (hm : maxL ≤ 45) : CallB (kXR X) (kXs X) (kXa X) own idx y bytes maxL none (kws y bytes maxL none) (nRm d mc' ms') mc' ms' n := by
  have hts := hc.2.2.2.2.2.1
  refine ⟨rfl, rfl, Nat.le_trans hd hc.2.2.2.2.2.2.2.2.2.2.1, Nat.le_trans ?_ hc.2.2.2.2.2.2.2.2.2.2.2, fun w hw a' U hW => ?_, List.mem_cons_self, hts _ cw.1, hts _ cw.2.1, cw.2.2.1, fun sig h => ?_, hts _ hlk⟩
  · show 8 + (maxL + 11) + 64 * d ≤ 64 * K
    omega
  · have hw' : w ∈ kT := by
      rcases List.mem_cons.mp hw with rfl | h
      · exact cw.1
      · exact h
    exact word_at hW (good_of_word (kg_all hw')) (hts w hw')
  · have h2 := cw.2.2.2
    rw [h] at h2
    exact (Option.some.inj h2).symm
theorem nCallN (hc : nOk X D tys A own cc nL ret mc ms K) {y : MethodName} {bytes : ByteArray} {maxL d n mc' ms' idx : Nat} {host : String} (cw : kCw y bytes maxL none n) (hlk : va_Nw (.methodLinkNest own idx y host) (kXs X)) (hd : d + 1 ≤ K) (hm : maxL ≤ 45) : va_CN (kXR X) (kXs X) (kXa X) own idx y host bytes maxL none (kws y bytes maxL none) (nRm d mc' ms') mc' ms' n := by
  have hts := hc.2.2.2.2.2.1
  refine ⟨⟨rfl, rfl, Nat.le_trans hd hc.2.2.2.2.2.2.2.2.2.2.1, Nat.le_trans ?_ hc.2.2.2.2.2.2.2.2.2.2.2, fun w hw a' U hW => ?_, List.mem_cons_self⟩, hts _ cw.1, hts _ cw.2.1, cw.2.2.1, fun sig h => ?_, va_Nw.use rfl hlk⟩
  · show 8 + (maxL + 11) + 64 * d ≤ 64 * K
    omega
  · have hw' : w ∈ kT := by
      rcases List.mem_cons.mp hw with rfl | h
      · exact cw.1
      · exact h
    exact word_at hW (good_of_word (kg_all hw')) (hts w hw')
  · have h2 := cw.2.2.2
    rw [h] at h2
    exact (Option.some.inj h2).symm

theorem n_ctor (hc : nOk X D tys A own cc nL ret mc ms K) {y : MethodName} {bytes : ByteArray} {maxL d n mc' ms' idx b : Nat} {As : List Value} {wc wr : va_W} {S : Type} {w1 : S → va_W} {Ex : State → Prop} (hM : nM (kXl X) D tys y bytes maxL d mc' ms' b As wc S w1 Ex) (cw : kCw y bytes maxL none n) (hi : Cond.instanceMethod y ∈ kT) (hy : y.name = "<init>") (hlk : Cond.methodLink own idx y ∈ kT) (hd : d + 1 ≤ K) (hm : maxL ≤ 45) (hEB : ∀ (U : State) (f : JFrame) (mk : MethodId) (a : Array Value), Ex U → Ex (U.calling f mk a)) (hEW : ∀ U : State, (kXs X).WarmedH U.vm → Ex U) (isC isR : List Nat) (hC1 : isC.filterMap (fun i => ws[i]?) = wc) (hC : isC.map (fun i => ws[i]?) = wc.map some) (hR : isR.map (fun i => ws[i]?) = wr.map some) (hnC : va_nd isC = true) (hnR : va_nd isR = true) (hdis : ∀ i ∈ isR, i ∉ isC) (hn : As.length = n) (hst : st = As.reverse ++ .ref b :: rest) (hrest : (rest.map fun v => v.category).sum ≤ 8) (h1 : ce + mc' ≤ mc) (h2 : sl + ms' ≤ ms) (dd : decode cc pc = .ok (.invokespecial idx, 3)) (kk : ∀ u : S, nP X D A nL (pc + 3) lv rest (wr ++ w1 u) (ce + mc') (sl + ms')) : nP X D A nL pc lv st ws ce sl := by
  intro H locs ls hP hD hS hl
  subst hst
  have hPc : va_P D vwCl wc H := hP.sub isC hC1
  have hDc : va_D A wc := hD.sub isC hnC hC
  have hFc := va_free hD hS hc.2.2.2.2.2.2.2.2.1 isC hC
  refine va_callv (va_runI (As := As) (rest := rest) ⟨hc.1, hc.2.1, hc.2.2.2.1, hc.2.2.2.2.1, hc.2.2.2.2.2.1⟩ (hM H.size) ⟨nCallB hc cw hlk hd hm, hy, hc.2.2.2.2.2.1 _ hi⟩ ⟨fun a U f mk q => ⟨q.1, q.2.1, q.2.2.1, va_K.moved (u := U) (U := U.calling f mk a) (Vm.Alike.refl U.vm) q.2.2.2.1, q.2.2.2.2.1, hEB U f mk a q.2.2.2.2.2⟩, fun U hU hW => ⟨rfl, by rw [hU], by rw [hU]; exact hPc, va_K.moved hW.alike hc.2.2.2.2.2.2.1, hDc.weaken (fun _ _ _ _ => trivial), hEW U hW⟩⟩ rfl hn hl.1 rfl (lv_room hrest) dd ⟨Nat.le_trans h1 hc.2.2.2.2.2.2.2.2.2.1.1, Nat.le_trans h2 hc.2.2.2.2.2.2.2.2.2.1.2⟩) hS (fun q _ h => hFc q h) hFc (fun u t H1 locs1 ht hvm hq hB hz hk hS1 => ?_)
  obtain ⟨hP1, hD1⟩ := hB
  rw [ht] at hP1
  obtain ⟨hP2, hD2⟩ := va_join (wr := wr) (w1 := w1 u) hP hD isC isR hC hR hnR hdis hk hFc hP1 hD1
  exact kk u H1 locs1 ls hP2 hD2 hS1 hl
theorem n_ctorN (hc : nOk X D tys A own cc nL ret mc ms K) {y : MethodName} {bytes : ByteArray} {maxL d n mc' ms' idx b : Nat} {As : List Value} {wc wr : va_W} {S : Type} {w1 : S → va_W} {Ex : State → Prop} (hM : nM (kXl X) D tys y bytes maxL d mc' ms' b As wc S w1 Ex) (cw : kCw y bytes maxL none n) (hi : Cond.instanceMethod y ∈ kT) (hy : y.name = "<init>") {host : String} (hlk : va_Nw (.methodLinkNest own idx y host) (kXs X)) (hd : d + 1 ≤ K) (hm : maxL ≤ 45) (hEB : ∀ (U : State) (f : JFrame) (mk : MethodId) (a : Array Value), Ex U → Ex (U.calling f mk a)) (hEW : ∀ U : State, (kXs X).WarmedH U.vm → Ex U) (isC isR : List Nat) (hC1 : isC.filterMap (fun i => ws[i]?) = wc) (hC : isC.map (fun i => ws[i]?) = wc.map some) (hR : isR.map (fun i => ws[i]?) = wr.map some) (hnC : va_nd isC = true) (hnR : va_nd isR = true) (hdis : ∀ i ∈ isR, i ∉ isC) (hn : As.length = n) (hst : st = As.reverse ++ .ref b :: rest) (hrest : (rest.map fun v => v.category).sum ≤ 8) (h1 : ce + mc' ≤ mc) (h2 : sl + ms' ≤ ms) (dd : decode cc pc = .ok (.invokespecial idx, 3)) (kk : ∀ u : S, nP X D A nL (pc + 3) lv rest (wr ++ w1 u) (ce + mc') (sl + ms')) : nP X D A nL pc lv st ws ce sl := by
  intro H locs ls hP hD hS hl
  subst hst
  have hPc : va_P D vwCl wc H := hP.sub isC hC1
  have hDc : va_D A wc := hD.sub isC hnC hC
  have hFc := va_free hD hS hc.2.2.2.2.2.2.2.2.1 isC hC
  refine va_callv (va_runIN (As := As) (rest := rest) ⟨hc.1, hc.2.1, hc.2.2.2.1, hc.2.2.2.2.1, hc.2.2.2.2.2.1⟩ (hM H.size) ⟨nCallN hc cw hlk hd hm, hy, hc.2.2.2.2.2.1 _ hi⟩ ⟨fun a U f mk q => ⟨q.1, q.2.1, q.2.2.1, va_K.moved (u := U) (U := U.calling f mk a) (Vm.Alike.refl U.vm) q.2.2.2.1, q.2.2.2.2.1, hEB U f mk a q.2.2.2.2.2⟩, fun U hU hW => ⟨rfl, by rw [hU], by rw [hU]; exact hPc, va_K.moved hW.alike hc.2.2.2.2.2.2.1, hDc.weaken (fun _ _ _ _ => trivial), hEW U hW⟩⟩ rfl hn hl.1 rfl (lv_room hrest) dd ⟨Nat.le_trans h1 hc.2.2.2.2.2.2.2.2.2.1.1, Nat.le_trans h2 hc.2.2.2.2.2.2.2.2.2.1.2⟩) hS (fun q _ h => hFc q h) hFc (fun u t H1 locs1 ht hvm hq hB hz hk hS1 => ?_)
  obtain ⟨hP1, hD1⟩ := hB
  rw [ht] at hP1
  obtain ⟨hP2, hD2⟩ := va_join (wr := wr) (w1 := w1 u) hP hD isC isR hC hR hnR hdis hk hFc hP1 hD1
  exact kk u H1 locs1 ls hP2 hD2 hS1 hl
end NR
def nRet (X : kX) (D : va_G) (A : Nat → Prop) (cc : ByteArray) (mc ms : Nat) {S : Type} (w1 : S → va_W) : Prop := ∀ (pc : Nat) (ls : Array Slot) (u : S) (H : Heap) (locs : List Loc), decode cc pc = .ok (.return_, 1) → va_P D vwCl (w1 u) H → va_D A (w1 u) → va_S A (kXs X).heap H locs → W X.1 (kXl X) (kXe X) (kXR X) (kXs X) (kXm X) (kXa X) (kXb X) (kXt X) (kXc X) H locs mc ms (kXZ X) (F0 (kXm X) pc ls [])
theorem n_ret {X : kX} {D : va_G} {A : Nat → Prop} {cc : ByteArray} {nL pc mc ms : Nat} {lv : List (Nat × Value)} {ws : va_W} {S : Type} {w1 : S → va_W} (hZ : nRet X D A cc mc ms w1) (u : S) (d : decode cc pc = .ok (.return_, 1)) (hw : ws = w1 u) : nP X D A nL pc lv [] ws mc ms := fun H locs ls hP hD hS _ => hZ pc ls u H locs d (hw ▸ hP) (hw ▸ hD) hS
theorem n_retP {X : kX} {D : va_G} {A : Nat → Prop} {cc : ByteArray} {nL pc mc ms : Nat} {lv : List (Nat × Value)} {ws : va_W} {S : Type} {w1 : S → va_W} (hZ : nRet X D A cc mc ms w1) (u : S) (d : decode cc pc = .ok (.return_, 1)) (hw : ∀ H, va_P D vwCl ws H → va_P D vwCl (w1 u) H) (hw2 : va_D A ws → va_D A (w1 u)) : nP X D A nL pc lv [] ws mc ms := fun H locs ls hP hD hS _ => hZ pc ls u H locs d (hw H hP) (hw2 hD) hS
theorem n_met {l : Launch} {D : va_G} {tys : List (ClassId × FieldType)} {y : MethodName} {own : String} {bytes : ByteArray} {maxL d mc ms b : Nat} {As : List Value} {wc : va_W} {S : Type} {w1 : S → va_W} {Ex : State → Prop} (hy : plainName y.cls = true) (hown : y.cls = own) (hyn : y.name = "<init>") (hlen : (lg_sl (.ref b :: As)).length ≤ maxL) (body : ∀ (X : kX) (A : Nat → Prop), kXl X = l → nOk X D tys A own bytes maxL none mc ms d → (kXt X).name = "<init>" → Ex (kXs X) → nRet X D A bytes mc ms w1 → nP X D A maxL 0 (lv_args 0 (.ref b :: As)) [] wc 0 0) : nM l D tys y bytes maxL d mc ms b As wc S w1 Ex := by
  intro sz
  refine Met.ofW (cc := bytes) (maxL := maxL) (ret := none) hy rfl ?_
  intro p e s m args below meth c s₁ B hml hv
  obtain ⟨rfl, hsz, hP, hK, hD0, hE⟩ := hv
  have hts := atoms_spec (ws := kws y bytes maxL none) B.pre
  have hr := B.returns
  have hlocks := B.notSynchronized
  have hin : meth.name = "<init>" := (name_of_methodNamed B.named B.method).1.trans hyn
  subst hsz
  have hD := hD0.self (sz := s.heap.size)
  rw [lg_entry_eq]
  exact body (p, l, e, (headSpec (kws y bytes maxL none) (nRm d mc ms)).room, s, m, (Value.ref b :: As).toArray, below, meth, c, mc, ms, MQ below (va_Qv (fun _ : S => True) (fun u t => va_P D vwCl (w1 u) t.heap ∧ va_D (va_A wc s.heap.size) (w1 u)) (va_A wc s.heap.size)) (Value.ref b :: As).toArray s mc ms (va_A wc s.heap.size)) (va_A wc s.heap.size) rfl
    ⟨B.exec, B.bytes, hr, hml, hown ▸ findClass_of_methodNamed B.named, fun w h => hts w (List.mem_cons_of_mem _ h), hK, hlocks, fun q h => Or.inr h, ⟨Nat.le_refl _, Nat.le_refl _⟩, ⟨Nat.le_refl _, Nat.le_refl _⟩⟩ hin hE
    (fun pc ls u H locs dd hP hD hS => W.vret B.exec B.bytes hr (fun t ht hW => ⟨⟨u, rfl, trivial, by rw [ht]; exact hP, hD⟩, hS.F ht⟩) hS.2.2 dd hlocks)
    s.heap [] _ hP hD va_S.rf (lv_entry (.ref b :: As) hlen)

