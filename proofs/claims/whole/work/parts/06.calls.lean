/-! ===== a method's contract, a call ===== -/
def kRm (d : Nat) : Room := { frames := d, cells := 0, slots := 0, locals := 64 * d }
abbrev kws (y : MethodName) (bytes : ByteArray) (maxL : Nat) (rt : Option FieldType) : List Cond := Cond.code y bytes maxL rt :: kT
def kPre (g : kG) (σ : kS) : State → Prop := fun U => va_P g.1 vwCl (kW g σ) U.heap ∧ kEn g U U.heap
abbrev kB (g : kG) : kS → State → Prop := fun u t => va_P g.1 vwCl (kW g u) t.heap
abbrev kMi (l : Launch) (g : kG) (y : MethodName) (bytes : ByteArray) (maxL : Nat) (rt : Option FieldType) (d : Nat) (As : List Value) (σ : kS) (Q : Int32 → kS → Prop) : Prop := Met l y (kws y bytes maxL rt) (kRm d) (va_Pc As (kPre g σ)) (va_Qi Q (kB g) (kA g)) 0 0 (kA g)
abbrev kMl (l : Launch) (g : kG) (y : MethodName) (bytes : ByteArray) (maxL : Nat) (rt : Option FieldType) (d : Nat) (As : List Value) (σ : kS) (Q : Int64 → kS → Prop) : Prop := Met l y (kws y bytes maxL rt) (kRm d) (va_Pc As (kPre g σ)) (va_Ql Q (kB g) (kA g)) 0 0 (kA g)
abbrev kMv (l : Launch) (g : kG) (y : MethodName) (bytes : ByteArray) (maxL : Nat) (rt : Option FieldType) (d : Nat) (As : List Value) (σ : kS) (Q : kS → Prop) : Prop := Met l y (kws y bytes maxL rt) (kRm d) (va_Pc As (kPre g σ)) (va_Qv Q (kB g) (kA g)) 0 0 (kA g)
theorem kPre_blind {g : kG} {σ : kS} {As : List Value} : FrameBlind (va_Pc As (kPre g σ)) := fun a U f mk q => ⟨q.1, q.2.1, kEn.moved (u := U) (U := U.calling f mk a) (Vm.Alike.refl U.vm) q.2.2⟩
def kCw (y : MethodName) (bytes : ByteArray) (maxL : Nat) (rt : Option FieldType) (n : Nat) : Prop := Cond.code y bytes maxL rt ∈ kT ∧ Cond.initialized y.cls ∈ kT ∧ (y.cls ≠ "java/lang/invoke/MethodHandle" ∧ y.cls ≠ "java/lang/invoke/VarHandle") ∧ (parseMethodDescriptor y.desc).map (fun d => d.parameters.length) = some n
/-- the cell c is an object of the class C -/
def kRv (g : kG) (σ : kS) (c : Nat) (C : String) : Prop := c < 69 ∧ ∃ (ci : Nat) (q : vw_C) (fs : List Value), q.1 = C ∧ vwCl[ci]? = some q ∧ kcell g c (σ c) = .inr (ci, fs)
def kRi (X : kX) (g : kG) (cc : ByteArray) (Q : Int32 → kS → Prop) : Prop := ∀ (pc : Nat) (ls : Array Slot) (r : Int32) (σ : kS) (H : Heap) (locs : List Loc), decode cc pc = .ok (.ireturn, 1) → Q r σ → va_P g.1 vwCl (kW g σ) H → va_S (kA g) (kXs X).heap H locs → kWW X H locs (F0 (kXm X) pc ls [.int r])
def kRz (X : kX) (g : kG) (cc : ByteArray) (Q : Int32 → kS → Prop) : Prop := ∀ (pc : Nat) (ls : Array Slot) (r : Int32) (σ : kS) (H : Heap) (locs : List Loc), decode cc pc = .ok (.ireturn, 1) → (r = 0 ∨ r = 1) → Q r σ → va_P g.1 vwCl (kW g σ) H → va_S (kA g) (kXs X).heap H locs → kWW X H locs (F0 (kXm X) pc ls [.int r])
def kRl (X : kX) (g : kG) (cc : ByteArray) (Q : Int64 → kS → Prop) : Prop := ∀ (pc : Nat) (ls : Array Slot) (r : Int64) (σ : kS) (H : Heap) (locs : List Loc), decode cc pc = .ok (.lreturn, 1) → Q r σ → va_P g.1 vwCl (kW g σ) H → va_S (kA g) (kXs X).heap H locs → kWW X H locs (F0 (kXm X) pc ls [.long r])
def kRw (X : kX) (g : kG) (cc : ByteArray) (Q : kS → Prop) : Prop := ∀ (pc : Nat) (ls : Array Slot) (σ : kS) (H : Heap) (locs : List Loc), decode cc pc = .ok (.return_, 1) → Q σ → va_P g.1 vwCl (kW g σ) H → va_S (kA g) (kXs X).heap H locs → kWW X H locs (F0 (kXm X) pc ls [])
theorem kif_t {c A B : Prop} [Decidable c] (h : if c then A else B) (q : c) : A := by rwa [if_pos q] at h
theorem kif_f {c A B : Prop} [Decidable c] (h : if c then A else B) (q : ¬ c) : B := by rwa [if_neg q] at h
theorem ktne {x y : Int32} (h : ¬ x = y) : x.toInt ≠ y.toInt := fun e => h (Int32.toInt_inj.mp e)
section KM
variable {l : Launch} {g : kG} {y : MethodName} {own : String} {bytes : ByteArray} {maxL d : Nat} {As : List Value} {σ : kS}
theorem k_met_i {Q : Int32 → kS → Prop} (hy : plainName y.cls = true) (hown : y.cls = own) (hlen : (lg_sl As).length ≤ maxL) (body : ∀ X : kX, kXl X = l → kOk X g own bytes maxL (some .int) d → kRi X g bytes Q → kP X g maxL 0 (lv_args 0 As) [] σ) : kMi l g y bytes maxL (some .int) d As σ Q := by
  refine Met.ofW (cc := bytes) (maxL := maxL) (ret := some .int) hy rfl ?_
  intro p e s m args below meth c s₁ B hml hv
  obtain ⟨rfl, hP, hE⟩ := hv
  have hts := atoms_spec (ws := kws y bytes maxL (some .int)) B.pre
  have hr := B.returns
  have hlocks := B.notSynchronized
  rw [lg_entry_eq]
  exact body (p, l, e, (headSpec (kws y bytes maxL (some .int)) (kRm d)).room, s, m, As.toArray, below, meth, c, 0, 0, MQ below (va_Qi Q (kB g) (kA g)) As.toArray s 0 0 (kA g)) rfl
    ⟨B.exec, B.bytes, hr, hml, hown ▸ findClass_of_methodNamed B.named, fun w h => hts w (List.mem_cons_of_mem _ h), hE, hlocks, ⟨Nat.zero_le _, Nat.zero_le _⟩, ⟨Nat.le_refl _, Nat.le_refl _⟩⟩
    (fun pc ls r σ H locs dd hq hP hS => W.iret (v := r) B.exec B.bytes hr (fun t ht hW => ⟨⟨r, σ, rfl, hq, by show va_P _ _ _ t.heap; rw [ht]; exact hP⟩, hS.F ht⟩) hS.2.2 dd hlocks)
    s.heap [] _ hP va_S.rf (lv_entry As hlen)
theorem k_met_z {Q : Int32 → kS → Prop} (hy : plainName y.cls = true) (hown : y.cls = own) (hlen : (lg_sl As).length ≤ maxL) (body : ∀ X : kX, kXl X = l → kOk X g own bytes maxL (some .boolean) d → kRz X g bytes Q → kP X g maxL 0 (lv_args 0 As) [] σ) : kMi l g y bytes maxL (some .boolean) d As σ Q := by
  refine Met.ofW (cc := bytes) (maxL := maxL) (ret := some .boolean) hy rfl ?_
  intro p e s m args below meth c s₁ B hml hv
  obtain ⟨rfl, hP, hE⟩ := hv
  have hts := atoms_spec (ws := kws y bytes maxL (some .boolean)) B.pre
  have hr := B.returns
  have hlocks := B.notSynchronized
  rw [lg_entry_eq]
  exact body (p, l, e, (headSpec (kws y bytes maxL (some .boolean)) (kRm d)).room, s, m, As.toArray, below, meth, c, 0, 0, MQ below (va_Qi Q (kB g) (kA g)) As.toArray s 0 0 (kA g)) rfl
    ⟨B.exec, B.bytes, hr, hml, hown ▸ findClass_of_methodNamed B.named, fun w h => hts w (List.mem_cons_of_mem _ h), hE, hlocks, ⟨Nat.zero_le _, Nat.zero_le _⟩, ⟨Nat.le_refl _, Nat.le_refl _⟩⟩
    (fun pc ls r σ H locs dd hb hq hP hS => W.zret (v := r) (ty := .boolean) B.exec B.bytes hr (by rcases hb with rfl | rfl <;> rfl) (fun t ht hW => ⟨⟨r, σ, rfl, hq, by show va_P _ _ _ t.heap; rw [ht]; exact hP⟩, hS.F ht⟩) hS.2.2 dd hlocks)
    s.heap [] _ hP va_S.rf (lv_entry As hlen)
theorem k_met_l {Q : Int64 → kS → Prop} (hy : plainName y.cls = true) (hown : y.cls = own) (hlen : (lg_sl As).length ≤ maxL) (body : ∀ X : kX, kXl X = l → kOk X g own bytes maxL (some .long) d → kRl X g bytes Q → kP X g maxL 0 (lv_args 0 As) [] σ) : kMl l g y bytes maxL (some .long) d As σ Q := by
  refine Met.ofW (cc := bytes) (maxL := maxL) (ret := some .long) hy rfl ?_
  intro p e s m args below meth c s₁ B hml hv
  obtain ⟨rfl, hP, hE⟩ := hv
  have hts := atoms_spec (ws := kws y bytes maxL (some .long)) B.pre
  have hr := B.returns
  have hlocks := B.notSynchronized
  rw [lg_entry_eq]
  exact body (p, l, e, (headSpec (kws y bytes maxL (some .long)) (kRm d)).room, s, m, As.toArray, below, meth, c, 0, 0, MQ below (va_Ql Q (kB g) (kA g)) As.toArray s 0 0 (kA g)) rfl
    ⟨B.exec, B.bytes, hr, hml, hown ▸ findClass_of_methodNamed B.named, fun w h => hts w (List.mem_cons_of_mem _ h), hE, hlocks, ⟨Nat.zero_le _, Nat.zero_le _⟩, ⟨Nat.le_refl _, Nat.le_refl _⟩⟩
    (fun pc ls r σ H locs dd hq hP hS => W.lret (v := r) B.exec B.bytes hr (fun t ht hW => ⟨⟨r, σ, rfl, hq, by show va_P _ _ _ t.heap; rw [ht]; exact hP⟩, hS.F ht⟩) hS.2.2 dd hlocks)
    s.heap [] _ hP va_S.rf (lv_entry As hlen)
theorem k_met_v {Q : kS → Prop} (hy : plainName y.cls = true) (hown : y.cls = own) (hlen : (lg_sl As).length ≤ maxL) (body : ∀ X : kX, kXl X = l → kOk X g own bytes maxL none d → kRw X g bytes Q → kP X g maxL 0 (lv_args 0 As) [] σ) : kMv l g y bytes maxL none d As σ Q := by
  refine Met.ofW (cc := bytes) (maxL := maxL) (ret := none) hy rfl ?_
  intro p e s m args below meth c s₁ B hml hv
  obtain ⟨rfl, hP, hE⟩ := hv
  have hts := atoms_spec (ws := kws y bytes maxL none) B.pre
  have hr := B.returns
  have hlocks := B.notSynchronized
  rw [lg_entry_eq]
  exact body (p, l, e, (headSpec (kws y bytes maxL none) (kRm d)).room, s, m, As.toArray, below, meth, c, 0, 0, MQ below (va_Qv Q (kB g) (kA g)) As.toArray s 0 0 (kA g)) rfl
    ⟨B.exec, B.bytes, hr, hml, hown ▸ findClass_of_methodNamed B.named, fun w h => hts w (List.mem_cons_of_mem _ h), hE, hlocks, ⟨Nat.zero_le _, Nat.zero_le _⟩, ⟨Nat.le_refl _, Nat.le_refl _⟩⟩
    (fun pc ls σ H locs dd hq hP hS => W.vret B.exec B.bytes hr (fun t ht hW => ⟨⟨σ, rfl, hq, by show va_P _ _ _ t.heap; rw [ht]; exact hP⟩, hS.F ht⟩) hS.2.2 dd hlocks)
    s.heap [] _ hP va_S.rf (lv_entry As hlen)
end KM
section KC
variable {X : kX} {g : kG} {own : String} {cc : ByteArray} {nL D : Nat} {ret : Option FieldType} {pc : Nat} {lv lv' : List (Nat × Value)} {st rest : List Value} {σ : kS}
theorem r_iret {ls0 : List (Nat × Value)} {Q : Int32 → kS → Prop} (hZ : kRi X g cc Q) {r : Int32} (d : decode cc pc = .ok (.ireturn, 1)) (h : Q r σ) : kP X g nL pc lv [.int r] σ := fun H locs ls hP hS _ => hZ pc ls r σ H locs d h hP hS
theorem r_zret {ls0 : List (Nat × Value)} {Q : Int32 → kS → Prop} (hZ : kRz X g cc Q) {r : Int32} (d : decode cc pc = .ok (.ireturn, 1)) (hb : r = 0 ∨ r = 1) (h : Q r σ) : kP X g nL pc lv [.int r] σ := fun H locs ls hP hS _ => hZ pc ls r σ H locs d hb h hP hS
theorem r_lret {ls0 : List (Nat × Value)} {Q : Int64 → kS → Prop} (hZ : kRl X g cc Q) {r : Int64} (d : decode cc pc = .ok (.lreturn, 1)) (h : Q r σ) : kP X g nL pc lv [.long r] σ := fun H locs ls hP hS _ => hZ pc ls r σ H locs d h hP hS
theorem r_vret {ls0 : List (Nat × Value)} {Q : kS → Prop} (hZ : kRw X g cc Q) (d : decode cc pc = .ok (.return_, 1)) (h : Q σ) : kP X g nL pc lv [] σ := fun H locs ls hP hS _ => hZ pc ls σ H locs d h hP hS
theorem kCallB (hc : kOk X g own cc nL ret D) {y : MethodName} {bytes : ByteArray} {maxL d n idx : Nat} {rt : Option FieldType} (cw : kCw y bytes maxL rt n) (hlk : Cond.methodLink own idx y ∈ kT) (hd : d + 1 ≤ D) (hm : maxL ≤ 45) : CallB (kXR X) (kXs X) (kXa X) own idx y bytes maxL rt (kws y bytes maxL rt) (kRm d) 0 0 n := by
  have hts := hc.2.2.2.2.2.1
  refine ⟨rfl, rfl, Nat.le_trans hd hc.2.2.2.2.2.2.2.2.2.1, Nat.le_trans ?_ hc.2.2.2.2.2.2.2.2.2.2, fun w hw a' U hW => ?_, List.mem_cons_self, hts _ cw.1, hts _ cw.2.1, cw.2.2.1, fun sig h => ?_, hts _ hlk⟩
  · show 8 + (maxL + 11) + 64 * d ≤ 64 * D
    omega
  · have hw' : w ∈ kT := by
      rcases List.mem_cons.mp hw with rfl | h
      · exact cw.1
      · exact h
    exact word_at hW (good_of_word (kg_all hw')) (hts w hw')
  · have h2 := cw.2.2.2
    rw [h] at h2
    exact (Option.some.inj h2).symm
theorem kPreS (hc : kOk X g own cc nL ret D) {H : Heap} {locs : List Loc} {As : List Value} (hP : va_P g.1 vwCl (kW g σ) H) (hS : va_S (kA g) (kXs X).heap H locs) : ∀ U : State, U.heap = H → (kXs X).WarmedH U.vm → va_Pc As (kPre g σ) As.toArray U := fun U hU hW => ⟨rfl, by rw [hU]; exact hP, by rw [hU]; exact (hc.2.2.2.2.2.2.1.kept hS.2.1).moved hW.alike⟩
theorem kPreV (hc : kOk X g own cc nL ret D) {H : Heap} {locs : List Loc} {c : Nat} {C : String} (rv : kRv g σ c C) (hP : va_P g.1 vwCl (kW g σ) H) : ∃ cell : Cell, H[g.2.2.1 c]? = some cell ∧ cell.vm.isStatics = false ∧ (kXs X).vm.findClass C = some cell.cls := by
  obtain ⟨hlt, ci, q, fs, rfl, hq, ho⟩ := rv
  exact va_recv hc.2.2.2.2.2.2.1.1 hP hq (by rw [kW_at hlt, ho])

theorem r_callVi (hc : kOk X g own cc nL ret D) {y : MethodName} {bytes : ByteArray} {maxL d n idx c : Nat} {rt : Option FieldType} {C : String} {As : List Value} {Q : Int32 → kS → Prop} (hM : kMi (kXl X) g y bytes maxL rt d (kz g c :: As) σ Q) (cw : kCw y bytes maxL rt n) (hi : Cond.instanceMethod y ∈ kT) (hse : Cond.selects C y y ∈ kT) (hlk : Cond.methodLink own idx y ∈ kT) (hd : d + 1 ≤ D) (hm : maxL ≤ 45) (rv : kRv g σ c C) (hn : As.length = n) (hst : st = As.reverse ++ kz g c :: rest) (hrest : (rest.map fun v => v.category).sum ≤ 8) (dd : decode cc pc = .ok (.invokevirtual idx, 3)) (kk : ∀ (r : Int32) (τ : kS), Q r τ → kP X g nL (pc + 3) lv (.int r :: rest) τ) : kP X g nL pc lv st σ := by
  intro H locs ls hP hS hl
  subst hst
  exact va_calli (va_runV (As := As) (rest := rest) (C := C) ⟨hc.1, hc.2.1, hc.2.2.2.1, hc.2.2.2.2.1, hc.2.2.2.2.2.1⟩ hM ⟨kCallB hc cw hlk hd hm, hc.2.2.2.2.2.1 _ hi, hc.2.2.2.2.2.1 _ hse⟩ ⟨kPre_blind, kPreV hc (locs := locs) rv hP, kPreS hc hP hS⟩ rfl hn hl.1 rfl (lv_room hrest) dd hc.2.2.2.2.2.2.2.2.1) hS (fun q _ h => h) (fun q h => h) (fun r u t H1 locs1 ht hvm hq hB hz hk hS1 => kk r u hq H1 locs1 ls (by rw [← ht]; exact hB) hS1 hl)
theorem r_callSi (hc : kOk X g own cc nL ret D) {y : MethodName} {bytes : ByteArray} {maxL d n idx : Nat} {rt : Option FieldType} {As : List Value} {Q : Int32 → kS → Prop} (hM : kMi (kXl X) g y bytes maxL rt d As σ Q) (cw : kCw y bytes maxL rt n) (hi : Cond.static y ∈ kT) (hlk : Cond.methodLink own idx y ∈ kT) (hd : d + 1 ≤ D) (hm : maxL ≤ 45) (hn : As.length = n) (hst : st = As.reverse ++ rest) (hrest : (rest.map fun v => v.category).sum ≤ 8) (dd : decode cc pc = .ok (.invokestatic idx, 3)) (kk : ∀ (r : Int32) (τ : kS), Q r τ → kP X g nL (pc + 3) lv (.int r :: rest) τ) : kP X g nL pc lv st σ := by
  intro H locs ls hP hS hl
  subst hst
  exact va_calli (va_runS (As := As) (rest := rest) ⟨hc.1, hc.2.1, hc.2.2.2.1, hc.2.2.2.2.1, hc.2.2.2.2.2.1⟩ hM ⟨kCallB hc cw hlk hd hm, hc.2.2.2.2.2.1 _ hi⟩ ⟨kPre_blind, kPreS hc hP hS⟩ rfl hn hl.1 rfl (lv_room hrest) dd hc.2.2.2.2.2.2.2.2.1) hS (fun q _ h => h) (fun q h => h) (fun r u t H1 locs1 ht hvm hq hB hz hk hS1 => kk r u hq H1 locs1 ls (by rw [← ht]; exact hB) hS1 hl)
theorem r_callVl (hc : kOk X g own cc nL ret D) {y : MethodName} {bytes : ByteArray} {maxL d n idx c : Nat} {rt : Option FieldType} {C : String} {As : List Value} {Q : Int64 → kS → Prop} (hM : kMl (kXl X) g y bytes maxL rt d (kz g c :: As) σ Q) (cw : kCw y bytes maxL rt n) (hi : Cond.instanceMethod y ∈ kT) (hse : Cond.selects C y y ∈ kT) (hlk : Cond.methodLink own idx y ∈ kT) (hd : d + 1 ≤ D) (hm : maxL ≤ 45) (rv : kRv g σ c C) (hn : As.length = n) (hst : st = As.reverse ++ kz g c :: rest) (hrest : (rest.map fun v => v.category).sum ≤ 8) (dd : decode cc pc = .ok (.invokevirtual idx, 3)) (kk : ∀ (r : Int64) (τ : kS), Q r τ → kP X g nL (pc + 3) lv (.long r :: rest) τ) : kP X g nL pc lv st σ := by
  intro H locs ls hP hS hl
  subst hst
  exact va_calll (va_runV (As := As) (rest := rest) (C := C) ⟨hc.1, hc.2.1, hc.2.2.2.1, hc.2.2.2.2.1, hc.2.2.2.2.2.1⟩ hM ⟨kCallB hc cw hlk hd hm, hc.2.2.2.2.2.1 _ hi, hc.2.2.2.2.2.1 _ hse⟩ ⟨kPre_blind, kPreV hc (locs := locs) rv hP, kPreS hc hP hS⟩ rfl hn hl.1 rfl (lv_room hrest) dd hc.2.2.2.2.2.2.2.2.1) hS (fun q _ h => h) (fun q h => h) (fun r u t H1 locs1 ht hvm hq hB hz hk hS1 => kk r u hq H1 locs1 ls (by rw [← ht]; exact hB) hS1 hl)
theorem r_callSl (hc : kOk X g own cc nL ret D) {y : MethodName} {bytes : ByteArray} {maxL d n idx : Nat} {rt : Option FieldType} {As : List Value} {Q : Int64 → kS → Prop} (hM : kMl (kXl X) g y bytes maxL rt d As σ Q) (cw : kCw y bytes maxL rt n) (hi : Cond.static y ∈ kT) (hlk : Cond.methodLink own idx y ∈ kT) (hd : d + 1 ≤ D) (hm : maxL ≤ 45) (hn : As.length = n) (hst : st = As.reverse ++ rest) (hrest : (rest.map fun v => v.category).sum ≤ 8) (dd : decode cc pc = .ok (.invokestatic idx, 3)) (kk : ∀ (r : Int64) (τ : kS), Q r τ → kP X g nL (pc + 3) lv (.long r :: rest) τ) : kP X g nL pc lv st σ := by
  intro H locs ls hP hS hl
  subst hst
  exact va_calll (va_runS (As := As) (rest := rest) ⟨hc.1, hc.2.1, hc.2.2.2.1, hc.2.2.2.2.1, hc.2.2.2.2.2.1⟩ hM ⟨kCallB hc cw hlk hd hm, hc.2.2.2.2.2.1 _ hi⟩ ⟨kPre_blind, kPreS hc hP hS⟩ rfl hn hl.1 rfl (lv_room hrest) dd hc.2.2.2.2.2.2.2.2.1) hS (fun q _ h => h) (fun q h => h) (fun r u t H1 locs1 ht hvm hq hB hz hk hS1 => kk r u hq H1 locs1 ls (by rw [← ht]; exact hB) hS1 hl)
theorem r_callVv (hc : kOk X g own cc nL ret D) {y : MethodName} {bytes : ByteArray} {maxL d n idx c : Nat} {rt : Option FieldType} {C : String} {As : List Value} {Q : kS → Prop} (hM : kMv (kXl X) g y bytes maxL rt d (kz g c :: As) σ Q) (cw : kCw y bytes maxL rt n) (hi : Cond.instanceMethod y ∈ kT) (hse : Cond.selects C y y ∈ kT) (hlk : Cond.methodLink own idx y ∈ kT) (hd : d + 1 ≤ D) (hm : maxL ≤ 45) (rv : kRv g σ c C) (hn : As.length = n) (hst : st = As.reverse ++ kz g c :: rest) (hrest : (rest.map fun v => v.category).sum ≤ 8) (dd : decode cc pc = .ok (.invokevirtual idx, 3)) (kk : ∀ τ : kS, Q τ → kP X g nL (pc + 3) lv rest τ) : kP X g nL pc lv st σ := by
  intro H locs ls hP hS hl
  subst hst
  exact va_callv (va_runV (As := As) (rest := rest) (C := C) ⟨hc.1, hc.2.1, hc.2.2.2.1, hc.2.2.2.2.1, hc.2.2.2.2.2.1⟩ hM ⟨kCallB hc cw hlk hd hm, hc.2.2.2.2.2.1 _ hi, hc.2.2.2.2.2.1 _ hse⟩ ⟨kPre_blind, kPreV hc (locs := locs) rv hP, kPreS hc hP hS⟩ rfl hn hl.1 rfl (lv_room hrest) dd hc.2.2.2.2.2.2.2.2.1) hS (fun q _ h => h) (fun q h => h) (fun u t H1 locs1 ht hvm hq hB hz hk hS1 => kk u hq H1 locs1 ls (by rw [← ht]; exact hB) hS1 hl)
theorem r_callSv (hc : kOk X g own cc nL ret D) {y : MethodName} {bytes : ByteArray} {maxL d n idx : Nat} {rt : Option FieldType} {As : List Value} {Q : kS → Prop} (hM : kMv (kXl X) g y bytes maxL rt d As σ Q) (cw : kCw y bytes maxL rt n) (hi : Cond.static y ∈ kT) (hlk : Cond.methodLink own idx y ∈ kT) (hd : d + 1 ≤ D) (hm : maxL ≤ 45) (hn : As.length = n) (hst : st = As.reverse ++ rest) (hrest : (rest.map fun v => v.category).sum ≤ 8) (dd : decode cc pc = .ok (.invokestatic idx, 3)) (kk : ∀ τ : kS, Q τ → kP X g nL (pc + 3) lv rest τ) : kP X g nL pc lv st σ := by
  intro H locs ls hP hS hl
  subst hst
  exact va_callv (va_runS (As := As) (rest := rest) ⟨hc.1, hc.2.1, hc.2.2.2.1, hc.2.2.2.2.1, hc.2.2.2.2.2.1⟩ hM ⟨kCallB hc cw hlk hd hm, hc.2.2.2.2.2.1 _ hi⟩ ⟨kPre_blind, kPreS hc hP hS⟩ rfl hn hl.1 rfl (lv_room hrest) dd hc.2.2.2.2.2.2.2.2.1) hS (fun q _ h => h) (fun q h => h) (fun u t H1 locs1 ht hvm hq hB hz hk hS1 => kk u hq H1 locs1 ls (by rw [← ht]; exact hB) hS1 hl)
theorem kcopy_room {n D : Nat} (h : n ≤ 8) (hd : 1 ≤ D) : n + (nativeFrameWords "java/lang/System" "arraycopy" 5 + 11) ≤ 64 * D := by
  have e : nativeFrameWords "java/lang/System" "arraycopy" 5 + 11 ≤ 56 := by decide +kernel
  omega
theorem r_copy (hc : kOk X g own cc nL ret D) {idx a b n0 n1 : Nat} (ha : kInts a n0) (hb : kInts b n1) (hlk : Cond.methodLink own idx arraycopyName ∈ kT) (hd : 1 ≤ D) {sp dp n : Int32} (h1 : ¬ sp < 0) (h2 : ¬ dp < 0) (h3 : ¬ n < 0) (h4 : sp.toNatClampNeg + n.toNatClampNeg ≤ n0) (h5 : dp.toNatClampNeg + n.toNatClampNeg ≤ n1) (hrest : (rest.map fun v => v.category).sum ≤ 8) (dd : decode cc pc = .ok (.invokestatic idx, 3)) (kk : kP X g nL (pc + 3) lv rest (va_up σ b (va_cpy (σ a) (σ b) sp.toNatClampNeg dp.toNatClampNeg n.toNatClampNeg))) : kP X g nL pc lv (.int n :: .int dp :: kz g b :: .int sp :: kz g a :: rest) σ :=
  fun H locs ls hP hS hl => va_copyi (ty := .int) hc.1 hc.2.1 (hc.2.2.2.1.trans hl.1.symm) hc.2.2.2.2.1 (hc.2.2.2.2.2.1 _ hlk) (hc.2.2.2.2.2.1 _ wv_O_arraycopy) (hc.2.2.2.2.2.1 _ wt_O_arraycopy) (hc.2.2.2.2.2.1 _ wn_J10) hc.2.2.2.2.2.2.1.1 hP (kW_D hc.2.2.2.2.2.2.1.2.2.2) hS a b 0 0 (by rw [kW_at ha.1, ha.2]) (by rw [kW_at hb.1, hb.2]) rfl rfl rfl h1 h2 h3 h4 h5 (fun _ _ => rfl) (Nat.le_trans hd hc.2.2.2.2.2.2.2.2.2.1) (Nat.le_trans (kcopy_room hrest hd) hc.2.2.2.2.2.2.2.2.2.2) dd (fun H1 locs1 hP1 _ hS1 => kk H1 locs1 ls (by rw [kW_set (hb.2 g _)] at hP1; exact hP1) hS1 hl)
def kmax (x y : Int32) : Int32 := if x < y then y else x
def kmin (x y : Int32) : Int32 := if y < x then y else x
theorem wcM_max : Cond.code Lib.Math.max.name Lib.Math.max.code 2 (some .int) ∈ kT := wc_J9_max_7cf53
theorem wcM_min : Cond.code Lib.Math.min.name Lib.Math.min.code 2 (some .int) ∈ kT := wc_J9_min_7cf53
theorem r_mmax (hc : kOk X g own cc nL ret D) {idx : Nat} (hlk : Cond.methodLink own idx yJ9_max_7cf53 ∈ kT) (hd : 1 ≤ D) {x y : Int32} (hrest : (rest.map fun v => v.category).sum ≤ 8) (dd : decode cc pc = .ok (.invokestatic idx, 3)) (kk : kP X g nL (pc + 3) lv (.int (kmax x y) :: rest) σ) : kP X g nL pc lv (.int y :: .int x :: rest) σ :=
  fun H locs ls hP hS hl => va_mmax hc.1 hc.2.1 (hc.2.2.2.1.trans hl.1.symm) hc.2.2.2.2.1 (hc.2.2.2.2.2.1 _ hlk) (hc.2.2.2.2.2.1 _ wt_J9_max_7cf53) (hc.2.2.2.2.2.1 _ wn_J9) (hc.2.2.2.2.2.1 _ wcM_max) (Nat.le_trans hd hc.2.2.2.2.2.2.2.2.2.1) (Nat.le_trans (by omega) hc.2.2.2.2.2.2.2.2.2.2) hc.2.2.2.2.2.2.2.2.1.1 hc.2.2.2.2.2.2.2.2.1.2 dd (kk H locs ls hP hS hl)
theorem r_mmin (hc : kOk X g own cc nL ret D) {idx : Nat} (hlk : Cond.methodLink own idx yJ9_min_7cf53 ∈ kT) (hd : 1 ≤ D) {x y : Int32} (hrest : (rest.map fun v => v.category).sum ≤ 8) (dd : decode cc pc = .ok (.invokestatic idx, 3)) (kk : kP X g nL (pc + 3) lv (.int (kmin x y) :: rest) σ) : kP X g nL pc lv (.int y :: .int x :: rest) σ :=
  fun H locs ls hP hS hl => va_mmin hc.1 hc.2.1 (hc.2.2.2.1.trans hl.1.symm) hc.2.2.2.2.1 (hc.2.2.2.2.2.1 _ hlk) (hc.2.2.2.2.2.1 _ wt_J9_min_7cf53) (hc.2.2.2.2.2.1 _ wn_J9) (hc.2.2.2.2.2.1 _ wcM_min) (Nat.le_trans hd hc.2.2.2.2.2.2.2.2.2.1) (Nat.le_trans (by omega) hc.2.2.2.2.2.2.2.2.2.2) hc.2.2.2.2.2.2.2.2.1.1 hc.2.2.2.2.2.2.2.2.1.2 dd (kk H locs ls hP hS hl)
end KC
/-! cells -/
def kHall (c : Nat) : Prop := c = 19 ∨ c = 25 ∨ c = 33 ∨ c = 39
def kRow (c : Nat) : Prop := ∃ r : Nat, r < 8 ∧ c = 2 + 2 * r
theorem kHall_lt {c : Nat} (h : kHall c) : c < 69 := by unfold kHall at h; omega
theorem kRow_lt {c : Nat} (h : kRow c) : c < 69 := by obtain ⟨r, hr, rfl⟩ := h; omega
theorem kc_Hall {g : kG} {c : Nat} {r : Nat → Int32} (h : kHall c) : kcell g c r = .inr (3, [kz g (c + 1), kz g (c + 2), kz g (c + 3), kz g (c + 4), kz g (c + 5), .int (r 5), .int (r 6), .int (r 7), .int (r 8), .int (r 9), .int (r 10)]) := by
  rcases h with rfl | rfl | rfl | rfl <;> rfl
theorem kc_Row {g : kG} {c : Nat} {r : Nat → Int32} (h : kRow c) : kcell g c r = .inr (4, [kz g (c + 1), .int (r 1), .int (r 2)]) := by
  obtain ⟨k, hk, rfl⟩ := h
  match k, hk with
  | 0, _ => rfl
  | 1, _ => rfl
  | 2, _ => rfl
  | 3, _ => rfl
  | 4, _ => rfl
  | 5, _ => rfl
  | 6, _ => rfl
  | 7, _ => rfl
  | n + 8, h => exact absurd h (by omega)
theorem kRow_at {i : Int32} (h : vp_in i 8) : kRow (2 + 2 * i.toNatClampNeg) := ⟨_, Nat.not_le.mp fun q => h (Or.inr q), rfl⟩
theorem kHall_at {i : Int32} (h : vp_in i 2) : kHall (19 + 6 * i.toNatClampNeg) := by
  have h1 : i.toNatClampNeg < 2 := Nat.not_le.mp fun q => h (Or.inr q)
  unfold kHall
  omega
theorem kia_Row {c : Nat} (h : kRow c) : kInts (c + 1) 40 := by
  obtain ⟨k, hk, rfl⟩ := h
  refine ⟨by omega, fun g r => ?_⟩
  match k, hk with
  | 0, _ => rfl
  | 1, _ => rfl
  | 2, _ => rfl
  | 3, _ => rfl
  | 4, _ => rfl
  | 5, _ => rfl
  | 6, _ => rfl
  | 7, _ => rfl
  | n + 8, h => exact absurd h (by omega)

theorem kia_Hall_1 {c : Nat} (h : kHall c) : kInts (c + 1) 4 := by rcases h with rfl | rfl | rfl | rfl <;> exact ⟨by decide, fun _ _ => rfl⟩
theorem kia_Hall_2 {c : Nat} (h : kHall c) : kInts (c + 2) 32 := by rcases h with rfl | rfl | rfl | rfl <;> exact ⟨by decide, fun _ _ => rfl⟩
theorem kia_Hall_3 {c : Nat} (h : kHall c) : kInts (c + 3) 5 := by rcases h with rfl | rfl | rfl | rfl <;> exact ⟨by decide, fun _ _ => rfl⟩
theorem kia_Hall_4 {c : Nat} (h : kHall c) : kInts (c + 4) 5 := by rcases h with rfl | rfl | rfl | rfl <;> exact ⟨by decide, fun _ _ => rfl⟩
theorem kia_Hall_5 {c : Nat} (h : kHall c) : kInts (c + 5) 5 := by rcases h with rfl | rfl | rfl | rfl <;> exact ⟨by decide, fun _ _ => rfl⟩
theorem kia_3 : kInts 3 40 := ⟨by decide, fun _ _ => rfl⟩
theorem kia_5 : kInts 5 40 := ⟨by decide, fun _ _ => rfl⟩
theorem kia_7 : kInts 7 40 := ⟨by decide, fun _ _ => rfl⟩
theorem kia_9 : kInts 9 40 := ⟨by decide, fun _ _ => rfl⟩
theorem kia_11 : kInts 11 40 := ⟨by decide, fun _ _ => rfl⟩
theorem kia_13 : kInts 13 40 := ⟨by decide, fun _ _ => rfl⟩
theorem kia_15 : kInts 15 40 := ⟨by decide, fun _ _ => rfl⟩
theorem kia_17 : kInts 17 40 := ⟨by decide, fun _ _ => rfl⟩
theorem kia_20 : kInts 20 4 := ⟨by decide, fun _ _ => rfl⟩
theorem kia_21 : kInts 21 32 := ⟨by decide, fun _ _ => rfl⟩
theorem kia_22 : kInts 22 5 := ⟨by decide, fun _ _ => rfl⟩
theorem kia_23 : kInts 23 5 := ⟨by decide, fun _ _ => rfl⟩
theorem kia_24 : kInts 24 5 := ⟨by decide, fun _ _ => rfl⟩
theorem kia_26 : kInts 26 4 := ⟨by decide, fun _ _ => rfl⟩
theorem kia_27 : kInts 27 32 := ⟨by decide, fun _ _ => rfl⟩
theorem kia_28 : kInts 28 5 := ⟨by decide, fun _ _ => rfl⟩
theorem kia_29 : kInts 29 5 := ⟨by decide, fun _ _ => rfl⟩
theorem kia_30 : kInts 30 5 := ⟨by decide, fun _ _ => rfl⟩
theorem kia_32 : kInts 32 120 := ⟨by decide, fun _ _ => rfl⟩
theorem kia_34 : kInts 34 4 := ⟨by decide, fun _ _ => rfl⟩
theorem kia_35 : kInts 35 32 := ⟨by decide, fun _ _ => rfl⟩
theorem kia_36 : kInts 36 5 := ⟨by decide, fun _ _ => rfl⟩
theorem kia_37 : kInts 37 5 := ⟨by decide, fun _ _ => rfl⟩
theorem kia_38 : kInts 38 5 := ⟨by decide, fun _ _ => rfl⟩
theorem kia_40 : kInts 40 4 := ⟨by decide, fun _ _ => rfl⟩
theorem kia_41 : kInts 41 32 := ⟨by decide, fun _ _ => rfl⟩
theorem kia_42 : kInts 42 5 := ⟨by decide, fun _ _ => rfl⟩
theorem kia_43 : kInts 43 5 := ⟨by decide, fun _ _ => rfl⟩
theorem kia_44 : kInts 44 5 := ⟨by decide, fun _ _ => rfl⟩
theorem kia_46 : kInts 46 24 := ⟨by decide, fun _ _ => rfl⟩
theorem kia_47 : kInts 47 24 := ⟨by decide, fun _ _ => rfl⟩
theorem kia_48 : kInts 48 24 := ⟨by decide, fun _ _ => rfl⟩
theorem kia_50 : kInts 50 5 := ⟨by decide, fun _ _ => rfl⟩
theorem kia_51 : kInts 51 5 := ⟨by decide, fun _ _ => rfl⟩
theorem kia_52 : kInts 52 4 := ⟨by decide, fun _ _ => rfl⟩
theorem kia_54 : kInts 54 16 := ⟨by decide, fun _ _ => rfl⟩
theorem kia_56 : kInts 56 8 := ⟨by decide, fun _ _ => rfl⟩
theorem kia_57 : kInts 57 8 := ⟨by decide, fun _ _ => rfl⟩
theorem kia_58 : kInts 58 320 := ⟨by decide, fun _ _ => rfl⟩
theorem kia_59 : kInts 59 57 := ⟨by decide, fun _ _ => rfl⟩
theorem kia_60 : kInts 60 40 := ⟨by decide, fun _ _ => rfl⟩
theorem kia_61 : kInts 61 120 := ⟨by decide, fun _ _ => rfl⟩
theorem kia_62 : kInts 62 57 := ⟨by decide, fun _ _ => rfl⟩
theorem kia_63 : kInts 63 1368 := ⟨by decide, fun _ _ => rfl⟩
theorem kia_64 : kInts 64 12 := ⟨by decide, fun _ _ => rfl⟩
theorem kia_65 : kInts 65 12 := ⟨by decide, fun _ _ => rfl⟩
theorem kia_67 : kInts 67 114 := ⟨by decide, fun _ _ => rfl⟩
theorem kia_68 : kInts 68 16 := ⟨by decide, fun _ _ => rfl⟩
theorem rv_X0 {g : kG} {σ : kS} : kRv g σ 45 RX0 := ⟨by decide, 0, _, _, rfl, rfl, rfl⟩
theorem rv_X1 {g : kG} {σ : kS} : kRv g σ 53 RX1 := ⟨by decide, 1, _, _, rfl, rfl, rfl⟩
theorem rv_X2 {g : kG} {σ : kS} : kRv g σ 49 RX2 := ⟨by decide, 2, _, _, rfl, rfl, rfl⟩
theorem rv_X5 {g : kG} {σ : kS} : kRv g σ 31 RX5 := ⟨by decide, 5, _, _, rfl, rfl, rfl⟩
theorem rv_X6 {g : kG} {σ : kS} : kRv g σ 0 RX6 := ⟨by decide, 6, _, _, rfl, rfl, rfl⟩
theorem rv_X7 {g : kG} {σ : kS} : kRv g σ 55 RX7 := ⟨by decide, 7, _, _, rfl, rfl, rfl⟩
theorem rv_X3 {g : kG} {σ : kS} {c : Nat} (h : kHall c) : kRv g σ c RX3 := ⟨kHall_lt h, 3, _, _, rfl, rfl, kc_Hall h⟩
theorem rv_X4 {g : kG} {σ : kS} {c : Nat} (h : kRow c) : kRv g σ c RX4 := ⟨kRow_lt h, 4, _, _, rfl, rfl, kc_Row h⟩
section KF
variable {X : kX} {g : kG} {own : String} {cc : ByteArray} {nL D : Nat} {ret : Option FieldType} {pc : Nat} {lv : List (Nat × Value)} {st : List Value} {σ : kS}
theorem gf_X0_0 (hc : kOk X g own cc nL ret D) {idx : Nat} (hl : Cond.fieldLink own idx "KeyDrift$Acts" "sorts" "[I" ∈ kT) (d : decode cc pc = .ok (.getfield idx, 3)) (kk : kP X g nL (pc + 3) lv (kz g 46 :: st) σ) : kP X g nL pc lv (kz g 45 :: st) σ := r_getf hc inX0 rfl (by decide) (show kcell g 45 (σ 45) = _ from rfl) 0 (by decide) hl rfl d kk
theorem gf_X0_1 (hc : kOk X g own cc nL ret D) {idx : Nat} (hl : Cond.fieldLink own idx "KeyDrift$Acts" "pupils" "[I" ∈ kT) (d : decode cc pc = .ok (.getfield idx, 3)) (kk : kP X g nL (pc + 3) lv (kz g 47 :: st) σ) : kP X g nL pc lv (kz g 45 :: st) σ := r_getf hc inX0 rfl (by decide) (show kcell g 45 (σ 45) = _ from rfl) 1 (by decide) hl rfl d kk
theorem gf_X0_2 (hc : kOk X g own cc nL ret D) {idx : Nat} (hl : Cond.fieldLink own idx "KeyDrift$Acts" "before" "[I" ∈ kT) (d : decode cc pc = .ok (.getfield idx, 3)) (kk : kP X g nL (pc + 3) lv (kz g 48 :: st) σ) : kP X g nL pc lv (kz g 45 :: st) σ := r_getf hc inX0 rfl (by decide) (show kcell g 45 (σ 45) = _ from rfl) 2 (by decide) hl rfl d kk
theorem gf_X0_3 (hc : kOk X g own cc nL ret D) {idx : Nat} (hl : Cond.fieldLink own idx "KeyDrift$Acts" "next" "I" ∈ kT) (d : decode cc pc = .ok (.getfield idx, 3)) (kk : kP X g nL (pc + 3) lv (.int (σ 45 3) :: st) σ) : kP X g nL pc lv (kz g 45 :: st) σ := r_getf hc inX0 rfl (by decide) (show kcell g 45 (σ 45) = _ from rfl) 3 (by decide) hl rfl d kk
theorem pf_X0_3 (hc : kOk X g own cc nL ret D) {idx : Nat} (hl : Cond.fieldLink own idx "KeyDrift$Acts" "next" "I" ∈ kT) {v : Int32} (d : decode cc pc = .ok (.putfield idx, 3)) (kk : kP X g nL (pc + 3) lv st (st2 σ 45 3 v)) : kP X g nL pc lv (.int v :: kz g 45 :: st) σ := r_putf hc inX0 tyX0_ok nmX0 rfl (by decide) (show kcell g 45 (σ 45) = _ from rfl) 3 (by decide) hl rfl rfl rfl (Nat.le_of_ble_eq_true rfl) (by simp [kcell, kRowB, kHallB, upd]) d kk
theorem gf_X0_4 (hc : kOk X g own cc nL ret D) {idx : Nat} (hl : Cond.fieldLink own idx "KeyDrift$Acts" "kept" "I" ∈ kT) (d : decode cc pc = .ok (.getfield idx, 3)) (kk : kP X g nL (pc + 3) lv (.int (σ 45 4) :: st) σ) : kP X g nL pc lv (kz g 45 :: st) σ := r_getf hc inX0 rfl (by decide) (show kcell g 45 (σ 45) = _ from rfl) 4 (by decide) hl rfl d kk
theorem pf_X0_4 (hc : kOk X g own cc nL ret D) {idx : Nat} (hl : Cond.fieldLink own idx "KeyDrift$Acts" "kept" "I" ∈ kT) {v : Int32} (d : decode cc pc = .ok (.putfield idx, 3)) (kk : kP X g nL (pc + 3) lv st (st2 σ 45 4 v)) : kP X g nL pc lv (.int v :: kz g 45 :: st) σ := r_putf hc inX0 tyX0_ok nmX0 rfl (by decide) (show kcell g 45 (σ 45) = _ from rfl) 4 (by decide) hl rfl rfl rfl (Nat.le_of_ble_eq_true rfl) (by simp [kcell, kRowB, kHallB, upd]) d kk
theorem gf_X1_0 (hc : kOk X g own cc nL ret D) {idx : Nat} (hl : Cond.fieldLink own idx "KeyDrift$Asked" "bodies" "[I" ∈ kT) (d : decode cc pc = .ok (.getfield idx, 3)) (kk : kP X g nL (pc + 3) lv (kz g 54 :: st) σ) : kP X g nL pc lv (kz g 53 :: st) σ := r_getf hc inX1 rfl (by decide) (show kcell g 53 (σ 53) = _ from rfl) 0 (by decide) hl rfl d kk
theorem gf_X1_1 (hc : kOk X g own cc nL ret D) {idx : Nat} (hl : Cond.fieldLink own idx "KeyDrift$Asked" "left" "I" ∈ kT) (d : decode cc pc = .ok (.getfield idx, 3)) (kk : kP X g nL (pc + 3) lv (.int (σ 53 1) :: st) σ) : kP X g nL pc lv (kz g 53 :: st) σ := r_getf hc inX1 rfl (by decide) (show kcell g 53 (σ 53) = _ from rfl) 1 (by decide) hl rfl d kk
theorem pf_X1_1 (hc : kOk X g own cc nL ret D) {idx : Nat} (hl : Cond.fieldLink own idx "KeyDrift$Asked" "left" "I" ∈ kT) {v : Int32} (d : decode cc pc = .ok (.putfield idx, 3)) (kk : kP X g nL (pc + 3) lv st (st2 σ 53 1 v)) : kP X g nL pc lv (.int v :: kz g 53 :: st) σ := r_putf hc inX1 tyX1_ok nmX1 rfl (by decide) (show kcell g 53 (σ 53) = _ from rfl) 1 (by decide) hl rfl rfl rfl (Nat.le_of_ble_eq_true rfl) (by simp [kcell, kRowB, kHallB, upd]) d kk
theorem gf_X1_2 (hc : kOk X g own cc nL ret D) {idx : Nat} (hl : Cond.fieldLink own idx "KeyDrift$Asked" "number" "I" ∈ kT) (d : decode cc pc = .ok (.getfield idx, 3)) (kk : kP X g nL (pc + 3) lv (.int (σ 53 2) :: st) σ) : kP X g nL pc lv (kz g 53 :: st) σ := r_getf hc inX1 rfl (by decide) (show kcell g 53 (σ 53) = _ from rfl) 2 (by decide) hl rfl d kk
theorem pf_X1_2 (hc : kOk X g own cc nL ret D) {idx : Nat} (hl : Cond.fieldLink own idx "KeyDrift$Asked" "number" "I" ∈ kT) {v : Int32} (d : decode cc pc = .ok (.putfield idx, 3)) (kk : kP X g nL (pc + 3) lv st (st2 σ 53 2 v)) : kP X g nL pc lv (.int v :: kz g 53 :: st) σ := r_putf hc inX1 tyX1_ok nmX1 rfl (by decide) (show kcell g 53 (σ 53) = _ from rfl) 2 (by decide) hl rfl rfl rfl (Nat.le_of_ble_eq_true rfl) (by simp [kcell, kRowB, kHallB, upd]) d kk
theorem gf_X1_3 (hc : kOk X g own cc nL ret D) {idx : Nat} (hl : Cond.fieldLink own idx "KeyDrift$Asked" "sort" "I" ∈ kT) (d : decode cc pc = .ok (.getfield idx, 3)) (kk : kP X g nL (pc + 3) lv (.int (σ 53 3) :: st) σ) : kP X g nL pc lv (kz g 53 :: st) σ := r_getf hc inX1 rfl (by decide) (show kcell g 53 (σ 53) = _ from rfl) 3 (by decide) hl rfl d kk
theorem pf_X1_3 (hc : kOk X g own cc nL ret D) {idx : Nat} (hl : Cond.fieldLink own idx "KeyDrift$Asked" "sort" "I" ∈ kT) {v : Int32} (d : decode cc pc = .ok (.putfield idx, 3)) (kk : kP X g nL (pc + 3) lv st (st2 σ 53 3 v)) : kP X g nL pc lv (.int v :: kz g 53 :: st) σ := r_putf hc inX1 tyX1_ok nmX1 rfl (by decide) (show kcell g 53 (σ 53) = _ from rfl) 3 (by decide) hl rfl rfl rfl (Nat.le_of_ble_eq_true rfl) (by simp [kcell, kRowB, kHallB, upd]) d kk
theorem gf_X1_4 (hc : kOk X g own cc nL ret D) {idx : Nat} (hl : Cond.fieldLink own idx "KeyDrift$Asked" "learnt" "I" ∈ kT) (d : decode cc pc = .ok (.getfield idx, 3)) (kk : kP X g nL (pc + 3) lv (.int (σ 53 4) :: st) σ) : kP X g nL pc lv (kz g 53 :: st) σ := r_getf hc inX1 rfl (by decide) (show kcell g 53 (σ 53) = _ from rfl) 4 (by decide) hl rfl d kk
theorem pf_X1_4 (hc : kOk X g own cc nL ret D) {idx : Nat} (hl : Cond.fieldLink own idx "KeyDrift$Asked" "learnt" "I" ∈ kT) {v : Int32} (d : decode cc pc = .ok (.putfield idx, 3)) (kk : kP X g nL (pc + 3) lv st (st2 σ 53 4 v)) : kP X g nL pc lv (.int v :: kz g 53 :: st) σ := r_putf hc inX1 tyX1_ok nmX1 rfl (by decide) (show kcell g 53 (σ 53) = _ from rfl) 4 (by decide) hl rfl rfl rfl (Nat.le_of_ble_eq_true rfl) (by simp [kcell, kRowB, kHallB, upd]) d kk
theorem gf_X1_5 (hc : kOk X g own cc nL ret D) {idx : Nat} (hl : Cond.fieldLink own idx "KeyDrift$Asked" "span" "I" ∈ kT) (d : decode cc pc = .ok (.getfield idx, 3)) (kk : kP X g nL (pc + 3) lv (.int (σ 53 5) :: st) σ) : kP X g nL pc lv (kz g 53 :: st) σ := r_getf hc inX1 rfl (by decide) (show kcell g 53 (σ 53) = _ from rfl) 5 (by decide) hl rfl d kk
theorem pf_X1_5 (hc : kOk X g own cc nL ret D) {idx : Nat} (hl : Cond.fieldLink own idx "KeyDrift$Asked" "span" "I" ∈ kT) {v : Int32} (d : decode cc pc = .ok (.putfield idx, 3)) (kk : kP X g nL (pc + 3) lv st (st2 σ 53 5 v)) : kP X g nL pc lv (.int v :: kz g 53 :: st) σ := r_putf hc inX1 tyX1_ok nmX1 rfl (by decide) (show kcell g 53 (σ 53) = _ from rfl) 5 (by decide) hl rfl rfl rfl (Nat.le_of_ble_eq_true rfl) (by simp [kcell, kRowB, kHallB, upd]) d kk
theorem gf_X2_0 (hc : kOk X g own cc nL ret D) {idx : Nat} (hl : Cond.fieldLink own idx "KeyDrift$Foretold" "hall" "LKeyDrift$Hall;" ∈ kT) (d : decode cc pc = .ok (.getfield idx, 3)) (kk : kP X g nL (pc + 3) lv (kz g 33 :: st) σ) : kP X g nL pc lv (kz g 49 :: st) σ := r_getf hc inX2 rfl (by decide) (show kcell g 49 (σ 49) = _ from rfl) 0 (by decide) hl rfl d kk
theorem gf_X2_1 (hc : kOk X g own cc nL ret D) {idx : Nat} (hl : Cond.fieldLink own idx "KeyDrift$Foretold" "untaughtNights" "[I" ∈ kT) (d : decode cc pc = .ok (.getfield idx, 3)) (kk : kP X g nL (pc + 3) lv (kz g 50 :: st) σ) : kP X g nL pc lv (kz g 49 :: st) σ := r_getf hc inX2 rfl (by decide) (show kcell g 49 (σ 49) = _ from rfl) 1 (by decide) hl rfl d kk
theorem gf_X2_2 (hc : kOk X g own cc nL ret D) {idx : Nat} (hl : Cond.fieldLink own idx "KeyDrift$Foretold" "taughtNights" "[I" ∈ kT) (d : decode cc pc = .ok (.getfield idx, 3)) (kk : kP X g nL (pc + 3) lv (kz g 51 :: st) σ) : kP X g nL pc lv (kz g 49 :: st) σ := r_getf hc inX2 rfl (by decide) (show kcell g 49 (σ 49) = _ from rfl) 2 (by decide) hl rfl d kk
theorem gf_X2_3 (hc : kOk X g own cc nL ret D) {idx : Nat} (hl : Cond.fieldLink own idx "KeyDrift$Foretold" "pieceNights" "[I" ∈ kT) (d : decode cc pc = .ok (.getfield idx, 3)) (kk : kP X g nL (pc + 3) lv (kz g 52 :: st) σ) : kP X g nL pc lv (kz g 49 :: st) σ := r_getf hc inX2 rfl (by decide) (show kcell g 49 (σ 49) = _ from rfl) 3 (by decide) hl rfl d kk
theorem gf_X3_0 (hc : kOk X g own cc nL ret D) {c : Nat} (hh : kHall c) {idx : Nat} (hl : Cond.fieldLink own idx "KeyDrift$Hall" "lengths" "[I" ∈ kT) (d : decode cc pc = .ok (.getfield idx, 3)) (kk : kP X g nL (pc + 3) lv (kz g (c + 1) :: st) σ) : kP X g nL pc lv (kz g c :: st) σ := r_getf hc inX3 rfl (kHall_lt hh) (kc_Hall hh) 0 (by decide) hl rfl d kk
theorem gf_X3_1 (hc : kOk X g own cc nL ret D) {c : Nat} (hh : kHall c) {idx : Nat} (hl : Cond.fieldLink own idx "KeyDrift$Hall" "strings" "[I" ∈ kT) (d : decode cc pc = .ok (.getfield idx, 3)) (kk : kP X g nL (pc + 3) lv (kz g (c + 2) :: st) σ) : kP X g nL pc lv (kz g c :: st) σ := r_getf hc inX3 rfl (kHall_lt hh) (kc_Hall hh) 1 (by decide) hl rfl d kk
theorem gf_X3_2 (hc : kOk X g own cc nL ret D) {c : Nat} (hh : kHall c) {idx : Nat} (hl : Cond.fieldLink own idx "KeyDrift$Hall" "kinds" "[I" ∈ kT) (d : decode cc pc = .ok (.getfield idx, 3)) (kk : kP X g nL (pc + 3) lv (kz g (c + 3) :: st) σ) : kP X g nL pc lv (kz g c :: st) σ := r_getf hc inX3 rfl (kHall_lt hh) (kc_Hall hh) 2 (by decide) hl rfl d kk
theorem gf_X3_3 (hc : kOk X g own cc nL ret D) {c : Nat} (hh : kHall c) {idx : Nat} (hl : Cond.fieldLink own idx "KeyDrift$Hall" "learnt" "[I" ∈ kT) (d : decode cc pc = .ok (.getfield idx, 3)) (kk : kP X g nL (pc + 3) lv (kz g (c + 4) :: st) σ) : kP X g nL pc lv (kz g c :: st) σ := r_getf hc inX3 rfl (kHall_lt hh) (kc_Hall hh) 3 (by decide) hl rfl d kk
theorem gf_X3_4 (hc : kOk X g own cc nL ret D) {c : Nat} (hh : kHall c) {idx : Nat} (hl : Cond.fieldLink own idx "KeyDrift$Hall" "spans" "[I" ∈ kT) (d : decode cc pc = .ok (.getfield idx, 3)) (kk : kP X g nL (pc + 3) lv (kz g (c + 5) :: st) σ) : kP X g nL pc lv (kz g c :: st) σ := r_getf hc inX3 rfl (kHall_lt hh) (kc_Hall hh) 4 (by decide) hl rfl d kk
theorem gf_X3_5 (hc : kOk X g own cc nL ret D) {c : Nat} (hh : kHall c) {idx : Nat} (hl : Cond.fieldLink own idx "KeyDrift$Hall" "keys" "I" ∈ kT) (d : decode cc pc = .ok (.getfield idx, 3)) (kk : kP X g nL (pc + 3) lv (.int (σ c 5) :: st) σ) : kP X g nL pc lv (kz g c :: st) σ := r_getf hc inX3 rfl (kHall_lt hh) (kc_Hall hh) 5 (by decide) hl rfl d kk
theorem pf_X3_5 (hc : kOk X g own cc nL ret D) {c : Nat} (hh : kHall c) {idx : Nat} (hl : Cond.fieldLink own idx "KeyDrift$Hall" "keys" "I" ∈ kT) {v : Int32} (d : decode cc pc = .ok (.putfield idx, 3)) (kk : kP X g nL (pc + 3) lv st (st2 σ c 5 v)) : kP X g nL pc lv (.int v :: kz g c :: st) σ := r_putf hc inX3 tyX3_ok nmX3 rfl (kHall_lt hh) (kc_Hall hh) 5 (by decide) hl rfl rfl rfl (Nat.le_of_ble_eq_true rfl) (by rw [kc_Hall hh]; simp [upd]) d kk
theorem gf_X3_6 (hc : kOk X g own cc nL ret D) {c : Nat} (hh : kHall c) {idx : Nat} (hl : Cond.fieldLink own idx "KeyDrift$Hall" "drift" "I" ∈ kT) (d : decode cc pc = .ok (.getfield idx, 3)) (kk : kP X g nL (pc + 3) lv (.int (σ c 6) :: st) σ) : kP X g nL pc lv (kz g c :: st) σ := r_getf hc inX3 rfl (kHall_lt hh) (kc_Hall hh) 6 (by decide) hl rfl d kk
theorem pf_X3_6 (hc : kOk X g own cc nL ret D) {c : Nat} (hh : kHall c) {idx : Nat} (hl : Cond.fieldLink own idx "KeyDrift$Hall" "drift" "I" ∈ kT) {v : Int32} (d : decode cc pc = .ok (.putfield idx, 3)) (kk : kP X g nL (pc + 3) lv st (st2 σ c 6 v)) : kP X g nL pc lv (.int v :: kz g c :: st) σ := r_putf hc inX3 tyX3_ok nmX3 rfl (kHall_lt hh) (kc_Hall hh) 6 (by decide) hl rfl rfl rfl (Nat.le_of_ble_eq_true rfl) (by rw [kc_Hall hh]; simp [upd]) d kk
theorem gf_X3_7 (hc : kOk X g own cc nL ret D) {c : Nat} (hh : kHall c) {idx : Nat} (hl : Cond.fieldLink own idx "KeyDrift$Hall" "shift" "I" ∈ kT) (d : decode cc pc = .ok (.getfield idx, 3)) (kk : kP X g nL (pc + 3) lv (.int (σ c 7) :: st) σ) : kP X g nL pc lv (kz g c :: st) σ := r_getf hc inX3 rfl (kHall_lt hh) (kc_Hall hh) 7 (by decide) hl rfl d kk
theorem pf_X3_7 (hc : kOk X g own cc nL ret D) {c : Nat} (hh : kHall c) {idx : Nat} (hl : Cond.fieldLink own idx "KeyDrift$Hall" "shift" "I" ∈ kT) {v : Int32} (d : decode cc pc = .ok (.putfield idx, 3)) (kk : kP X g nL (pc + 3) lv st (st2 σ c 7 v)) : kP X g nL pc lv (.int v :: kz g c :: st) σ := r_putf hc inX3 tyX3_ok nmX3 rfl (kHall_lt hh) (kc_Hall hh) 7 (by decide) hl rfl rfl rfl (Nat.le_of_ble_eq_true rfl) (by rw [kc_Hall hh]; simp [upd]) d kk
theorem gf_X3_8 (hc : kOk X g own cc nL ret D) {c : Nat} (hh : kHall c) {idx : Nat} (hl : Cond.fieldLink own idx "KeyDrift$Hall" "night" "I" ∈ kT) (d : decode cc pc = .ok (.getfield idx, 3)) (kk : kP X g nL (pc + 3) lv (.int (σ c 8) :: st) σ) : kP X g nL pc lv (kz g c :: st) σ := r_getf hc inX3 rfl (kHall_lt hh) (kc_Hall hh) 8 (by decide) hl rfl d kk
theorem pf_X3_8 (hc : kOk X g own cc nL ret D) {c : Nat} (hh : kHall c) {idx : Nat} (hl : Cond.fieldLink own idx "KeyDrift$Hall" "night" "I" ∈ kT) {v : Int32} (d : decode cc pc = .ok (.putfield idx, 3)) (kk : kP X g nL (pc + 3) lv st (st2 σ c 8 v)) : kP X g nL pc lv (.int v :: kz g c :: st) σ := r_putf hc inX3 tyX3_ok nmX3 rfl (kHall_lt hh) (kc_Hall hh) 8 (by decide) hl rfl rfl rfl (Nat.le_of_ble_eq_true rfl) (by rw [kc_Hall hh]; simp [upd]) d kk
theorem gf_X3_9 (hc : kOk X g own cc nL ret D) {c : Nat} (hh : kHall c) {idx : Nat} (hl : Cond.fieldLink own idx "KeyDrift$Hall" "pieces" "I" ∈ kT) (d : decode cc pc = .ok (.getfield idx, 3)) (kk : kP X g nL (pc + 3) lv (.int (σ c 9) :: st) σ) : kP X g nL pc lv (kz g c :: st) σ := r_getf hc inX3 rfl (kHall_lt hh) (kc_Hall hh) 9 (by decide) hl rfl d kk
theorem pf_X3_9 (hc : kOk X g own cc nL ret D) {c : Nat} (hh : kHall c) {idx : Nat} (hl : Cond.fieldLink own idx "KeyDrift$Hall" "pieces" "I" ∈ kT) {v : Int32} (d : decode cc pc = .ok (.putfield idx, 3)) (kk : kP X g nL (pc + 3) lv st (st2 σ c 9 v)) : kP X g nL pc lv (.int v :: kz g c :: st) σ := r_putf hc inX3 tyX3_ok nmX3 rfl (kHall_lt hh) (kc_Hall hh) 9 (by decide) hl rfl rfl rfl (Nat.le_of_ble_eq_true rfl) (by rw [kc_Hall hh]; simp [upd]) d kk
theorem gf_X3_10 (hc : kOk X g own cc nL ret D) {c : Nat} (hh : kHall c) {idx : Nat} (hl : Cond.fieldLink own idx "KeyDrift$Hall" "pupils" "I" ∈ kT) (d : decode cc pc = .ok (.getfield idx, 3)) (kk : kP X g nL (pc + 3) lv (.int (σ c 10) :: st) σ) : kP X g nL pc lv (kz g c :: st) σ := r_getf hc inX3 rfl (kHall_lt hh) (kc_Hall hh) 10 (by decide) hl rfl d kk
theorem pf_X3_10 (hc : kOk X g own cc nL ret D) {c : Nat} (hh : kHall c) {idx : Nat} (hl : Cond.fieldLink own idx "KeyDrift$Hall" "pupils" "I" ∈ kT) {v : Int32} (d : decode cc pc = .ok (.putfield idx, 3)) (kk : kP X g nL (pc + 3) lv st (st2 σ c 10 v)) : kP X g nL pc lv (.int v :: kz g c :: st) σ := r_putf hc inX3 tyX3_ok nmX3 rfl (kHall_lt hh) (kc_Hall hh) 10 (by decide) hl rfl rfl rfl (Nat.le_of_ble_eq_true rfl) (by rw [kc_Hall hh]; simp [upd]) d kk
theorem gf_X4_0 (hc : kOk X g own cc nL ret D) {c : Nat} (hh : kRow c) {idx : Nat} (hl : Cond.fieldLink own idx "KeyDrift$Row" "items" "[I" ∈ kT) (d : decode cc pc = .ok (.getfield idx, 3)) (kk : kP X g nL (pc + 3) lv (kz g (c + 1) :: st) σ) : kP X g nL pc lv (kz g c :: st) σ := r_getf hc inX4 rfl (kRow_lt hh) (kc_Row hh) 0 (by decide) hl rfl d kk
theorem gf_X4_1 (hc : kOk X g own cc nL ret D) {c : Nat} (hh : kRow c) {idx : Nat} (hl : Cond.fieldLink own idx "KeyDrift$Row" "lane" "I" ∈ kT) (d : decode cc pc = .ok (.getfield idx, 3)) (kk : kP X g nL (pc + 3) lv (.int (σ c 1) :: st) σ) : kP X g nL pc lv (kz g c :: st) σ := r_getf hc inX4 rfl (kRow_lt hh) (kc_Row hh) 1 (by decide) hl rfl d kk
theorem pf_X4_1 (hc : kOk X g own cc nL ret D) {c : Nat} (hh : kRow c) {idx : Nat} (hl : Cond.fieldLink own idx "KeyDrift$Row" "lane" "I" ∈ kT) {v : Int32} (d : decode cc pc = .ok (.putfield idx, 3)) (kk : kP X g nL (pc + 3) lv st (st2 σ c 1 v)) : kP X g nL pc lv (.int v :: kz g c :: st) σ := r_putf hc inX4 tyX4_ok nmX4 rfl (kRow_lt hh) (kc_Row hh) 1 (by decide) hl rfl rfl rfl (Nat.le_of_ble_eq_true rfl) (by rw [kc_Row hh]; simp [upd]) d kk
theorem gf_X4_2 (hc : kOk X g own cc nL ret D) {c : Nat} (hh : kRow c) {idx : Nat} (hl : Cond.fieldLink own idx "KeyDrift$Row" "length" "I" ∈ kT) (d : decode cc pc = .ok (.getfield idx, 3)) (kk : kP X g nL (pc + 3) lv (.int (σ c 2) :: st) σ) : kP X g nL pc lv (kz g c :: st) σ := r_getf hc inX4 rfl (kRow_lt hh) (kc_Row hh) 2 (by decide) hl rfl d kk
theorem pf_X4_2 (hc : kOk X g own cc nL ret D) {c : Nat} (hh : kRow c) {idx : Nat} (hl : Cond.fieldLink own idx "KeyDrift$Row" "length" "I" ∈ kT) {v : Int32} (d : decode cc pc = .ok (.putfield idx, 3)) (kk : kP X g nL (pc + 3) lv st (st2 σ c 2 v)) : kP X g nL pc lv (.int v :: kz g c :: st) σ := r_putf hc inX4 tyX4_ok nmX4 rfl (kRow_lt hh) (kc_Row hh) 2 (by decide) hl rfl rfl rfl (Nat.le_of_ble_eq_true rfl) (by rw [kc_Row hh]; simp [upd]) d kk
theorem gf_X5_0 (hc : kOk X g own cc nL ret D) {idx : Nat} (hl : Cond.fieldLink own idx "KeyDrift$Tape" "bytes" "[I" ∈ kT) (d : decode cc pc = .ok (.getfield idx, 3)) (kk : kP X g nL (pc + 3) lv (kz g 32 :: st) σ) : kP X g nL pc lv (kz g 31 :: st) σ := r_getf hc inX5 rfl (by decide) (show kcell g 31 (σ 31) = _ from rfl) 0 (by decide) hl rfl d kk
theorem gf_X5_1 (hc : kOk X g own cc nL ret D) {idx : Nat} (hl : Cond.fieldLink own idx "KeyDrift$Tape" "place" "I" ∈ kT) (d : decode cc pc = .ok (.getfield idx, 3)) (kk : kP X g nL (pc + 3) lv (.int (σ 31 1) :: st) σ) : kP X g nL pc lv (kz g 31 :: st) σ := r_getf hc inX5 rfl (by decide) (show kcell g 31 (σ 31) = _ from rfl) 1 (by decide) hl rfl d kk
theorem pf_X5_1 (hc : kOk X g own cc nL ret D) {idx : Nat} (hl : Cond.fieldLink own idx "KeyDrift$Tape" "place" "I" ∈ kT) {v : Int32} (d : decode cc pc = .ok (.putfield idx, 3)) (kk : kP X g nL (pc + 3) lv st (st2 σ 31 1 v)) : kP X g nL pc lv (.int v :: kz g 31 :: st) σ := r_putf hc inX5 tyX5_ok nmX5 rfl (by decide) (show kcell g 31 (σ 31) = _ from rfl) 1 (by decide) hl rfl rfl rfl (Nat.le_of_ble_eq_true rfl) (by simp [kcell, kRowB, kHallB, upd]) d kk
theorem gf_X5_2 (hc : kOk X g own cc nL ret D) {idx : Nat} (hl : Cond.fieldLink own idx "KeyDrift$Tape" "foundFault" "I" ∈ kT) (d : decode cc pc = .ok (.getfield idx, 3)) (kk : kP X g nL (pc + 3) lv (.int (σ 31 2) :: st) σ) : kP X g nL pc lv (kz g 31 :: st) σ := r_getf hc inX5 rfl (by decide) (show kcell g 31 (σ 31) = _ from rfl) 2 (by decide) hl rfl d kk
theorem pf_X5_2 (hc : kOk X g own cc nL ret D) {idx : Nat} (hl : Cond.fieldLink own idx "KeyDrift$Tape" "foundFault" "I" ∈ kT) {v : Int32} (d : decode cc pc = .ok (.putfield idx, 3)) (kk : kP X g nL (pc + 3) lv st (st2 σ 31 2 v)) : kP X g nL pc lv (.int v :: kz g 31 :: st) σ := r_putf hc inX5 tyX5_ok nmX5 rfl (by decide) (show kcell g 31 (σ 31) = _ from rfl) 2 (by decide) hl rfl rfl rfl (Nat.le_of_ble_eq_true rfl) (by simp [kcell, kRowB, kHallB, upd]) d kk
theorem gf_X5_3 (hc : kOk X g own cc nL ret D) {idx : Nat} (hl : Cond.fieldLink own idx "KeyDrift$Tape" "size" "I" ∈ kT) (d : decode cc pc = .ok (.getfield idx, 3)) (kk : kP X g nL (pc + 3) lv (.int (σ 31 3) :: st) σ) : kP X g nL pc lv (kz g 31 :: st) σ := r_getf hc inX5 rfl (by decide) (show kcell g 31 (σ 31) = _ from rfl) 3 (by decide) hl rfl d kk
theorem pf_X5_3 (hc : kOk X g own cc nL ret D) {idx : Nat} (hl : Cond.fieldLink own idx "KeyDrift$Tape" "size" "I" ∈ kT) {v : Int32} (d : decode cc pc = .ok (.putfield idx, 3)) (kk : kP X g nL (pc + 3) lv st (st2 σ 31 3 v)) : kP X g nL pc lv (.int v :: kz g 31 :: st) σ := r_putf hc inX5 tyX5_ok nmX5 rfl (by decide) (show kcell g 31 (σ 31) = _ from rfl) 3 (by decide) hl rfl rfl rfl (Nat.le_of_ble_eq_true rfl) (by simp [kcell, kRowB, kHallB, upd]) d kk
theorem gf_X5_4 (hc : kOk X g own cc nL ret D) {idx : Nat} (hl : Cond.fieldLink own idx "KeyDrift$Tape" "foundAt" "I" ∈ kT) (d : decode cc pc = .ok (.getfield idx, 3)) (kk : kP X g nL (pc + 3) lv (.int (σ 31 4) :: st) σ) : kP X g nL pc lv (kz g 31 :: st) σ := r_getf hc inX5 rfl (by decide) (show kcell g 31 (σ 31) = _ from rfl) 4 (by decide) hl rfl d kk
theorem pf_X5_4 (hc : kOk X g own cc nL ret D) {idx : Nat} (hl : Cond.fieldLink own idx "KeyDrift$Tape" "foundAt" "I" ∈ kT) {v : Int32} (d : decode cc pc = .ok (.putfield idx, 3)) (kk : kP X g nL (pc + 3) lv st (st2 σ 31 4 v)) : kP X g nL pc lv (.int v :: kz g 31 :: st) σ := r_putf hc inX5 tyX5_ok nmX5 rfl (by decide) (show kcell g 31 (σ 31) = _ from rfl) 4 (by decide) hl rfl rfl rfl (Nat.le_of_ble_eq_true rfl) (by simp [kcell, kRowB, kHallB, upd]) d kk
theorem gf_X5_5 (hc : kOk X g own cc nL ret D) {idx : Nat} (hl : Cond.fieldLink own idx "KeyDrift$Tape" "latestFault" "I" ∈ kT) (d : decode cc pc = .ok (.getfield idx, 3)) (kk : kP X g nL (pc + 3) lv (.int (σ 31 5) :: st) σ) : kP X g nL pc lv (kz g 31 :: st) σ := r_getf hc inX5 rfl (by decide) (show kcell g 31 (σ 31) = _ from rfl) 5 (by decide) hl rfl d kk
theorem pf_X5_5 (hc : kOk X g own cc nL ret D) {idx : Nat} (hl : Cond.fieldLink own idx "KeyDrift$Tape" "latestFault" "I" ∈ kT) {v : Int32} (d : decode cc pc = .ok (.putfield idx, 3)) (kk : kP X g nL (pc + 3) lv st (st2 σ 31 5 v)) : kP X g nL pc lv (.int v :: kz g 31 :: st) σ := r_putf hc inX5 tyX5_ok nmX5 rfl (by decide) (show kcell g 31 (σ 31) = _ from rfl) 5 (by decide) hl rfl rfl rfl (Nat.le_of_ble_eq_true rfl) (by simp [kcell, kRowB, kHallB, upd]) d kk
theorem gf_X6_0 (hc : kOk X g own cc nL ret D) {idx : Nat} (hl : Cond.fieldLink own idx "KeyDrift" "rows" "[LKeyDrift$Row;" ∈ kT) (d : decode cc pc = .ok (.getfield idx, 3)) (kk : kP X g nL (pc + 3) lv (kz g 1 :: st) σ) : kP X g nL pc lv (kz g 0 :: st) σ := r_getf hc inX6 rfl (by decide) (show kcell g 0 (σ 0) = _ from rfl) 0 (by decide) hl rfl d kk
theorem gf_X6_1 (hc : kOk X g own cc nL ret D) {idx : Nat} (hl : Cond.fieldLink own idx "KeyDrift" "tape" "LKeyDrift$Tape;" ∈ kT) (d : decode cc pc = .ok (.getfield idx, 3)) (kk : kP X g nL (pc + 3) lv (kz g 31 :: st) σ) : kP X g nL pc lv (kz g 0 :: st) σ := r_getf hc inX6 rfl (by decide) (show kcell g 0 (σ 0) = _ from rfl) 1 (by decide) hl rfl d kk
theorem gf_X6_2 (hc : kOk X g own cc nL ret D) {idx : Nat} (hl : Cond.fieldLink own idx "KeyDrift" "now" "LKeyDrift$Hall;" ∈ kT) (d : decode cc pc = .ok (.getfield idx, 3)) (kk : kP X g nL (pc + 3) lv (kz g 33 :: st) σ) : kP X g nL pc lv (kz g 0 :: st) σ := r_getf hc inX6 rfl (by decide) (show kcell g 0 (σ 0) = _ from rfl) 2 (by decide) hl rfl d kk
theorem gf_X6_3 (hc : kOk X g own cc nL ret D) {idx : Nat} (hl : Cond.fieldLink own idx "KeyDrift" "spare" "LKeyDrift$Hall;" ∈ kT) (d : decode cc pc = .ok (.getfield idx, 3)) (kk : kP X g nL (pc + 3) lv (kz g 39 :: st) σ) : kP X g nL pc lv (kz g 0 :: st) σ := r_getf hc inX6 rfl (by decide) (show kcell g 0 (σ 0) = _ from rfl) 3 (by decide) hl rfl d kk
theorem gf_X6_4 (hc : kOk X g own cc nL ret D) {idx : Nat} (hl : Cond.fieldLink own idx "KeyDrift" "images" "[LKeyDrift$Hall;" ∈ kT) (d : decode cc pc = .ok (.getfield idx, 3)) (kk : kP X g nL (pc + 3) lv (kz g 18 :: st) σ) : kP X g nL pc lv (kz g 0 :: st) σ := r_getf hc inX6 rfl (by decide) (show kcell g 0 (σ 0) = _ from rfl) 4 (by decide) hl rfl d kk
theorem gf_X6_5 (hc : kOk X g own cc nL ret D) {idx : Nat} (hl : Cond.fieldLink own idx "KeyDrift" "acts" "LKeyDrift$Acts;" ∈ kT) (d : decode cc pc = .ok (.getfield idx, 3)) (kk : kP X g nL (pc + 3) lv (kz g 45 :: st) σ) : kP X g nL pc lv (kz g 0 :: st) σ := r_getf hc inX6 rfl (by decide) (show kcell g 0 (σ 0) = _ from rfl) 5 (by decide) hl rfl d kk
theorem gf_X6_6 (hc : kOk X g own cc nL ret D) {idx : Nat} (hl : Cond.fieldLink own idx "KeyDrift" "foretold" "LKeyDrift$Foretold;" ∈ kT) (d : decode cc pc = .ok (.getfield idx, 3)) (kk : kP X g nL (pc + 3) lv (kz g 49 :: st) σ) : kP X g nL pc lv (kz g 0 :: st) σ := r_getf hc inX6 rfl (by decide) (show kcell g 0 (σ 0) = _ from rfl) 6 (by decide) hl rfl d kk
theorem gf_X6_7 (hc : kOk X g own cc nL ret D) {idx : Nat} (hl : Cond.fieldLink own idx "KeyDrift" "asked" "LKeyDrift$Asked;" ∈ kT) (d : decode cc pc = .ok (.getfield idx, 3)) (kk : kP X g nL (pc + 3) lv (kz g 53 :: st) σ) : kP X g nL pc lv (kz g 0 :: st) σ := r_getf hc inX6 rfl (by decide) (show kcell g 0 (σ 0) = _ from rfl) 7 (by decide) hl rfl d kk
theorem gf_X6_8 (hc : kOk X g own cc nL ret D) {idx : Nat} (hl : Cond.fieldLink own idx "KeyDrift" "latestFinding" "I" ∈ kT) (d : decode cc pc = .ok (.getfield idx, 3)) (kk : kP X g nL (pc + 3) lv (.int (σ 0 8) :: st) σ) : kP X g nL pc lv (kz g 0 :: st) σ := r_getf hc inX6 rfl (by decide) (show kcell g 0 (σ 0) = _ from rfl) 8 (by decide) hl rfl d kk
theorem pf_X6_8 (hc : kOk X g own cc nL ret D) {idx : Nat} (hl : Cond.fieldLink own idx "KeyDrift" "latestFinding" "I" ∈ kT) {v : Int32} (d : decode cc pc = .ok (.putfield idx, 3)) (kk : kP X g nL (pc + 3) lv st (st2 σ 0 8 v)) : kP X g nL pc lv (.int v :: kz g 0 :: st) σ := r_putf hc inX6 tyX6_ok nmX6 rfl (by decide) (show kcell g 0 (σ 0) = _ from rfl) 8 (by decide) hl rfl rfl rfl (Nat.le_of_ble_eq_true rfl) (by simp [kcell, kRowB, kHallB, upd]) d kk
theorem gf_X7_0 (hc : kOk X g own cc nL ret D) {idx : Nat} (hl : Cond.fieldLink own idx "KeyDriftModel" "lanes" "[I" ∈ kT) (d : decode cc pc = .ok (.getfield idx, 3)) (kk : kP X g nL (pc + 3) lv (kz g 56 :: st) σ) : kP X g nL pc lv (kz g 55 :: st) σ := r_getf hc inX7 rfl (by decide) (show kcell g 55 (σ 55) = _ from rfl) 0 (by decide) hl rfl d kk
theorem gf_X7_1 (hc : kOk X g own cc nL ret D) {idx : Nat} (hl : Cond.fieldLink own idx "KeyDriftModel" "sizes" "[I" ∈ kT) (d : decode cc pc = .ok (.getfield idx, 3)) (kk : kP X g nL (pc + 3) lv (kz g 57 :: st) σ) : kP X g nL pc lv (kz g 55 :: st) σ := r_getf hc inX7 rfl (by decide) (show kcell g 55 (σ 55) = _ from rfl) 1 (by decide) hl rfl d kk
theorem gf_X7_2 (hc : kOk X g own cc nL ret D) {idx : Nat} (hl : Cond.fieldLink own idx "KeyDriftModel" "items" "[I" ∈ kT) (d : decode cc pc = .ok (.getfield idx, 3)) (kk : kP X g nL (pc + 3) lv (kz g 58 :: st) σ) : kP X g nL pc lv (kz g 55 :: st) σ := r_getf hc inX7 rfl (by decide) (show kcell g 55 (σ 55) = _ from rfl) 2 (by decide) hl rfl d kk
theorem gf_X7_3 (hc : kOk X g own cc nL ret D) {idx : Nat} (hl : Cond.fieldLink own idx "KeyDriftModel" "status" "I" ∈ kT) (d : decode cc pc = .ok (.getfield idx, 3)) (kk : kP X g nL (pc + 3) lv (.int (σ 55 3) :: st) σ) : kP X g nL pc lv (kz g 55 :: st) σ := r_getf hc inX7 rfl (by decide) (show kcell g 55 (σ 55) = _ from rfl) 3 (by decide) hl rfl d kk
theorem pf_X7_3 (hc : kOk X g own cc nL ret D) {idx : Nat} (hl : Cond.fieldLink own idx "KeyDriftModel" "status" "I" ∈ kT) {v : Int32} (d : decode cc pc = .ok (.putfield idx, 3)) (kk : kP X g nL (pc + 3) lv st (st2 σ 55 3 v)) : kP X g nL pc lv (.int v :: kz g 55 :: st) σ := r_putf hc inX7 tyX7_ok nmX7 rfl (by decide) (show kcell g 55 (σ 55) = _ from rfl) 3 (by decide) hl rfl rfl rfl (Nat.le_of_ble_eq_true rfl) (by simp [kcell, kRowB, kHallB, upd]) d kk
theorem gf_X7_4 (hc : kOk X g own cc nL ret D) {idx : Nat} (hl : Cond.fieldLink own idx "KeyDriftModel" "isThere" "Z" ∈ kT) (d : decode cc pc = .ok (.getfield idx, 3)) (kk : kP X g nL (pc + 3) lv (.int (σ 55 4) :: st) σ) : kP X g nL pc lv (kz g 55 :: st) σ := r_getf hc inX7 rfl (by decide) (show kcell g 55 (σ 55) = _ from rfl) 4 (by decide) hl rfl d kk
theorem pf_X7_4 (hc : kOk X g own cc nL ret D) {idx : Nat} (hl : Cond.fieldLink own idx "KeyDriftModel" "isThere" "Z" ∈ kT) {v : Int32} (hz : v = 0 ∨ v = 1) (d : decode cc pc = .ok (.putfield idx, 3)) (kk : kP X g nL (pc + 3) lv st (st2 σ 55 4 v)) : kP X g nL pc lv (.int v :: kz g 55 :: st) σ := r_putf hc inX7 tyX7_ok nmX7 rfl (by decide) (show kcell g 55 (σ 55) = _ from rfl) 4 (by decide) hl rfl (by rcases hz with rfl | rfl <;> rfl) (by rcases hz with rfl | rfl <;> rfl) (Nat.le_of_ble_eq_true rfl) (by simp [kcell, kRowB, kHallB, upd]) d kk
theorem gf_X7_5 (hc : kOk X g own cc nL ret D) {idx : Nat} (hl : Cond.fieldLink own idx "KeyDriftModel" "st" "[I" ∈ kT) (d : decode cc pc = .ok (.getfield idx, 3)) (kk : kP X g nL (pc + 3) lv (kz g 59 :: st) σ) : kP X g nL pc lv (kz g 55 :: st) σ := r_getf hc inX7 rfl (by decide) (show kcell g 55 (σ 55) = _ from rfl) 5 (by decide) hl rfl d kk
theorem gf_X7_6 (hc : kOk X g own cc nL ret D) {idx : Nat} (hl : Cond.fieldLink own idx "KeyDriftModel" "moved" "[I" ∈ kT) (d : decode cc pc = .ok (.getfield idx, 3)) (kk : kP X g nL (pc + 3) lv (kz g 60 :: st) σ) : kP X g nL pc lv (kz g 55 :: st) σ := r_getf hc inX7 rfl (by decide) (show kcell g 55 (σ 55) = _ from rfl) 6 (by decide) hl rfl d kk
theorem gf_X7_7 (hc : kOk X g own cc nL ret D) {idx : Nat} (hl : Cond.fieldLink own idx "KeyDriftModel" "tape" "[I" ∈ kT) (d : decode cc pc = .ok (.getfield idx, 3)) (kk : kP X g nL (pc + 3) lv (kz g 61 :: st) σ) : kP X g nL pc lv (kz g 55 :: st) σ := r_getf hc inX7 rfl (by decide) (show kcell g 55 (σ 55) = _ from rfl) 7 (by decide) hl rfl d kk
theorem gf_X7_8 (hc : kOk X g own cc nL ret D) {idx : Nat} (hl : Cond.fieldLink own idx "KeyDriftModel" "bytes" "I" ∈ kT) (d : decode cc pc = .ok (.getfield idx, 3)) (kk : kP X g nL (pc + 3) lv (.int (σ 55 8) :: st) σ) : kP X g nL pc lv (kz g 55 :: st) σ := r_getf hc inX7 rfl (by decide) (show kcell g 55 (σ 55) = _ from rfl) 8 (by decide) hl rfl d kk
theorem pf_X7_8 (hc : kOk X g own cc nL ret D) {idx : Nat} (hl : Cond.fieldLink own idx "KeyDriftModel" "bytes" "I" ∈ kT) {v : Int32} (d : decode cc pc = .ok (.putfield idx, 3)) (kk : kP X g nL (pc + 3) lv st (st2 σ 55 8 v)) : kP X g nL pc lv (.int v :: kz g 55 :: st) σ := r_putf hc inX7 tyX7_ok nmX7 rfl (by decide) (show kcell g 55 (σ 55) = _ from rfl) 8 (by decide) hl rfl rfl rfl (Nat.le_of_ble_eq_true rfl) (by simp [kcell, kRowB, kHallB, upd]) d kk
theorem gf_X7_9 (hc : kOk X g own cc nL ret D) {idx : Nat} (hl : Cond.fieldLink own idx "KeyDriftModel" "latest" "I" ∈ kT) (d : decode cc pc = .ok (.getfield idx, 3)) (kk : kP X g nL (pc + 3) lv (.int (σ 55 9) :: st) σ) : kP X g nL pc lv (kz g 55 :: st) σ := r_getf hc inX7 rfl (by decide) (show kcell g 55 (σ 55) = _ from rfl) 9 (by decide) hl rfl d kk
theorem pf_X7_9 (hc : kOk X g own cc nL ret D) {idx : Nat} (hl : Cond.fieldLink own idx "KeyDriftModel" "latest" "I" ∈ kT) {v : Int32} (d : decode cc pc = .ok (.putfield idx, 3)) (kk : kP X g nL (pc + 3) lv st (st2 σ 55 9 v)) : kP X g nL pc lv (.int v :: kz g 55 :: st) σ := r_putf hc inX7 tyX7_ok nmX7 rfl (by decide) (show kcell g 55 (σ 55) = _ from rfl) 9 (by decide) hl rfl rfl rfl (Nat.le_of_ble_eq_true rfl) (by simp [kcell, kRowB, kHallB, upd]) d kk
theorem gf_X7_10 (hc : kOk X g own cc nL ret D) {idx : Nat} (hl : Cond.fieldLink own idx "KeyDriftModel" "place" "I" ∈ kT) (d : decode cc pc = .ok (.getfield idx, 3)) (kk : kP X g nL (pc + 3) lv (.int (σ 55 10) :: st) σ) : kP X g nL pc lv (kz g 55 :: st) σ := r_getf hc inX7 rfl (by decide) (show kcell g 55 (σ 55) = _ from rfl) 10 (by decide) hl rfl d kk
theorem pf_X7_10 (hc : kOk X g own cc nL ret D) {idx : Nat} (hl : Cond.fieldLink own idx "KeyDriftModel" "place" "I" ∈ kT) {v : Int32} (d : decode cc pc = .ok (.putfield idx, 3)) (kk : kP X g nL (pc + 3) lv st (st2 σ 55 10 v)) : kP X g nL pc lv (.int v :: kz g 55 :: st) σ := r_putf hc inX7 tyX7_ok nmX7 rfl (by decide) (show kcell g 55 (σ 55) = _ from rfl) 10 (by decide) hl rfl rfl rfl (Nat.le_of_ble_eq_true rfl) (by simp [kcell, kRowB, kHallB, upd]) d kk
theorem gf_X7_11 (hc : kOk X g own cc nL ret D) {idx : Nat} (hl : Cond.fieldLink own idx "KeyDriftModel" "token" "I" ∈ kT) (d : decode cc pc = .ok (.getfield idx, 3)) (kk : kP X g nL (pc + 3) lv (.int (σ 55 11) :: st) σ) : kP X g nL pc lv (kz g 55 :: st) σ := r_getf hc inX7 rfl (by decide) (show kcell g 55 (σ 55) = _ from rfl) 11 (by decide) hl rfl d kk
theorem pf_X7_11 (hc : kOk X g own cc nL ret D) {idx : Nat} (hl : Cond.fieldLink own idx "KeyDriftModel" "token" "I" ∈ kT) {v : Int32} (d : decode cc pc = .ok (.putfield idx, 3)) (kk : kP X g nL (pc + 3) lv st (st2 σ 55 11 v)) : kP X g nL pc lv (.int v :: kz g 55 :: st) σ := r_putf hc inX7 tyX7_ok nmX7 rfl (by decide) (show kcell g 55 (σ 55) = _ from rfl) 11 (by decide) hl rfl rfl rfl (Nat.le_of_ble_eq_true rfl) (by simp [kcell, kRowB, kHallB, upd]) d kk
theorem gf_X7_12 (hc : kOk X g own cc nL ret D) {idx : Nat} (hl : Cond.fieldLink own idx "KeyDriftModel" "value" "I" ∈ kT) (d : decode cc pc = .ok (.getfield idx, 3)) (kk : kP X g nL (pc + 3) lv (.int (σ 55 12) :: st) σ) : kP X g nL pc lv (kz g 55 :: st) σ := r_getf hc inX7 rfl (by decide) (show kcell g 55 (σ 55) = _ from rfl) 12 (by decide) hl rfl d kk
theorem pf_X7_12 (hc : kOk X g own cc nL ret D) {idx : Nat} (hl : Cond.fieldLink own idx "KeyDriftModel" "value" "I" ∈ kT) {v : Int32} (d : decode cc pc = .ok (.putfield idx, 3)) (kk : kP X g nL (pc + 3) lv st (st2 σ 55 12 v)) : kP X g nL pc lv (.int v :: kz g 55 :: st) σ := r_putf hc inX7 tyX7_ok nmX7 rfl (by decide) (show kcell g 55 (σ 55) = _ from rfl) 12 (by decide) hl rfl rfl rfl (Nat.le_of_ble_eq_true rfl) (by simp [kcell, kRowB, kHallB, upd]) d kk
theorem gf_X7_13 (hc : kOk X g own cc nL ret D) {idx : Nat} (hl : Cond.fieldLink own idx "KeyDriftModel" "begins" "I" ∈ kT) (d : decode cc pc = .ok (.getfield idx, 3)) (kk : kP X g nL (pc + 3) lv (.int (σ 55 13) :: st) σ) : kP X g nL pc lv (kz g 55 :: st) σ := r_getf hc inX7 rfl (by decide) (show kcell g 55 (σ 55) = _ from rfl) 13 (by decide) hl rfl d kk
theorem pf_X7_13 (hc : kOk X g own cc nL ret D) {idx : Nat} (hl : Cond.fieldLink own idx "KeyDriftModel" "begins" "I" ∈ kT) {v : Int32} (d : decode cc pc = .ok (.putfield idx, 3)) (kk : kP X g nL (pc + 3) lv st (st2 σ 55 13 v)) : kP X g nL pc lv (.int v :: kz g 55 :: st) σ := r_putf hc inX7 tyX7_ok nmX7 rfl (by decide) (show kcell g 55 (σ 55) = _ from rfl) 13 (by decide) hl rfl rfl rfl (Nat.le_of_ble_eq_true rfl) (by simp [kcell, kRowB, kHallB, upd]) d kk
theorem gf_X7_14 (hc : kOk X g own cc nL ret D) {idx : Nat} (hl : Cond.fieldLink own idx "KeyDriftModel" "wrong" "I" ∈ kT) (d : decode cc pc = .ok (.getfield idx, 3)) (kk : kP X g nL (pc + 3) lv (.int (σ 55 14) :: st) σ) : kP X g nL pc lv (kz g 55 :: st) σ := r_getf hc inX7 rfl (by decide) (show kcell g 55 (σ 55) = _ from rfl) 14 (by decide) hl rfl d kk
theorem pf_X7_14 (hc : kOk X g own cc nL ret D) {idx : Nat} (hl : Cond.fieldLink own idx "KeyDriftModel" "wrong" "I" ∈ kT) {v : Int32} (d : decode cc pc = .ok (.putfield idx, 3)) (kk : kP X g nL (pc + 3) lv st (st2 σ 55 14 v)) : kP X g nL pc lv (.int v :: kz g 55 :: st) σ := r_putf hc inX7 tyX7_ok nmX7 rfl (by decide) (show kcell g 55 (σ 55) = _ from rfl) 14 (by decide) hl rfl rfl rfl (Nat.le_of_ble_eq_true rfl) (by simp [kcell, kRowB, kHallB, upd]) d kk
theorem gf_X7_15 (hc : kOk X g own cc nL ret D) {idx : Nat} (hl : Cond.fieldLink own idx "KeyDriftModel" "read" "[I" ∈ kT) (d : decode cc pc = .ok (.getfield idx, 3)) (kk : kP X g nL (pc + 3) lv (kz g 62 :: st) σ) : kP X g nL pc lv (kz g 55 :: st) σ := r_getf hc inX7 rfl (by decide) (show kcell g 55 (σ 55) = _ from rfl) 15 (by decide) hl rfl d kk
theorem gf_X7_16 (hc : kOk X g own cc nL ret D) {idx : Nat} (hl : Cond.fieldLink own idx "KeyDriftModel" "acts" "[I" ∈ kT) (d : decode cc pc = .ok (.getfield idx, 3)) (kk : kP X g nL (pc + 3) lv (kz g 63 :: st) σ) : kP X g nL pc lv (kz g 55 :: st) σ := r_getf hc inX7 rfl (by decide) (show kcell g 55 (σ 55) = _ from rfl) 16 (by decide) hl rfl d kk
theorem gf_X7_17 (hc : kOk X g own cc nL ret D) {idx : Nat} (hl : Cond.fieldLink own idx "KeyDriftModel" "actMany" "I" ∈ kT) (d : decode cc pc = .ok (.getfield idx, 3)) (kk : kP X g nL (pc + 3) lv (.int (σ 55 17) :: st) σ) : kP X g nL pc lv (kz g 55 :: st) σ := r_getf hc inX7 rfl (by decide) (show kcell g 55 (σ 55) = _ from rfl) 17 (by decide) hl rfl d kk
theorem pf_X7_17 (hc : kOk X g own cc nL ret D) {idx : Nat} (hl : Cond.fieldLink own idx "KeyDriftModel" "actMany" "I" ∈ kT) {v : Int32} (d : decode cc pc = .ok (.putfield idx, 3)) (kk : kP X g nL (pc + 3) lv st (st2 σ 55 17 v)) : kP X g nL pc lv (.int v :: kz g 55 :: st) σ := r_putf hc inX7 tyX7_ok nmX7 rfl (by decide) (show kcell g 55 (σ 55) = _ from rfl) 17 (by decide) hl rfl rfl rfl (Nat.le_of_ble_eq_true rfl) (by simp [kcell, kRowB, kHallB, upd]) d kk
theorem gf_X7_18 (hc : kOk X g own cc nL ret D) {idx : Nat} (hl : Cond.fieldLink own idx "KeyDriftModel" "leastKey" "I" ∈ kT) (d : decode cc pc = .ok (.getfield idx, 3)) (kk : kP X g nL (pc + 3) lv (.int (σ 55 18) :: st) σ) : kP X g nL pc lv (kz g 55 :: st) σ := r_getf hc inX7 rfl (by decide) (show kcell g 55 (σ 55) = _ from rfl) 18 (by decide) hl rfl d kk
theorem pf_X7_18 (hc : kOk X g own cc nL ret D) {idx : Nat} (hl : Cond.fieldLink own idx "KeyDriftModel" "leastKey" "I" ∈ kT) {v : Int32} (d : decode cc pc = .ok (.putfield idx, 3)) (kk : kP X g nL (pc + 3) lv st (st2 σ 55 18 v)) : kP X g nL pc lv (.int v :: kz g 55 :: st) σ := r_putf hc inX7 tyX7_ok nmX7 rfl (by decide) (show kcell g 55 (σ 55) = _ from rfl) 18 (by decide) hl rfl rfl rfl (Nat.le_of_ble_eq_true rfl) (by simp [kcell, kRowB, kHallB, upd]) d kk
theorem gf_X7_19 (hc : kOk X g own cc nL ret D) {idx : Nat} (hl : Cond.fieldLink own idx "KeyDriftModel" "mostKey" "I" ∈ kT) (d : decode cc pc = .ok (.getfield idx, 3)) (kk : kP X g nL (pc + 3) lv (.int (σ 55 19) :: st) σ) : kP X g nL pc lv (kz g 55 :: st) σ := r_getf hc inX7 rfl (by decide) (show kcell g 55 (σ 55) = _ from rfl) 19 (by decide) hl rfl d kk
theorem pf_X7_19 (hc : kOk X g own cc nL ret D) {idx : Nat} (hl : Cond.fieldLink own idx "KeyDriftModel" "mostKey" "I" ∈ kT) {v : Int32} (d : decode cc pc = .ok (.putfield idx, 3)) (kk : kP X g nL (pc + 3) lv st (st2 σ 55 19 v)) : kP X g nL pc lv (.int v :: kz g 55 :: st) σ := r_putf hc inX7 tyX7_ok nmX7 rfl (by decide) (show kcell g 55 (σ 55) = _ from rfl) 19 (by decide) hl rfl rfl rfl (Nat.le_of_ble_eq_true rfl) (by simp [kcell, kRowB, kHallB, upd]) d kk
theorem gf_X7_20 (hc : kOk X g own cc nL ret D) {idx : Nat} (hl : Cond.fieldLink own idx "KeyDriftModel" "fewest" "[I" ∈ kT) (d : decode cc pc = .ok (.getfield idx, 3)) (kk : kP X g nL (pc + 3) lv (kz g 64 :: st) σ) : kP X g nL pc lv (kz g 55 :: st) σ := r_getf hc inX7 rfl (by decide) (show kcell g 55 (σ 55) = _ from rfl) 20 (by decide) hl rfl d kk
theorem gf_X7_21 (hc : kOk X g own cc nL ret D) {idx : Nat} (hl : Cond.fieldLink own idx "KeyDriftModel" "then" "[I" ∈ kT) (d : decode cc pc = .ok (.getfield idx, 3)) (kk : kP X g nL (pc + 3) lv (kz g 65 :: st) σ) : kP X g nL pc lv (kz g 55 :: st) σ := r_getf hc inX7 rfl (by decide) (show kcell g 55 (σ 55) = _ from rfl) 21 (by decide) hl rfl d kk
theorem gf_X7_22 (hc : kOk X g own cc nL ret D) {idx : Nat} (hl : Cond.fieldLink own idx "KeyDriftModel" "isKept" "[Z" ∈ kT) (d : decode cc pc = .ok (.getfield idx, 3)) (kk : kP X g nL (pc + 3) lv (kz g 66 :: st) σ) : kP X g nL pc lv (kz g 55 :: st) σ := r_getf hc inX7 rfl (by decide) (show kcell g 55 (σ 55) = _ from rfl) 22 (by decide) hl rfl d kk
theorem gf_X7_23 (hc : kOk X g own cc nL ret D) {idx : Nat} (hl : Cond.fieldLink own idx "KeyDriftModel" "kept" "[I" ∈ kT) (d : decode cc pc = .ok (.getfield idx, 3)) (kk : kP X g nL (pc + 3) lv (kz g 67 :: st) σ) : kP X g nL pc lv (kz g 55 :: st) σ := r_getf hc inX7 rfl (by decide) (show kcell g 55 (σ 55) = _ from rfl) 23 (by decide) hl rfl d kk
theorem gf_X7_24 (hc : kOk X g own cc nL ret D) {idx : Nat} (hl : Cond.fieldLink own idx "KeyDriftModel" "trace" "[I" ∈ kT) (d : decode cc pc = .ok (.getfield idx, 3)) (kk : kP X g nL (pc + 3) lv (kz g 68 :: st) σ) : kP X g nL pc lv (kz g 55 :: st) σ := r_getf hc inX7 rfl (by decide) (show kcell g 55 (σ 55) = _ from rfl) 24 (by decide) hl rfl d kk
theorem gf_X7_25 (hc : kOk X g own cc nL ret D) {idx : Nat} (hl : Cond.fieldLink own idx "KeyDriftModel" "traced" "I" ∈ kT) (d : decode cc pc = .ok (.getfield idx, 3)) (kk : kP X g nL (pc + 3) lv (.int (σ 55 25) :: st) σ) : kP X g nL pc lv (kz g 55 :: st) σ := r_getf hc inX7 rfl (by decide) (show kcell g 55 (σ 55) = _ from rfl) 25 (by decide) hl rfl d kk
theorem pf_X7_25 (hc : kOk X g own cc nL ret D) {idx : Nat} (hl : Cond.fieldLink own idx "KeyDriftModel" "traced" "I" ∈ kT) {v : Int32} (d : decode cc pc = .ok (.putfield idx, 3)) (kk : kP X g nL (pc + 3) lv st (st2 σ 55 25 v)) : kP X g nL pc lv (.int v :: kz g 55 :: st) σ := r_putf hc inX7 tyX7_ok nmX7 rfl (by decide) (show kcell g 55 (σ 55) = _ from rfl) 25 (by decide) hl rfl rfl rfl (Nat.le_of_ble_eq_true rfl) (by simp [kcell, kRowB, kHallB, upd]) d kk
end KF
