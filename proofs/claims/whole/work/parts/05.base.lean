/-! ===== the store: every mutable int of the two systems, by cell (counted from the first that the law makes) and slot ===== -/
abbrev kS : Type := Nat → Nat → Int32
def st2 (σ : kS) (c k : Nat) (v : Int32) : kS := va_up σ c (upd (σ c) k v)
/-- D; the classes of int[], boolean[], Row[], Hall[]; the cells' addresses; where new cells begin; the address of ABOVE -/
abbrev kG : Type := va_G × (ClassId × ClassId × ClassId × ClassId) × (Nat → Nat) × Nat × Nat
abbrev kz (g : kG) (c : Nat) : Value := .ref (g.2.2.1 c)
def klen (c : Nat) : Nat := [0, 8, 0, 40, 0, 40, 0, 40, 0, 40, 0, 40, 0, 40, 0, 40, 0, 40, 2, 0, 4, 32, 5, 5, 5, 0, 4, 32, 5, 5, 5, 0, 120, 0, 4, 32, 5, 5, 5, 0, 4, 32, 5, 5, 5, 0, 24, 24, 24, 0, 5, 5, 4, 0, 16, 0, 8, 8, 320, 57, 40, 120, 57, 1368, 12, 12, 2, 114, 16].getD c 0
def kHallB (c : Nat) : Bool := c == 19 || c == 25 || c == 33 || c == 39
def kRowB (c : Nat) : Bool := decide (2 ≤ c) && decide (c < 18) && c % 2 == 0
def kRowsF (g : kG) : Nat → Option Nat := va_up (va_up (va_up (va_up (va_up (va_up (va_up (va_up ((fun _ => none)) 0 (some (g.2.2.1 2))) 1 (some (g.2.2.1 4))) 2 (some (g.2.2.1 6))) 3 (some (g.2.2.1 8))) 4 (some (g.2.2.1 10))) 5 (some (g.2.2.1 12))) 6 (some (g.2.2.1 14))) 7 (some (g.2.2.1 16))
def kHallsF (g : kG) : Nat → Option Nat := va_up (va_up (fun _ => none) 0 (some (g.2.2.1 19))) 1 (some (g.2.2.1 25))
theorem kRowsF_at {g : kG} {j : Nat} (h : j < 8) : kRowsF g j = some (g.2.2.1 (2 + 2 * j)) := by
  match j, h with
  | 0, _ => rfl
  | 1, _ => rfl
  | 2, _ => rfl
  | 3, _ => rfl
  | 4, _ => rfl
  | 5, _ => rfl
  | 6, _ => rfl
  | 7, _ => rfl
  | n + 8, h => exact absurd h (by omega)
theorem kHallsF_at {g : kG} {j : Nat} (h : j < 2) : kHallsF g j = some (g.2.2.1 (19 + 6 * j)) := by
  match j, h with
  | 0, _ => rfl
  | 1, _ => rfl
  | n + 2, h => exact absurd h (by omega)
def kcell (g : kG) (c : Nat) (r : Nat → Int32) : va_E :=
  if c = 0 then .inr (6, [kz g 1, kz g 31, kz g 33, kz g 39, kz g 18, kz g 45, kz g 49, kz g 53, .int (r 8)])
  else if c = 1 then .inl (g.2.1.2.2.1, 8, .inr (.inr (.inr (.inr (kRowsF g)))))
  else if kRowB c then .inr (4, [kz g (c + 1), .int (r 1), .int (r 2)])
  else if c = 18 then .inl (g.2.1.2.2.2, 2, .inr (.inr (.inr (.inr (kHallsF g)))))
  else if kHallB c then .inr (3, [kz g (c + 1), kz g (c + 2), kz g (c + 3), kz g (c + 4), kz g (c + 5), .int (r 5), .int (r 6), .int (r 7), .int (r 8), .int (r 9), .int (r 10)])
  else if c = 31 then .inr (5, [kz g 32, .int (r 1), .int (r 2), .int (r 3), .int (r 4), .int (r 5)])
  else if c = 45 then .inr (0, [kz g 46, kz g 47, kz g 48, .int (r 3), .int (r 4)])
  else if c = 49 then .inr (2, [kz g 33, kz g 50, kz g 51, kz g 52])
  else if c = 53 then .inr (1, [kz g 54, .int (r 1), .int (r 2), .int (r 3), .int (r 4), .int (r 5)])
  else if c = 55 then .inr (7, [kz g 56, kz g 57, kz g 58, .int (r 3), .int (r 4), kz g 59, kz g 60, kz g 61, .int (r 8), .int (r 9), .int (r 10), .int (r 11), .int (r 12), .int (r 13), .int (r 14), kz g 62, kz g 63, .int (r 17), .int (r 18), .int (r 19), kz g 64, kz g 65, kz g 66, kz g 67, kz g 68, .int (r 25)])
  else if c = 66 then .inl (g.2.1.2.1, 2, .inl r)
  else .inl (g.2.1.1, klen c, .inl r)
def kW (g : kG) (σ : kS) : va_W := (List.range 69).map (fun c => (g.2.2.1 c, kcell g c (σ c)))
theorem kW_at {g : kG} {σ : kS} {c : Nat} (h : c < 69) : (kW g σ)[c]? = some (g.2.2.1 c, kcell g c (σ c)) := by
  simp [kW, h]
theorem kW_len {g : kG} {σ : kS} : (kW g σ).length = 69 := by simp [kW]
theorem kW_set {g : kG} {σ : kS} {c : Nat} {r : Nat → Int32} {e : va_E} (he : kcell g c r = e) : (kW g σ).set c (g.2.2.1 c, e) = kW g (va_up σ c r) := by
  subst he
  apply List.ext_getElem?
  intro i
  by_cases hi : i < 69
  · by_cases hc : i = c
    · subst hc
      rw [List.getElem?_set_self (by rw [kW_len]; exact hi), kW_at hi]
      simp [va_up]
    · rw [List.getElem?_set_ne (Ne.symm hc), kW_at hi, kW_at hi]
      simp [va_up, hc]
  · rw [List.getElem?_eq_none (by rw [List.length_set, kW_len]; omega), List.getElem?_eq_none (by rw [kW_len]; omega)]
abbrev kA (g : kG) : Nat → Prop := fun q => g.2.2.2.1 ≤ q
def kAd (g : kG) : Prop := (∀ i j : Nat, i < 69 → j < 69 → g.2.2.1 i = g.2.2.1 j → i = j) ∧ ∀ i : Nat, i < 69 → g.2.2.2.1 ≤ g.2.2.1 i
theorem kW_inv {g : kG} {σ : kS} {k : Nat} {q : Nat × va_E} (h : (kW g σ)[k]? = some q) : k < 69 ∧ q = (g.2.2.1 k, kcell g k (σ k)) := by
  by_cases hk : k < 69
  · rw [kW_at hk] at h
    cases h
    exact ⟨hk, rfl⟩
  · rw [List.getElem?_eq_none (by rw [kW_len]; omega)] at h
    cases h
theorem kW_D {g : kG} {σ : kS} (h : kAd g) : va_D (kA g) (kW g σ) := by
  refine ⟨fun i j p q hi hj e => ?_, fun k q hk => ?_⟩
  · obtain ⟨h1, rfl⟩ := kW_inv hi
    obtain ⟨h2, rfl⟩ := kW_inv hj
    exact h.1 i j h1 h2 e
  · obtain ⟨h1, rfl⟩ := kW_inv hk
    exact h.2 k h1
abbrev kTy (g : kG) : List (ClassId × FieldType) := [(g.2.1.1, .int), (g.2.1.2.1, .boolean), (g.2.1.2.2.1, .object "KeyDrift$Row"), (g.2.1.2.2.2, .object "KeyDrift$Hall")]
def kabv (j : Nat) : Int32 := [0, 0, 1, 1, 0, 4].getD j 0
/-- what is known of a state's tables, and of ABOVE -/
def kEn (g : kG) (U : State) (H : Heap) : Prop := va_K g.1 vwCl (kTy g) U ∧ va_Z "KeyDrift$Asked" "ABOVE" "[I" (.ref g.2.2.2.2) (kA g) U H ∧ va_T .int g.2.2.2.2 6 (fun j => .int (kabv j)) (kA g) U H ∧ kAd g
theorem kEn.moved {g : kG} {u U : State} {H : Heap} (hvm : u.vm.Alike U.vm) (h : kEn g u H) : kEn g U H := ⟨va_K.moved hvm h.1, va_Z.moved hvm h.2.1, va_T.moved hvm h.2.2.1, h.2.2.2⟩
theorem kEn.kept {g : kG} {U : State} {H H1 : Heap} (h : kEn g U H) (hq : ∀ a : Nat, a < H.size → ¬ kA g a → H1[a]? = H[a]?) : kEn g U H1 := ⟨h.1, va_Z.kept h.2.1 hq, va_T.kept h.2.2.1 hq, h.2.2.2⟩
/-- a place in a method: program, launch, env, room, state at its start, method, args, below, method, code, cells, slots, what is to come -/
abbrev kX : Type := Program × Launch × Env × Room × State × MethodId × Array Value × List Frame × Method × Code × Nat × Nat × (State → Prop)
abbrev kXl (X : kX) : Launch := X.2.1
abbrev kXe (X : kX) : Env := X.2.2.1
abbrev kXR (X : kX) : Room := X.2.2.2.1
abbrev kXs (X : kX) : State := X.2.2.2.2.1
abbrev kXm (X : kX) : MethodId := X.2.2.2.2.2.1
abbrev kXa (X : kX) : Array Value := X.2.2.2.2.2.2.1
abbrev kXb (X : kX) : List Frame := X.2.2.2.2.2.2.2.1
abbrev kXt (X : kX) : Method := X.2.2.2.2.2.2.2.2.1
abbrev kXc (X : kX) : Code := X.2.2.2.2.2.2.2.2.2.1
abbrev kXce (X : kX) : Nat := X.2.2.2.2.2.2.2.2.2.2.1
abbrev kXsl (X : kX) : Nat := X.2.2.2.2.2.2.2.2.2.2.2.1
abbrev kXZ (X : kX) : State → Prop := X.2.2.2.2.2.2.2.2.2.2.2.2
abbrev kWW (X : kX) (H : Heap) (locs : List Loc) (f : JFrame) : Prop := W X.1 (kXl X) (kXe X) (kXR X) (kXs X) (kXm X) (kXa X) (kXb X) (kXt X) (kXc X) H locs (kXce X) (kXsl X) (kXZ X) f
def kP (X : kX) (g : kG) (nL pc : Nat) (lv : List (Nat × Value)) (st : List Value) (σ : kS) : Prop :=
  ∀ (H : Heap) (locs : List Loc) (ls : Array Slot), va_P g.1 vwCl (kW g σ) H → va_S (kA g) (kXs X).heap H locs → lv_has ls nL lv → kWW X H locs (F0 (kXm X) pc ls st)
def kOk (X : kX) (g : kG) (own : String) (cc : ByteArray) (nL : Nat) (ret : Option FieldType) (D : Nat) : Prop :=
  X.1.tables.exec = Jvm.exec ∧ (kXc X).code = cc ∧ (kXt X).sig.returnType = ret ∧ (kXc X).maxLocals = nL ∧ (kXs X).vm.findClass own = some (kXm X).cls ∧ (∀ w ∈ kT, w.before (kXa X) (kXs X) = true) ∧ kEn g (kXs X) (kXs X).heap ∧ (kXt X).locks = false ∧ (kXce X ≤ (kXR X).cells ∧ kXsl X ≤ (kXR X).slots) ∧ (D ≤ (kXR X).frames ∧ 64 * D ≤ (kXR X).locals)
section KR
variable {X : kX} {g : kG} {own : String} {cc : ByteArray} {nL D : Nat} {ret : Option FieldType} {pc : Nat} {lv lv' : List (Nat × Value)} {st : List Value} {σ : kS}
theorem r_sub (ks : List Nat) (hl : lv_pick lv ks = lv') (kk : kP X g nL pc lv' st σ) : kP X g nL pc lv st σ := fun H locs ls hP hS h => kk H locs ls hP hS (lv_sub h ks hl)
theorem r_nmI {x : Int32} (kk : ∀ y : Int32, y = x → kP X g nL pc lv (.int y :: st) σ) : kP X g nL pc lv (.int x :: st) σ := kk x rfl
theorem r_nmJ {x : Int64} (kk : ∀ y : Int64, y = x → kP X g nL pc lv (.long y :: st) σ) : kP X g nL pc lv (.long x :: st) σ := kk x rfl
theorem r_nmS (kk : ∀ τ : kS, τ = σ → kP X g nL pc lv st τ) : kP X g nL pc lv st σ := kk σ rfl
def krem (x y : Int32) : Int32 := x - x / y * y
def kremL (x y : Int64) : Int64 := x - x / y * y
def k_ushr (x y : Int32) : Int32 := (x.toUInt32 >>> (y.toUInt32 &&& Int32.toUInt32 31)).toInt32

theorem r_iconst (hc : kOk X g own cc nL ret D) {n : Int} {v : Int32} (d : decode cc pc = .ok (.iconst n, 1)) (hv : Int32.ofInt n = v) (kk : kP X g nL (pc + 1) lv (.int v :: st) σ) : kP X g nL pc lv (st) σ := fun H locs ls hP hS hl => lv_iconst hc.1 hc.2.1 d hv (kk H locs ls hP hS hl)
theorem r_bipush (hc : kOk X g own cc nL ret D) {n : Int} {v : Int32} (d : decode cc pc = .ok (.bipush n, 2)) (hv : (Int8.ofInt n).toInt32 = v) (kk : kP X g nL (pc + 2) lv (.int v :: st) σ) : kP X g nL pc lv (st) σ := fun H locs ls hP hS hl => lv_bipush hc.1 hc.2.1 d hv (kk H locs ls hP hS hl)
theorem r_sipush (hc : kOk X g own cc nL ret D) {n : Int} {v : Int32} (d : decode cc pc = .ok (.sipush n, 3)) (hv : (Int16.ofInt n).toInt32 = v) (kk : kP X g nL (pc + 3) lv (.int v :: st) σ) : kP X g nL pc lv (st) σ := fun H locs ls hP hS hl => lv_sipush hc.1 hc.2.1 d hv (kk H locs ls hP hS hl)
theorem r_lconst (hc : kOk X g own cc nL ret D) {n : Fin 2} {v : Int64} (d : decode cc pc = .ok (.lconst n, 1)) (hv : Int64.ofNat (n : Nat) = v) (kk : kP X g nL (pc + 1) lv (.long v :: st) σ) : kP X g nL pc lv (st) σ := fun H locs ls hP hS hl => lv_lconst hc.1 hc.2.1 d hv (kk H locs ls hP hS hl)
theorem r_ldc (hc : kOk X g own cc nL ret D) {i : Nat} {v : Int32} (hw : Cond.constant own i v ∈ kT) (d : decode cc pc = .ok (.ldc i, 2))  (kk : kP X g nL (pc + 2) lv (.int v :: st) σ) : kP X g nL pc lv (st) σ := fun H locs ls hP hS hl => lv_ldc hc.1 hc.2.1 hc.2.2.2.2.1 (hc.2.2.2.2.2.1 _ hw) d (kk H locs ls hP hS hl)
theorem r_ldc_w (hc : kOk X g own cc nL ret D) {i : Nat} {v : Int32} (hw : Cond.constant own i v ∈ kT) (d : decode cc pc = .ok (.ldc_w i, 3))  (kk : kP X g nL (pc + 3) lv (.int v :: st) σ) : kP X g nL pc lv (st) σ := fun H locs ls hP hS hl => lv_ldcw hc.1 hc.2.1 hc.2.2.2.2.1 (hc.2.2.2.2.2.1 _ hw) d (kk H locs ls hP hS hl)
theorem r_ldc2_w (hc : kOk X g own cc nL ret D) {i : Nat} {v : Int64} (hw : Cond.constantLong own i v ∈ kT) (d : decode cc pc = .ok (.ldc2_w i, 3))  (kk : kP X g nL (pc + 3) lv (.long v :: st) σ) : kP X g nL pc lv (st) σ := fun H locs ls hP hS hl => lv_ldc2 hc.1 hc.2.1 hc.2.2.2.2.1 (hc.2.2.2.2.2.1 _ hw) d (kk H locs ls hP hS hl)
theorem r_iload_n (hc : kOk X g own cc nL ret D) (k : Nat) {n : Fin 4} {x : Int32} (d : decode cc pc = .ok (.iload_n n, 1)) (hk : lv[k]? = some (n.val, .int x)) (kk : kP X g nL (pc + 1) lv (.int x :: st) σ) : kP X g nL pc lv (st) σ := fun H locs ls hP hS hl => lv_iload_n hc.1 hc.2.1 d rfl (lv_at hl k hk) (kk H locs ls hP hS hl)
theorem r_iload (hc : kOk X g own cc nL ret D) (k : Nat) {n : Nat} {x : Int32} (d : decode cc pc = .ok (.iload n, 2)) (hk : lv[k]? = some (n, .int x)) (kk : kP X g nL (pc + 2) lv (.int x :: st) σ) : kP X g nL pc lv (st) σ := fun H locs ls hP hS hl => lv_iload hc.1 hc.2.1 d (lv_at hl k hk) (kk H locs ls hP hS hl)
theorem r_lload_n (hc : kOk X g own cc nL ret D) (k : Nat) {n : Fin 4} {x : Int64} (d : decode cc pc = .ok (.lload_n n, 1)) (hk : lv[k]? = some (n.val, .long x)) (kk : kP X g nL (pc + 1) lv (.long x :: st) σ) : kP X g nL pc lv (st) σ := fun H locs ls hP hS hl => lv_lload_n hc.1 hc.2.1 d rfl (lv_at hl k hk) (kk H locs ls hP hS hl)
theorem r_lload (hc : kOk X g own cc nL ret D) (k : Nat) {n : Nat} {x : Int64} (d : decode cc pc = .ok (.lload n, 2)) (hk : lv[k]? = some (n, .long x)) (kk : kP X g nL (pc + 2) lv (.long x :: st) σ) : kP X g nL pc lv (st) σ := fun H locs ls hP hS hl => lv_lload hc.1 hc.2.1 d (lv_at hl k hk) (kk H locs ls hP hS hl)
theorem r_aload_n (hc : kOk X g own cc nL ret D) (k : Nat) {n : Fin 4} {x : Nat} (d : decode cc pc = .ok (.aload_n n, 1)) (hk : lv[k]? = some (n.val, .ref x)) (kk : kP X g nL (pc + 1) lv (.ref x :: st) σ) : kP X g nL pc lv (st) σ := fun H locs ls hP hS hl => lv_aload_n hc.1 hc.2.1 d rfl (lv_at hl k hk) (kk H locs ls hP hS hl)
theorem r_aload (hc : kOk X g own cc nL ret D) (k : Nat) {n : Nat} {x : Nat} (d : decode cc pc = .ok (.aload n, 2)) (hk : lv[k]? = some (n, .ref x)) (kk : kP X g nL (pc + 2) lv (.ref x :: st) σ) : kP X g nL pc lv (st) σ := fun H locs ls hP hS hl => lv_aload hc.1 hc.2.1 d (lv_at hl k hk) (kk H locs ls hP hS hl)
theorem r_istore_n (hc : kOk X g own cc nL ret D) {n : Fin 4} {x : Int32} (lv' : List (Nat × Value)) (d : decode cc pc = .ok (.istore_n n, 1)) (hn : n.val < nL) (hl : (n.val, Value.int x) :: lv.filter (fun q => !(q.1 == n.val) && !(q.1 + 1 == n.val && q.2.category == 2)) = lv') (kk : kP X g nL (pc + 1) lv' st σ) : kP X g nL pc lv (Value.int x :: st) σ := fun H locs _ hP hS h => lv_istore_n hc.1 hc.2.1 d rfl h hn hl (fun ls' h' => kk H locs ls' hP hS h')
theorem r_istore (hc : kOk X g own cc nL ret D) {n : Nat} {x : Int32} (lv' : List (Nat × Value)) (d : decode cc pc = .ok (.istore n, 2)) (hn : n < nL) (hl : (n, Value.int x) :: lv.filter (fun q => !(q.1 == n) && !(q.1 + 1 == n && q.2.category == 2)) = lv') (kk : kP X g nL (pc + 2) lv' st σ) : kP X g nL pc lv (Value.int x :: st) σ := fun H locs _ hP hS h => lv_istore hc.1 hc.2.1 d h hn hl (fun ls' h' => kk H locs ls' hP hS h')
theorem r_astore_n (hc : kOk X g own cc nL ret D) {n : Fin 4} {x : Nat} (lv' : List (Nat × Value)) (d : decode cc pc = .ok (.astore_n n, 1)) (hn : n.val < nL) (hl : (n.val, Value.ref x) :: lv.filter (fun q => !(q.1 == n.val) && !(q.1 + 1 == n.val && q.2.category == 2)) = lv') (kk : kP X g nL (pc + 1) lv' st σ) : kP X g nL pc lv (Value.ref x :: st) σ := fun H locs _ hP hS h => lv_astore_n hc.1 hc.2.1 d rfl h hn hl (fun ls' h' => kk H locs ls' hP hS h')
theorem r_astore (hc : kOk X g own cc nL ret D) {n : Nat} {x : Nat} (lv' : List (Nat × Value)) (d : decode cc pc = .ok (.astore n, 2)) (hn : n < nL) (hl : (n, Value.ref x) :: lv.filter (fun q => !(q.1 == n) && !(q.1 + 1 == n && q.2.category == 2)) = lv') (kk : kP X g nL (pc + 2) lv' st σ) : kP X g nL pc lv (Value.ref x :: st) σ := fun H locs _ hP hS h => lv_astore hc.1 hc.2.1 d h hn hl (fun ls' h' => kk H locs ls' hP hS h')
theorem r_lstore_n (hc : kOk X g own cc nL ret D) {n : Fin 4} {x : Int64} (lv' : List (Nat × Value)) (d : decode cc pc = .ok (.lstore_n n, 1)) (hn : n.val + 1 < nL) (hl : (n.val, Value.long x) :: lv.filter (fun q => !(q.1 == n.val) && (!(q.1 == n.val + 1) && !(q.1 + 1 == n.val && q.2.category == 2))) = lv') (kk : kP X g nL (pc + 1) lv' st σ) : kP X g nL pc lv (Value.long x :: st) σ := fun H locs _ hP hS h => lv_lstore_n hc.1 hc.2.1 d rfl h hn hl (fun ls' h' => kk H locs ls' hP hS h')
theorem r_lstore (hc : kOk X g own cc nL ret D) {n : Nat} {x : Int64} (lv' : List (Nat × Value)) (d : decode cc pc = .ok (.lstore n, 2)) (hn : n + 1 < nL) (hl : (n, Value.long x) :: lv.filter (fun q => !(q.1 == n) && (!(q.1 == n + 1) && !(q.1 + 1 == n && q.2.category == 2))) = lv') (kk : kP X g nL (pc + 2) lv' st σ) : kP X g nL pc lv (Value.long x :: st) σ := fun H locs _ hP hS h => lv_lstore hc.1 hc.2.1 d h hn hl (fun ls' h' => kk H locs ls' hP hS h')
theorem r_iinc (hc : kOk X g own cc nL ret D) (k : Nat) {i : Nat} {n : Int} {x v : Int32} (lv' : List (Nat × Value)) (d : decode cc pc = .ok (.iinc i n, 3)) (hk : lv[k]? = some (i, .int x)) (hv : x + Int32.ofInt n = v) (hn : i < nL) (hl : (i, Value.int v) :: lv.filter (fun q => !(q.1 == i) && !(q.1 + 1 == i && q.2.category == 2)) = lv') (kk : kP X g nL (pc + 3) lv' st σ) : kP X g nL pc lv st σ := fun H locs _ hP hS h => lv_iinc hc.1 hc.2.1 d h hk hv hn hl (fun ls' h' => kk H locs ls' hP hS h')
theorem r_iadd (hc : kOk X g own cc nL ret D) {x y : Int32} (d : decode cc pc = .ok (.iadd, 1))  (kk : kP X g nL (pc + 1) lv (.int (x + y) :: st) σ) : kP X g nL pc lv (.int y :: .int x :: st) σ := fun H locs ls hP hS hl => lv_iadd hc.1 hc.2.1 d (kk H locs ls hP hS hl)
theorem r_ladd (hc : kOk X g own cc nL ret D) {x y : Int64} (d : decode cc pc = .ok (.ladd, 1))  (kk : kP X g nL (pc + 1) lv (.long (x + y) :: st) σ) : kP X g nL pc lv (.long y :: .long x :: st) σ := fun H locs ls hP hS hl => lv_ladd hc.1 hc.2.1 d (kk H locs ls hP hS hl)
theorem r_isub (hc : kOk X g own cc nL ret D) {x y : Int32} (d : decode cc pc = .ok (.isub, 1))  (kk : kP X g nL (pc + 1) lv (.int (x - y) :: st) σ) : kP X g nL pc lv (.int y :: .int x :: st) σ := fun H locs ls hP hS hl => lv_isub hc.1 hc.2.1 d (kk H locs ls hP hS hl)
theorem r_lsub (hc : kOk X g own cc nL ret D) {x y : Int64} (d : decode cc pc = .ok (.lsub, 1))  (kk : kP X g nL (pc + 1) lv (.long (x - y) :: st) σ) : kP X g nL pc lv (.long y :: .long x :: st) σ := fun H locs ls hP hS hl => lv_lsub hc.1 hc.2.1 d (kk H locs ls hP hS hl)
theorem r_imul (hc : kOk X g own cc nL ret D) {x y : Int32} (d : decode cc pc = .ok (.imul, 1))  (kk : kP X g nL (pc + 1) lv (.int (x * y) :: st) σ) : kP X g nL pc lv (.int y :: .int x :: st) σ := fun H locs ls hP hS hl => lv_imul hc.1 hc.2.1 d (kk H locs ls hP hS hl)
theorem r_lmul (hc : kOk X g own cc nL ret D) {x y : Int64} (d : decode cc pc = .ok (.lmul, 1))  (kk : kP X g nL (pc + 1) lv (.long (x * y) :: st) σ) : kP X g nL pc lv (.long y :: .long x :: st) σ := fun H locs ls hP hS hl => lv_lmul hc.1 hc.2.1 d (kk H locs ls hP hS hl)
theorem r_iand (hc : kOk X g own cc nL ret D) {x y : Int32} (d : decode cc pc = .ok (.iand, 1))  (kk : kP X g nL (pc + 1) lv (.int (x &&& y) :: st) σ) : kP X g nL pc lv (.int y :: .int x :: st) σ := fun H locs ls hP hS hl => lv_iand hc.1 hc.2.1 d (kk H locs ls hP hS hl)
theorem r_ior (hc : kOk X g own cc nL ret D) {x y : Int32} (d : decode cc pc = .ok (.ior, 1))  (kk : kP X g nL (pc + 1) lv (.int (x ||| y) :: st) σ) : kP X g nL pc lv (.int y :: .int x :: st) σ := fun H locs ls hP hS hl => lv_ior hc.1 hc.2.1 d (kk H locs ls hP hS hl)
theorem r_ixor (hc : kOk X g own cc nL ret D) {x y : Int32} (d : decode cc pc = .ok (.ixor, 1))  (kk : kP X g nL (pc + 1) lv (.int (x ^^^ y) :: st) σ) : kP X g nL pc lv (.int y :: .int x :: st) σ := fun H locs ls hP hS hl => lv_ixor hc.1 hc.2.1 d (kk H locs ls hP hS hl)
theorem r_ishl (hc : kOk X g own cc nL ret D) {x y : Int32} (d : decode cc pc = .ok (.ishl, 1))  (kk : kP X g nL (pc + 1) lv (.int (x <<< (y &&& 31)) :: st) σ) : kP X g nL pc lv (.int y :: .int x :: st) σ := fun H locs ls hP hS hl => lv_ishl hc.1 hc.2.1 d (kk H locs ls hP hS hl)
theorem r_ishr (hc : kOk X g own cc nL ret D) {x y : Int32} (d : decode cc pc = .ok (.ishr, 1))  (kk : kP X g nL (pc + 1) lv (.int (x >>> (y &&& 31)) :: st) σ) : kP X g nL pc lv (.int y :: .int x :: st) σ := fun H locs ls hP hS hl => lv_ishr hc.1 hc.2.1 d (kk H locs ls hP hS hl)
theorem r_idiv (hc : kOk X g own cc nL ret D) {x y : Int32} (d : decode cc pc = .ok (.idiv, 1)) (hne : ¬ y = 0) (kk : kP X g nL (pc + 1) lv (.int (x / y) :: st) σ) : kP X g nL pc lv (.int y :: .int x :: st) σ := fun H locs ls hP hS hl => lv_idiv hc.1 hc.2.1 d hne (kk H locs ls hP hS hl)
theorem r_ldiv (hc : kOk X g own cc nL ret D) {x y : Int64} (d : decode cc pc = .ok (.ldiv, 1)) (hne : ¬ y = 0) (kk : kP X g nL (pc + 1) lv (.long (x / y) :: st) σ) : kP X g nL pc lv (.long y :: .long x :: st) σ := fun H locs ls hP hS hl => lv_ldiv hc.1 hc.2.1 d hne (kk H locs ls hP hS hl)
theorem r_irem (hc : kOk X g own cc nL ret D) {x y : Int32} (d : decode cc pc = .ok (.irem, 1)) (hne : ¬ y = 0) (kk : kP X g nL (pc + 1) lv (.int (krem x y) :: st) σ) : kP X g nL pc lv (.int y :: .int x :: st) σ := fun H locs ls hP hS hl => lv_irem hc.1 hc.2.1 d hne (kk H locs ls hP hS hl)
theorem r_lrem (hc : kOk X g own cc nL ret D) {x y : Int64} (d : decode cc pc = .ok (.lrem, 1)) (hne : ¬ y = 0) (kk : kP X g nL (pc + 1) lv (.long (kremL x y) :: st) σ) : kP X g nL pc lv (.long y :: .long x :: st) σ := fun H locs ls hP hS hl => lv_lrem hc.1 hc.2.1 d hne (kk H locs ls hP hS hl)
theorem r_ineg (hc : kOk X g own cc nL ret D) {x : Int32} (d : decode cc pc = .ok (.ineg, 1))  (kk : kP X g nL (pc + 1) lv (.int (-x) :: st) σ) : kP X g nL pc lv (.int x :: st) σ := fun H locs ls hP hS hl => lv_ineg hc.1 hc.2.1 d (kk H locs ls hP hS hl)
theorem r_iushr (hc : kOk X g own cc nL ret D) {x y : Int32} (d : decode cc pc = .ok (.iushr, 1))  (kk : kP X g nL (pc + 1) lv (.int (k_ushr x y) :: st) σ) : kP X g nL pc lv (.int y :: .int x :: st) σ := fun H locs ls hP hS hl => lv_iushr hc.1 hc.2.1 d rfl (kk H locs ls hP hS hl)
theorem r_lcmp (hc : kOk X g own cc nL ret D) {x y : Int64} (d : decode cc pc = .ok (.lcmp, 1))  (kk : kP X g nL (pc + 1) lv (.int (lg_cmp x y) :: st) σ) : kP X g nL pc lv (.long y :: .long x :: st) σ := fun H locs ls hP hS hl => W.lcmp hc.1 hc.2.1 d (kk H locs ls hP hS hl)
theorem r_i2l (hc : kOk X g own cc nL ret D) {x : Int32} (d : decode cc pc = .ok (.i2l, 1))  (kk : kP X g nL (pc + 1) lv (.long x.toInt64 :: st) σ) : kP X g nL pc lv (.int x :: st) σ := fun H locs ls hP hS hl => lv_i2l hc.1 hc.2.1 d rfl (kk H locs ls hP hS hl)
theorem r_l2i (hc : kOk X g own cc nL ret D) {x : Int64} (d : decode cc pc = .ok (.l2i, 1))  (kk : kP X g nL (pc + 1) lv (.int x.toInt32 :: st) σ) : kP X g nL pc lv (.long x :: st) σ := fun H locs ls hP hS hl => lv_l2i hc.1 hc.2.1 d rfl (kk H locs ls hP hS hl)
theorem r_i2b (hc : kOk X g own cc nL ret D) {x : Int32} (d : decode cc pc = .ok (.i2b, 1))  (kk : kP X g nL (pc + 1) lv (.int x.toInt8.toInt32 :: st) σ) : kP X g nL pc lv (.int x :: st) σ := fun H locs ls hP hS hl => lv_i2b hc.1 hc.2.1 d rfl (kk H locs ls hP hS hl)
theorem r_i2s (hc : kOk X g own cc nL ret D) {x : Int32} (d : decode cc pc = .ok (.i2s, 1))  (kk : kP X g nL (pc + 1) lv (.int x.toInt16.toInt32 :: st) σ) : kP X g nL pc lv (.int x :: st) σ := fun H locs ls hP hS hl => lv_i2s hc.1 hc.2.1 d rfl (kk H locs ls hP hS hl)
theorem r_dup (hc : kOk X g own cc nL ret D) {v : Value} (d : decode cc pc = .ok (.dup, 1)) (hv : v.category = 1) (kk : kP X g nL (pc + 1) lv (v :: v :: st) σ) : kP X g nL pc lv (v :: st) σ := fun H locs ls hP hS hl => lv_dup hc.1 hc.2.1 d hv (kk H locs ls hP hS hl)
theorem r_dup2 (hc : kOk X g own cc nL ret D) {v w : Value} (d : decode cc pc = .ok (.dup2, 1)) (hv : v.category = 1) (hw : w.category = 1) (kk : kP X g nL (pc + 1) lv (v :: w :: v :: w :: st) σ) : kP X g nL pc lv (v :: w :: st) σ := fun H locs ls hP hS hl => lv_dup2_11 hc.1 hc.2.1 d hv hw (kk H locs ls hP hS hl)
theorem r_goto (hc : kOk X g own cc nL ret D) {off : Int} (tgt : Nat) (d : decode cc pc = .ok (.goto off, 3)) (ht : (pc : Int) + off = (tgt : Int)) (kk : kP X g nL tgt lv st σ) : kP X g nL pc lv st σ := fun H locs ls hP hS hl => lv_goto hc.1 hc.2.1 d ht (kk H locs ls hP hS hl)
theorem r_if_eq (hc : kOk X g own cc nL ret D) {x : Int32} {off : Int} (tgt : Nat) (d : decode cc pc = .ok (.ifCond .eq off, 3)) (ht : (pc : Int) + off = (tgt : Int)) (kt : x = 0 → kP X g nL tgt lv st σ) (kf : ¬ x = 0 → kP X g nL (pc + 3) lv st σ) : kP X g nL pc lv (.int x :: st) σ := fun H locs ls hP hS hl => lv_if_eq hc.1 hc.2.1 d ht (fun q => kt q H locs ls hP hS hl) (fun q => kf q H locs ls hP hS hl)
theorem r_ic_eq (hc : kOk X g own cc nL ret D) {x y : Int32} {off : Int} (tgt : Nat) (d : decode cc pc = .ok (.if_icmp .eq off, 3)) (ht : (pc : Int) + off = (tgt : Int)) (kt : x = y → kP X g nL tgt lv st σ) (kf : ¬ x = y → kP X g nL (pc + 3) lv st σ) : kP X g nL pc lv (.int y :: .int x :: st) σ := fun H locs ls hP hS hl => lv_icmp_eq hc.1 hc.2.1 d ht (fun q => kt q H locs ls hP hS hl) (fun q => kf q H locs ls hP hS hl)
theorem r_if_ne (hc : kOk X g own cc nL ret D) {x : Int32} {off : Int} (tgt : Nat) (d : decode cc pc = .ok (.ifCond .ne off, 3)) (ht : (pc : Int) + off = (tgt : Int)) (kt : x = 0 → kP X g nL (pc + 3) lv st σ) (kf : ¬ x = 0 → kP X g nL tgt lv st σ) : kP X g nL pc lv (.int x :: st) σ := fun H locs ls hP hS hl => lv_if_ne hc.1 hc.2.1 d ht (fun q => kf (by simpa using q) H locs ls hP hS hl) (fun q => kt (by simpa using q) H locs ls hP hS hl)
theorem r_ic_ne (hc : kOk X g own cc nL ret D) {x y : Int32} {off : Int} (tgt : Nat) (d : decode cc pc = .ok (.if_icmp .ne off, 3)) (ht : (pc : Int) + off = (tgt : Int)) (kt : x = y → kP X g nL (pc + 3) lv st σ) (kf : ¬ x = y → kP X g nL tgt lv st σ) : kP X g nL pc lv (.int y :: .int x :: st) σ := fun H locs ls hP hS hl => lv_icmp_ne hc.1 hc.2.1 d ht (fun q => kf (by simpa using q) H locs ls hP hS hl) (fun q => kt (by simpa using q) H locs ls hP hS hl)
theorem r_if_lt (hc : kOk X g own cc nL ret D) {x : Int32} {off : Int} (tgt : Nat) (d : decode cc pc = .ok (.ifCond .lt off, 3)) (ht : (pc : Int) + off = (tgt : Int)) (kt : x < 0 → kP X g nL tgt lv st σ) (kf : ¬ x < 0 → kP X g nL (pc + 3) lv st σ) : kP X g nL pc lv (.int x :: st) σ := fun H locs ls hP hS hl => lv_if_lt hc.1 hc.2.1 d ht (fun q => kt q H locs ls hP hS hl) (fun q => kf q H locs ls hP hS hl)
theorem r_ic_lt (hc : kOk X g own cc nL ret D) {x y : Int32} {off : Int} (tgt : Nat) (d : decode cc pc = .ok (.if_icmp .lt off, 3)) (ht : (pc : Int) + off = (tgt : Int)) (kt : x < y → kP X g nL tgt lv st σ) (kf : ¬ x < y → kP X g nL (pc + 3) lv st σ) : kP X g nL pc lv (.int y :: .int x :: st) σ := fun H locs ls hP hS hl => lv_icmp_lt hc.1 hc.2.1 d ht (fun q => kt q H locs ls hP hS hl) (fun q => kf q H locs ls hP hS hl)
theorem r_if_ge (hc : kOk X g own cc nL ret D) {x : Int32} {off : Int} (tgt : Nat) (d : decode cc pc = .ok (.ifCond .ge off, 3)) (ht : (pc : Int) + off = (tgt : Int)) (kt : 0 ≤ x → kP X g nL tgt lv st σ) (kf : ¬ 0 ≤ x → kP X g nL (pc + 3) lv st σ) : kP X g nL pc lv (.int x :: st) σ := fun H locs ls hP hS hl => lv_if_ge hc.1 hc.2.1 d ht (fun q => kt q H locs ls hP hS hl) (fun q => kf q H locs ls hP hS hl)
theorem r_ic_ge (hc : kOk X g own cc nL ret D) {x y : Int32} {off : Int} (tgt : Nat) (d : decode cc pc = .ok (.if_icmp .ge off, 3)) (ht : (pc : Int) + off = (tgt : Int)) (kt : y ≤ x → kP X g nL tgt lv st σ) (kf : ¬ y ≤ x → kP X g nL (pc + 3) lv st σ) : kP X g nL pc lv (.int y :: .int x :: st) σ := fun H locs ls hP hS hl => lv_icmp_ge hc.1 hc.2.1 d ht (fun q => kt q H locs ls hP hS hl) (fun q => kf q H locs ls hP hS hl)
theorem r_if_gt (hc : kOk X g own cc nL ret D) {x : Int32} {off : Int} (tgt : Nat) (d : decode cc pc = .ok (.ifCond .gt off, 3)) (ht : (pc : Int) + off = (tgt : Int)) (kt : 0 < x → kP X g nL tgt lv st σ) (kf : ¬ 0 < x → kP X g nL (pc + 3) lv st σ) : kP X g nL pc lv (.int x :: st) σ := fun H locs ls hP hS hl => lv_if_gt hc.1 hc.2.1 d ht (fun q => kt q H locs ls hP hS hl) (fun q => kf q H locs ls hP hS hl)
theorem r_ic_gt (hc : kOk X g own cc nL ret D) {x y : Int32} {off : Int} (tgt : Nat) (d : decode cc pc = .ok (.if_icmp .gt off, 3)) (ht : (pc : Int) + off = (tgt : Int)) (kt : y < x → kP X g nL tgt lv st σ) (kf : ¬ y < x → kP X g nL (pc + 3) lv st σ) : kP X g nL pc lv (.int y :: .int x :: st) σ := fun H locs ls hP hS hl => lv_icmp_gt hc.1 hc.2.1 d ht (fun q => kt q H locs ls hP hS hl) (fun q => kf q H locs ls hP hS hl)
theorem r_if_le (hc : kOk X g own cc nL ret D) {x : Int32} {off : Int} (tgt : Nat) (d : decode cc pc = .ok (.ifCond .le off, 3)) (ht : (pc : Int) + off = (tgt : Int)) (kt : x ≤ 0 → kP X g nL tgt lv st σ) (kf : ¬ x ≤ 0 → kP X g nL (pc + 3) lv st σ) : kP X g nL pc lv (.int x :: st) σ := fun H locs ls hP hS hl => lv_if_le hc.1 hc.2.1 d ht (fun q => kt q H locs ls hP hS hl) (fun q => kf q H locs ls hP hS hl)
theorem r_ic_le (hc : kOk X g own cc nL ret D) {x y : Int32} {off : Int} (tgt : Nat) (d : decode cc pc = .ok (.if_icmp .le off, 3)) (ht : (pc : Int) + off = (tgt : Int)) (kt : x ≤ y → kP X g nL tgt lv st σ) (kf : ¬ x ≤ y → kP X g nL (pc + 3) lv st σ) : kP X g nL pc lv (.int y :: .int x :: st) σ := fun H locs ls hP hS hl => lv_icmp_le hc.1 hc.2.1 d ht (fun q => kt q H locs ls hP hS hl) (fun q => kf q H locs ls hP hS hl)
theorem r_tabIn (hc : kOk X g own cc nL ret D) {dflt lo hi : Int} {offs : Array Int} {len : Nat} {x : Int32} {off : Int} (tgt : Nat) (d : decode cc pc = .ok (.tableswitch dflt lo hi offs, len)) (h1 : ¬ x.toInt < lo) (h2 : ¬ hi < x.toInt) (ho : offs[(x.toInt - lo).toNat]? = some off) (ht : (pc : Int) + off = (tgt : Int)) (kk : kP X g nL tgt lv st σ) : kP X g nL pc lv (.int x :: st) σ := fun H locs ls hP hS hl => lv_tableIn hc.1 hc.2.1 d h1 h2 ho ht (kk H locs ls hP hS hl)
theorem r_tabOut (hc : kOk X g own cc nL ret D) {dflt lo hi : Int} {offs : Array Int} {len : Nat} {x : Int32} (tgt : Nat) (d : decode cc pc = .ok (.tableswitch dflt lo hi offs, len)) (h : x.toInt < lo ∨ hi < x.toInt) (ht : (pc : Int) + dflt = (tgt : Int)) (kk : kP X g nL tgt lv st σ) : kP X g nL pc lv (.int x :: st) σ := fun H locs ls hP hS hl => lv_tableOut hc.1 hc.2.1 d h ht (kk H locs ls hP hS hl)
theorem r_lookup (hc : kOk X g own cc nL ret D) {dflt : Int} {ps : Array (Int × Int)} {len : Nat} {x : Int32} {off : Int} (tgt : Nat) (d : decode cc pc = .ok (.lookupswitch dflt ps, len)) (hp : (ps.toList.zip (ps.toList.drop 1)).all (fun (a, next) => a.1 < next.1) = true) (ho : Op.lookupswitch.offset ps.toList dflt x.toInt = off) (ht : (pc : Int) + off = (tgt : Int)) (kk : kP X g nL tgt lv st σ) : kP X g nL pc lv (.int x :: st) σ := fun H locs ls hP hS hl => lv_lookup hc.1 hc.2.1 d hp ho ht (kk H locs ls hP hS hl)
/-! fields -/
theorem r_getf (hc : kOk X g own cc nL ret D) {C : String} {T : u_T} {N ci idx : Nat} (hin : ∀ w ∈ u_ws C T N, w ∈ kT) (hcl : vwCl[ci]? = some (C, T, N)) {c : Nat} {fs : List Value} (hlt : c < 69) (ho : kcell g c (σ c) = .inr (ci, fs)) (k : Nat) (hk : k < N) (hl : Cond.fieldLink own idx (T k).1 (T k).2.1 (T k).2.2.1 ∈ kT) {v : Value} (hv : fs[k]? = some v) (d : decode cc pc = .ok (.getfield idx, 3)) (kk : kP X g nL (pc + 3) lv (v :: st) σ) : kP X g nL pc lv (kz g c :: st) σ :=
  fun H locs ls hP hS hL => va_get (D := g.1) (ci := ci) (v := v) (C := C) (T := T) (N := N) hc.1 hc.2.1 hc.2.2.2.2.2.1 hin hc.2.2.2.2.1 hc.2.2.2.2.2.2.1.1 hP c (by rw [kW_at hlt, ho]) hcl k hk (hc.2.2.2.2.2.1 _ hl) (fun _ h => h) hv d (kk H locs ls hP hS hL)
theorem r_putf (hc : kOk X g own cc nL ret D) {C : String} {T : u_T} {N ci idx : Nat} {ty0 : Nat → FieldType} (hin : ∀ w ∈ u_ws C T N, w ∈ kT) (hty : ∀ k, k < N → parseFieldDescriptor (T k).2.2.1 = some (ty0 k)) (hnm : ∀ a, a < N → ∀ b, b < N → a ≠ b → (T a).2.1 ≠ (T b).2.1) (hcl : vwCl[ci]? = some (C, T, N)) {c : Nat} {fs : List Value} (hlt : c < 69) (ho : kcell g c (σ c) = .inr (ci, fs)) (k : Nat) (hk : k < N) (hl : Cond.fieldLink own idx (T k).1 (T k).2.1 (T k).2.2.1 ∈ kT) (hfin : (T k).2.2.2 = false) {v : Int32} (hn : narrow (ty0 k) (.int v) = .int v) (hfit : fits (ty0 k) (.int v) = true) (hfl : k < fs.length) (hnew : kcell g c (upd (σ c) k v) = .inr (ci, fs.set k (.int v))) (d : decode cc pc = .ok (.putfield idx, 3)) (kk : kP X g nL (pc + 3) lv st (st2 σ c k v)) : kP X g nL pc lv (.int v :: kz g c :: st) σ :=
  fun H locs ls hP hS hL => va_put (D := g.1) (ci := ci) (v := .int v) (ty := ty0 k) (C := C) (T := T) (N := N) hc.1 hc.2.1 hc.2.2.2.2.2.1 hin ty0 hty hnm hc.2.2.2.2.1 hc.2.2.2.2.2.2.1.1 hP (kW_D hc.2.2.2.2.2.2.1.2.2.2) hS c (by rw [kW_at hlt, ho]) hcl k hk (hc.2.2.2.2.2.1 _ hl) (fun _ h => h) hfin (hty k hk) hn hfit hfl d (fun H1 locs1 hP1 _ hS1 => kk H1 locs1 ls (by rw [kW_set hnew] at hP1; exact hP1) hS1 hL)
/-! arrays -/
/-- the cell c is an int array of n places -/
def kInts (c n : Nat) : Prop := c < 69 ∧ ∀ (g : kG) (r : Nat → Int32), kcell g c r = .inl (g.2.1.1, n, .inl r)
theorem r_iald (hc : kOk X g own cc nL ret D) {c n : Nat} (ha : kInts c n) {i : Int32} (hin : vp_in i n) (d : decode cc pc = .ok (.iaload, 1)) (kk : kP X g nL (pc + 1) lv (.int (σ c i.toNatClampNeg) :: st) σ) : kP X g nL pc lv (.int i :: kz g c :: st) σ :=
  fun H locs ls hP hS hL => va_iald hc.1 hc.2.1 hc.2.2.2.2.2.2.1.1 hP c 0 (by rw [kW_at ha.1, ha.2]) rfl hin d (kk H locs ls hP hS hL)
theorem r_iast (hc : kOk X g own cc nL ret D) {c n : Nat} (ha : kInts c n) {i x : Int32} (hin : vp_in i n) (d : decode cc pc = .ok (.iastore, 1)) (kk : kP X g nL (pc + 1) lv st (st2 σ c i.toNatClampNeg x)) : kP X g nL pc lv (.int x :: .int i :: kz g c :: st) σ :=
  fun H locs ls hP hS hL => va_iast hc.1 hc.2.1 hc.2.2.2.2.2.2.1.1 hP (kW_D hc.2.2.2.2.2.2.1.2.2.2) hS c 0 (by rw [kW_at ha.1, ha.2]) rfl hin d (fun H1 locs1 hP1 _ hS1 => kk H1 locs1 ls (by rw [kW_set (ha.2 g (upd (σ c) i.toNatClampNeg x))] at hP1; exact hP1) hS1 hL)
theorem r_alen (hc : kOk X g own cc nL ret D) {c n : Nat} (ha : kInts c n) {v : Int32} (hv : Int32.ofNat n = v) (d : decode cc pc = .ok (.arraylength, 1)) (kk : kP X g nL (pc + 1) lv (.int v :: st) σ) : kP X g nL pc lv (kz g c :: st) σ :=
  fun H locs ls hP hS hL => va_alen hc.1 hc.2.1 hc.2.2.2.2.2.2.1.1 hP c 0 (by rw [kW_at ha.1, ha.2]) rfl hv d (kk H locs ls hP hS hL)
theorem r_zald (hc : kOk X g own cc nL ret D) {i : Int32} (hin : vp_in i 2) (d : decode cc pc = .ok (.baload, 1)) (kk : kP X g nL (pc + 1) lv (.int (σ 66 i.toNatClampNeg) :: st) σ) : kP X g nL pc lv (.int i :: kz g 66 :: st) σ :=
  fun H locs ls hP hS hL => va_zald hc.1 hc.2.1 hc.2.2.2.2.2.2.1.1 hP 66 1 (by rw [kW_at (by decide)]; rfl) rfl hin d (kk H locs ls hP hS hL)
theorem r_zast (hc : kOk X g own cc nL ret D) {i x : Int32} (hin : vp_in i 2) (hx : vp_nar .boolean x = x) (d : decode cc pc = .ok (.bastore, 1)) (kk : kP X g nL (pc + 1) lv st (st2 σ 66 i.toNatClampNeg x)) : kP X g nL pc lv (.int x :: .int i :: kz g 66 :: st) σ :=
  fun H locs ls hP hS hL => va_zast hc.1 hc.2.1 hc.2.2.2.2.2.2.1.1 hP (kW_D hc.2.2.2.2.2.2.1.2.2.2) hS 66 1 (by rw [kW_at (by decide)]; rfl) rfl hin d (fun H1 locs1 hP1 _ hS1 => kk H1 locs1 ls (by rw [hx, kW_set (show kcell g 66 (upd (σ 66) i.toNatClampNeg x) = .inl (g.2.1.2.1, 2, .inl (upd (σ 66) i.toNatClampNeg x)) from rfl)] at hP1; exact hP1) hS1 hL)
theorem r_rows (hc : kOk X g own cc nL ret D) {i : Int32} (hin : vp_in i 8) (d : decode cc pc = .ok (.aaload, 1)) (kk : kP X g nL (pc + 1) lv (kz g (2 + 2 * i.toNatClampNeg) :: st) σ) : kP X g nL pc lv (.int i :: kz g 1 :: st) σ :=
  fun H locs ls hP hS hL => va_aldq (C := "KeyDrift$Row") (f := kRowsF g) (n := 8) (cA := g.2.1.2.2.1) hc.1 hc.2.1 hc.2.2.2.2.2.2.1.1 hP 1 2 (by rw [kW_at (by decide)]; rfl) rfl hin d (by rw [kRowsF_at (Nat.not_le.mp fun q => hin (Or.inr q))]; exact kk H locs ls hP hS hL)
theorem r_halls (hc : kOk X g own cc nL ret D) {i : Int32} (hin : vp_in i 2) (d : decode cc pc = .ok (.aaload, 1)) (kk : kP X g nL (pc + 1) lv (kz g (19 + 6 * i.toNatClampNeg) :: st) σ) : kP X g nL pc lv (.int i :: kz g 18 :: st) σ :=
  fun H locs ls hP hS hL => va_aldq (C := "KeyDrift$Hall") (f := kHallsF g) (n := 2) (cA := g.2.1.2.2.2) hc.1 hc.2.1 hc.2.2.2.2.2.2.1.1 hP 18 3 (by rw [kW_at (by decide)]; rfl) rfl hin d (by rw [kHallsF_at (Nat.not_le.mp fun q => hin (Or.inr q))]; exact kk H locs ls hP hS hL)
theorem r_above (hc : kOk X g own cc nL ret D) {idx : Nat} (hl : Cond.fieldLink own idx "KeyDrift$Asked" "ABOVE" "[I" ∈ kT) (d : decode cc pc = .ok (.getstatic idx, 3)) (kk : kP X g nL (pc + 3) lv (.ref g.2.2.2.2 :: st) σ) : kP X g nL pc lv st σ :=
  fun H locs ls hP hS hL => va_gets hc.1 hc.2.1 hc.2.2.2.2.2.2.1.2.1 hS hc.2.2.2.2.1 (hc.2.2.2.2.2.1 _ hl) (fun _ h => h) d (kk H locs ls hP hS hL)
theorem r_abld (hc : kOk X g own cc nL ret D) {i : Int32} (hin : vp_in i 6) (d : decode cc pc = .ok (.iaload, 1)) (kk : kP X g nL (pc + 1) lv (.int (kabv i.toNatClampNeg) :: st) σ) : kP X g nL pc lv (.int i :: .ref g.2.2.2.2 :: st) σ :=
  fun H locs ls hP hS hL => va_ti hc.1 hc.2.1 hc.2.2.2.2.2.2.1.2.2.1 hS hin rfl d (kk H locs ls hP hS hL)
def kSc (X : kX) (b L : Nat) (xs : Nat → Int32) (g : kG) : Prop := va_X b L xs (kXs X) (kXs X).heap ∧ b < (kXs X).heap.size ∧ ¬ kA g b
theorem r_sld (hc : kOk X g own cc nL ret D) {b L : Nat} {xs : Nat → Int32} (hs : kSc X b L xs g) {i : Int32} (hin : vp_in i L) (d : decode cc pc = .ok (.iaload, 1)) (kk : kP X g nL (pc + 1) lv (.int (xs i.toNatClampNeg) :: st) σ) : kP X g nL pc lv (.int i :: .ref b :: st) σ :=
  fun H locs ls hP hS hL => va_sld hc.1 hc.2.1 hs.1 hs.2.1 hs.2.2 hS hin d (kk H locs ls hP hS hL)
theorem r_slen (hc : kOk X g own cc nL ret D) {b L : Nat} {xs : Nat → Int32} (hs : kSc X b L xs g) (d : decode cc pc = .ok (.arraylength, 1)) (kk : kP X g nL (pc + 1) lv (.int (Int32.ofNat L) :: st) σ) : kP X g nL pc lv (.ref b :: st) σ :=
  fun H locs ls hP hS hL => va_slen hc.1 hc.2.1 hs.1 hs.2.1 hs.2.2 hS d (kk H locs ls hP hS hL)
end KR
