theorem vp_k {x : Int32} {n : Nat} (h : decide (¬ (x < 0 ∨ n ≤ nn x)) = true) : vp_in x n := (of_decide_eq_true h : ¬ (x < 0 ∨ n ≤ nn x))
theorem i32ne {x v : Int32} (h : ¬ x = v) (k : Int) (hk : v.toInt = k) : x.toInt ≠ k := fun e => h (Int32.toInt_inj.mp (e.trans hk.symm))
theorem g_if_eq_T {g : Nat → List (Nat × Value) → List Value → gS → Prop} {T : List (Nat × Instr × Nat)} {own : String} {nL : Nat} {rt : Option FieldType} {R : Room} {Z : List gH} {ad : Nat → Nat} {nc ns : Nat} {E : (p : Program) → (l : Launch) → (e : Env) → (s : State) → (m : MethodId) → (args : Array Value) → (below : List Frame) → (meth : Method) → (c : Code) → (A : Nat → Prop) → (D : va_G) → (cy : Nat → ClassId) → (Q : State → Prop) → Prop} {pc : Nat} {ls : List (Nat × Value)} {st : List Value} {σ : gS} (C : gOkQ g T own nL rt R Z ad nc ns E) (j : Nat) {x : Int32} {off : Int} (tgt : Nat) (hd : T[j]? = some (pc, .ifCond .eq off, 3)) (ht : (pc : Int) + off = (tgt : Int)) (hc : x = 0) (k : g tgt ls st σ) : g pc ls (.int x :: st) σ := g_if_eq C j tgt hd ht (if_pos hc : (if x = 0 then some () else none) = some ()) (fun _ => k) (fun h => by cases h)
theorem g_if_eq_F {g : Nat → List (Nat × Value) → List Value → gS → Prop} {T : List (Nat × Instr × Nat)} {own : String} {nL : Nat} {rt : Option FieldType} {R : Room} {Z : List gH} {ad : Nat → Nat} {nc ns : Nat} {E : (p : Program) → (l : Launch) → (e : Env) → (s : State) → (m : MethodId) → (args : Array Value) → (below : List Frame) → (meth : Method) → (c : Code) → (A : Nat → Prop) → (D : va_G) → (cy : Nat → ClassId) → (Q : State → Prop) → Prop} {pc : Nat} {ls : List (Nat × Value)} {st : List Value} {σ : gS} (C : gOkQ g T own nL rt R Z ad nc ns E) (j : Nat) {x : Int32} {off : Int} (tgt : Nat) (hd : T[j]? = some (pc, .ifCond .eq off, 3)) (ht : (pc : Int) + off = (tgt : Int)) (hc : ¬ (x = 0)) (k : g (pc + 3) ls st σ) : g pc ls (.int x :: st) σ := g_if_eq C j tgt hd ht (if_neg hc : (if x = 0 then none else some ()) = some ()) (fun h => by cases h) (fun _ => k)
theorem g_icmp_eq_T {g : Nat → List (Nat × Value) → List Value → gS → Prop} {T : List (Nat × Instr × Nat)} {own : String} {nL : Nat} {rt : Option FieldType} {R : Room} {Z : List gH} {ad : Nat → Nat} {nc ns : Nat} {E : (p : Program) → (l : Launch) → (e : Env) → (s : State) → (m : MethodId) → (args : Array Value) → (below : List Frame) → (meth : Method) → (c : Code) → (A : Nat → Prop) → (D : va_G) → (cy : Nat → ClassId) → (Q : State → Prop) → Prop} {pc : Nat} {ls : List (Nat × Value)} {st : List Value} {σ : gS} (C : gOkQ g T own nL rt R Z ad nc ns E) (j : Nat) {x y : Int32} {off : Int} (tgt : Nat) (hd : T[j]? = some (pc, .if_icmp .eq off, 3)) (ht : (pc : Int) + off = (tgt : Int)) (hc : x = y) (k : g tgt ls st σ) : g pc ls (.int y :: .int x :: st) σ := g_icmp_eq C j tgt hd ht (if_pos hc : (if x = y then some () else none) = some ()) (fun _ => k) (fun h => by cases h)
theorem g_icmp_eq_F {g : Nat → List (Nat × Value) → List Value → gS → Prop} {T : List (Nat × Instr × Nat)} {own : String} {nL : Nat} {rt : Option FieldType} {R : Room} {Z : List gH} {ad : Nat → Nat} {nc ns : Nat} {E : (p : Program) → (l : Launch) → (e : Env) → (s : State) → (m : MethodId) → (args : Array Value) → (below : List Frame) → (meth : Method) → (c : Code) → (A : Nat → Prop) → (D : va_G) → (cy : Nat → ClassId) → (Q : State → Prop) → Prop} {pc : Nat} {ls : List (Nat × Value)} {st : List Value} {σ : gS} (C : gOkQ g T own nL rt R Z ad nc ns E) (j : Nat) {x y : Int32} {off : Int} (tgt : Nat) (hd : T[j]? = some (pc, .if_icmp .eq off, 3)) (ht : (pc : Int) + off = (tgt : Int)) (hc : ¬ (x = y)) (k : g (pc + 3) ls st σ) : g pc ls (.int y :: .int x :: st) σ := g_icmp_eq C j tgt hd ht (if_neg hc : (if x = y then none else some ()) = some ()) (fun h => by cases h) (fun _ => k)
theorem g_if_ne_T {g : Nat → List (Nat × Value) → List Value → gS → Prop} {T : List (Nat × Instr × Nat)} {own : String} {nL : Nat} {rt : Option FieldType} {R : Room} {Z : List gH} {ad : Nat → Nat} {nc ns : Nat} {E : (p : Program) → (l : Launch) → (e : Env) → (s : State) → (m : MethodId) → (args : Array Value) → (below : List Frame) → (meth : Method) → (c : Code) → (A : Nat → Prop) → (D : va_G) → (cy : Nat → ClassId) → (Q : State → Prop) → Prop} {pc : Nat} {ls : List (Nat × Value)} {st : List Value} {σ : gS} (C : gOkQ g T own nL rt R Z ad nc ns E) (j : Nat) {x : Int32} {off : Int} (tgt : Nat) (hd : T[j]? = some (pc, .ifCond .ne off, 3)) (ht : (pc : Int) + off = (tgt : Int)) (hc : ¬ x = 0) (k : g tgt ls st σ) : g pc ls (.int x :: st) σ := g_if_ne C j tgt hd ht (if_neg hc : (if x = 0 then none else some ()) = some ()) (fun _ => k) (fun h => by cases h)
theorem g_if_ne_F {g : Nat → List (Nat × Value) → List Value → gS → Prop} {T : List (Nat × Instr × Nat)} {own : String} {nL : Nat} {rt : Option FieldType} {R : Room} {Z : List gH} {ad : Nat → Nat} {nc ns : Nat} {E : (p : Program) → (l : Launch) → (e : Env) → (s : State) → (m : MethodId) → (args : Array Value) → (below : List Frame) → (meth : Method) → (c : Code) → (A : Nat → Prop) → (D : va_G) → (cy : Nat → ClassId) → (Q : State → Prop) → Prop} {pc : Nat} {ls : List (Nat × Value)} {st : List Value} {σ : gS} (C : gOkQ g T own nL rt R Z ad nc ns E) (j : Nat) {x : Int32} {off : Int} (tgt : Nat) (hd : T[j]? = some (pc, .ifCond .ne off, 3)) (ht : (pc : Int) + off = (tgt : Int)) (hc : ¬ (¬ x = 0)) (k : g (pc + 3) ls st σ) : g pc ls (.int x :: st) σ := g_if_ne C j tgt hd ht (if_pos (by simpa using hc) : (if x = 0 then some () else none) = some ()) (fun h => by cases h) (fun _ => k)
theorem g_icmp_ne_T {g : Nat → List (Nat × Value) → List Value → gS → Prop} {T : List (Nat × Instr × Nat)} {own : String} {nL : Nat} {rt : Option FieldType} {R : Room} {Z : List gH} {ad : Nat → Nat} {nc ns : Nat} {E : (p : Program) → (l : Launch) → (e : Env) → (s : State) → (m : MethodId) → (args : Array Value) → (below : List Frame) → (meth : Method) → (c : Code) → (A : Nat → Prop) → (D : va_G) → (cy : Nat → ClassId) → (Q : State → Prop) → Prop} {pc : Nat} {ls : List (Nat × Value)} {st : List Value} {σ : gS} (C : gOkQ g T own nL rt R Z ad nc ns E) (j : Nat) {x y : Int32} {off : Int} (tgt : Nat) (hd : T[j]? = some (pc, .if_icmp .ne off, 3)) (ht : (pc : Int) + off = (tgt : Int)) (hc : ¬ x = y) (k : g tgt ls st σ) : g pc ls (.int y :: .int x :: st) σ := g_icmp_ne C j tgt hd ht (if_neg hc : (if x = y then none else some ()) = some ()) (fun _ => k) (fun h => by cases h)
theorem g_icmp_ne_F {g : Nat → List (Nat × Value) → List Value → gS → Prop} {T : List (Nat × Instr × Nat)} {own : String} {nL : Nat} {rt : Option FieldType} {R : Room} {Z : List gH} {ad : Nat → Nat} {nc ns : Nat} {E : (p : Program) → (l : Launch) → (e : Env) → (s : State) → (m : MethodId) → (args : Array Value) → (below : List Frame) → (meth : Method) → (c : Code) → (A : Nat → Prop) → (D : va_G) → (cy : Nat → ClassId) → (Q : State → Prop) → Prop} {pc : Nat} {ls : List (Nat × Value)} {st : List Value} {σ : gS} (C : gOkQ g T own nL rt R Z ad nc ns E) (j : Nat) {x y : Int32} {off : Int} (tgt : Nat) (hd : T[j]? = some (pc, .if_icmp .ne off, 3)) (ht : (pc : Int) + off = (tgt : Int)) (hc : ¬ (¬ x = y)) (k : g (pc + 3) ls st σ) : g pc ls (.int y :: .int x :: st) σ := g_icmp_ne C j tgt hd ht (if_pos (by simpa using hc) : (if x = y then some () else none) = some ()) (fun h => by cases h) (fun _ => k)
theorem g_if_lt_T {g : Nat → List (Nat × Value) → List Value → gS → Prop} {T : List (Nat × Instr × Nat)} {own : String} {nL : Nat} {rt : Option FieldType} {R : Room} {Z : List gH} {ad : Nat → Nat} {nc ns : Nat} {E : (p : Program) → (l : Launch) → (e : Env) → (s : State) → (m : MethodId) → (args : Array Value) → (below : List Frame) → (meth : Method) → (c : Code) → (A : Nat → Prop) → (D : va_G) → (cy : Nat → ClassId) → (Q : State → Prop) → Prop} {pc : Nat} {ls : List (Nat × Value)} {st : List Value} {σ : gS} (C : gOkQ g T own nL rt R Z ad nc ns E) (j : Nat) {x : Int32} {off : Int} (tgt : Nat) (hd : T[j]? = some (pc, .ifCond .lt off, 3)) (ht : (pc : Int) + off = (tgt : Int)) (hc : x < 0) (k : g tgt ls st σ) : g pc ls (.int x :: st) σ := g_if_lt C j tgt hd ht (if_pos hc : (if x < 0 then some () else none) = some ()) (fun _ => k) (fun h => by cases h)
theorem g_if_lt_F {g : Nat → List (Nat × Value) → List Value → gS → Prop} {T : List (Nat × Instr × Nat)} {own : String} {nL : Nat} {rt : Option FieldType} {R : Room} {Z : List gH} {ad : Nat → Nat} {nc ns : Nat} {E : (p : Program) → (l : Launch) → (e : Env) → (s : State) → (m : MethodId) → (args : Array Value) → (below : List Frame) → (meth : Method) → (c : Code) → (A : Nat → Prop) → (D : va_G) → (cy : Nat → ClassId) → (Q : State → Prop) → Prop} {pc : Nat} {ls : List (Nat × Value)} {st : List Value} {σ : gS} (C : gOkQ g T own nL rt R Z ad nc ns E) (j : Nat) {x : Int32} {off : Int} (tgt : Nat) (hd : T[j]? = some (pc, .ifCond .lt off, 3)) (ht : (pc : Int) + off = (tgt : Int)) (hc : ¬ (x < 0)) (k : g (pc + 3) ls st σ) : g pc ls (.int x :: st) σ := g_if_lt C j tgt hd ht (if_neg hc : (if x < 0 then none else some ()) = some ()) (fun h => by cases h) (fun _ => k)
theorem g_icmp_lt_T {g : Nat → List (Nat × Value) → List Value → gS → Prop} {T : List (Nat × Instr × Nat)} {own : String} {nL : Nat} {rt : Option FieldType} {R : Room} {Z : List gH} {ad : Nat → Nat} {nc ns : Nat} {E : (p : Program) → (l : Launch) → (e : Env) → (s : State) → (m : MethodId) → (args : Array Value) → (below : List Frame) → (meth : Method) → (c : Code) → (A : Nat → Prop) → (D : va_G) → (cy : Nat → ClassId) → (Q : State → Prop) → Prop} {pc : Nat} {ls : List (Nat × Value)} {st : List Value} {σ : gS} (C : gOkQ g T own nL rt R Z ad nc ns E) (j : Nat) {x y : Int32} {off : Int} (tgt : Nat) (hd : T[j]? = some (pc, .if_icmp .lt off, 3)) (ht : (pc : Int) + off = (tgt : Int)) (hc : x < y) (k : g tgt ls st σ) : g pc ls (.int y :: .int x :: st) σ := g_icmp_lt C j tgt hd ht (if_pos hc : (if x < y then some () else none) = some ()) (fun _ => k) (fun h => by cases h)
theorem g_icmp_lt_F {g : Nat → List (Nat × Value) → List Value → gS → Prop} {T : List (Nat × Instr × Nat)} {own : String} {nL : Nat} {rt : Option FieldType} {R : Room} {Z : List gH} {ad : Nat → Nat} {nc ns : Nat} {E : (p : Program) → (l : Launch) → (e : Env) → (s : State) → (m : MethodId) → (args : Array Value) → (below : List Frame) → (meth : Method) → (c : Code) → (A : Nat → Prop) → (D : va_G) → (cy : Nat → ClassId) → (Q : State → Prop) → Prop} {pc : Nat} {ls : List (Nat × Value)} {st : List Value} {σ : gS} (C : gOkQ g T own nL rt R Z ad nc ns E) (j : Nat) {x y : Int32} {off : Int} (tgt : Nat) (hd : T[j]? = some (pc, .if_icmp .lt off, 3)) (ht : (pc : Int) + off = (tgt : Int)) (hc : ¬ (x < y)) (k : g (pc + 3) ls st σ) : g pc ls (.int y :: .int x :: st) σ := g_icmp_lt C j tgt hd ht (if_neg hc : (if x < y then none else some ()) = some ()) (fun h => by cases h) (fun _ => k)
theorem g_if_ge_T {g : Nat → List (Nat × Value) → List Value → gS → Prop} {T : List (Nat × Instr × Nat)} {own : String} {nL : Nat} {rt : Option FieldType} {R : Room} {Z : List gH} {ad : Nat → Nat} {nc ns : Nat} {E : (p : Program) → (l : Launch) → (e : Env) → (s : State) → (m : MethodId) → (args : Array Value) → (below : List Frame) → (meth : Method) → (c : Code) → (A : Nat → Prop) → (D : va_G) → (cy : Nat → ClassId) → (Q : State → Prop) → Prop} {pc : Nat} {ls : List (Nat × Value)} {st : List Value} {σ : gS} (C : gOkQ g T own nL rt R Z ad nc ns E) (j : Nat) {x : Int32} {off : Int} (tgt : Nat) (hd : T[j]? = some (pc, .ifCond .ge off, 3)) (ht : (pc : Int) + off = (tgt : Int)) (hc : 0 ≤ x) (k : g tgt ls st σ) : g pc ls (.int x :: st) σ := g_if_ge C j tgt hd ht (if_pos hc : (if 0 ≤ x then some () else none) = some ()) (fun _ => k) (fun h => by cases h)
theorem g_if_ge_F {g : Nat → List (Nat × Value) → List Value → gS → Prop} {T : List (Nat × Instr × Nat)} {own : String} {nL : Nat} {rt : Option FieldType} {R : Room} {Z : List gH} {ad : Nat → Nat} {nc ns : Nat} {E : (p : Program) → (l : Launch) → (e : Env) → (s : State) → (m : MethodId) → (args : Array Value) → (below : List Frame) → (meth : Method) → (c : Code) → (A : Nat → Prop) → (D : va_G) → (cy : Nat → ClassId) → (Q : State → Prop) → Prop} {pc : Nat} {ls : List (Nat × Value)} {st : List Value} {σ : gS} (C : gOkQ g T own nL rt R Z ad nc ns E) (j : Nat) {x : Int32} {off : Int} (tgt : Nat) (hd : T[j]? = some (pc, .ifCond .ge off, 3)) (ht : (pc : Int) + off = (tgt : Int)) (hc : ¬ (0 ≤ x)) (k : g (pc + 3) ls st σ) : g pc ls (.int x :: st) σ := g_if_ge C j tgt hd ht (if_neg hc : (if 0 ≤ x then none else some ()) = some ()) (fun h => by cases h) (fun _ => k)
theorem g_icmp_ge_T {g : Nat → List (Nat × Value) → List Value → gS → Prop} {T : List (Nat × Instr × Nat)} {own : String} {nL : Nat} {rt : Option FieldType} {R : Room} {Z : List gH} {ad : Nat → Nat} {nc ns : Nat} {E : (p : Program) → (l : Launch) → (e : Env) → (s : State) → (m : MethodId) → (args : Array Value) → (below : List Frame) → (meth : Method) → (c : Code) → (A : Nat → Prop) → (D : va_G) → (cy : Nat → ClassId) → (Q : State → Prop) → Prop} {pc : Nat} {ls : List (Nat × Value)} {st : List Value} {σ : gS} (C : gOkQ g T own nL rt R Z ad nc ns E) (j : Nat) {x y : Int32} {off : Int} (tgt : Nat) (hd : T[j]? = some (pc, .if_icmp .ge off, 3)) (ht : (pc : Int) + off = (tgt : Int)) (hc : y ≤ x) (k : g tgt ls st σ) : g pc ls (.int y :: .int x :: st) σ := g_icmp_ge C j tgt hd ht (if_pos hc : (if y ≤ x then some () else none) = some ()) (fun _ => k) (fun h => by cases h)
theorem g_icmp_ge_F {g : Nat → List (Nat × Value) → List Value → gS → Prop} {T : List (Nat × Instr × Nat)} {own : String} {nL : Nat} {rt : Option FieldType} {R : Room} {Z : List gH} {ad : Nat → Nat} {nc ns : Nat} {E : (p : Program) → (l : Launch) → (e : Env) → (s : State) → (m : MethodId) → (args : Array Value) → (below : List Frame) → (meth : Method) → (c : Code) → (A : Nat → Prop) → (D : va_G) → (cy : Nat → ClassId) → (Q : State → Prop) → Prop} {pc : Nat} {ls : List (Nat × Value)} {st : List Value} {σ : gS} (C : gOkQ g T own nL rt R Z ad nc ns E) (j : Nat) {x y : Int32} {off : Int} (tgt : Nat) (hd : T[j]? = some (pc, .if_icmp .ge off, 3)) (ht : (pc : Int) + off = (tgt : Int)) (hc : ¬ (y ≤ x)) (k : g (pc + 3) ls st σ) : g pc ls (.int y :: .int x :: st) σ := g_icmp_ge C j tgt hd ht (if_neg hc : (if y ≤ x then none else some ()) = some ()) (fun h => by cases h) (fun _ => k)
theorem g_if_gt_T {g : Nat → List (Nat × Value) → List Value → gS → Prop} {T : List (Nat × Instr × Nat)} {own : String} {nL : Nat} {rt : Option FieldType} {R : Room} {Z : List gH} {ad : Nat → Nat} {nc ns : Nat} {E : (p : Program) → (l : Launch) → (e : Env) → (s : State) → (m : MethodId) → (args : Array Value) → (below : List Frame) → (meth : Method) → (c : Code) → (A : Nat → Prop) → (D : va_G) → (cy : Nat → ClassId) → (Q : State → Prop) → Prop} {pc : Nat} {ls : List (Nat × Value)} {st : List Value} {σ : gS} (C : gOkQ g T own nL rt R Z ad nc ns E) (j : Nat) {x : Int32} {off : Int} (tgt : Nat) (hd : T[j]? = some (pc, .ifCond .gt off, 3)) (ht : (pc : Int) + off = (tgt : Int)) (hc : 0 < x) (k : g tgt ls st σ) : g pc ls (.int x :: st) σ := g_if_gt C j tgt hd ht (if_pos hc : (if 0 < x then some () else none) = some ()) (fun _ => k) (fun h => by cases h)
theorem g_if_gt_F {g : Nat → List (Nat × Value) → List Value → gS → Prop} {T : List (Nat × Instr × Nat)} {own : String} {nL : Nat} {rt : Option FieldType} {R : Room} {Z : List gH} {ad : Nat → Nat} {nc ns : Nat} {E : (p : Program) → (l : Launch) → (e : Env) → (s : State) → (m : MethodId) → (args : Array Value) → (below : List Frame) → (meth : Method) → (c : Code) → (A : Nat → Prop) → (D : va_G) → (cy : Nat → ClassId) → (Q : State → Prop) → Prop} {pc : Nat} {ls : List (Nat × Value)} {st : List Value} {σ : gS} (C : gOkQ g T own nL rt R Z ad nc ns E) (j : Nat) {x : Int32} {off : Int} (tgt : Nat) (hd : T[j]? = some (pc, .ifCond .gt off, 3)) (ht : (pc : Int) + off = (tgt : Int)) (hc : ¬ (0 < x)) (k : g (pc + 3) ls st σ) : g pc ls (.int x :: st) σ := g_if_gt C j tgt hd ht (if_neg hc : (if 0 < x then none else some ()) = some ()) (fun h => by cases h) (fun _ => k)
theorem g_icmp_gt_T {g : Nat → List (Nat × Value) → List Value → gS → Prop} {T : List (Nat × Instr × Nat)} {own : String} {nL : Nat} {rt : Option FieldType} {R : Room} {Z : List gH} {ad : Nat → Nat} {nc ns : Nat} {E : (p : Program) → (l : Launch) → (e : Env) → (s : State) → (m : MethodId) → (args : Array Value) → (below : List Frame) → (meth : Method) → (c : Code) → (A : Nat → Prop) → (D : va_G) → (cy : Nat → ClassId) → (Q : State → Prop) → Prop} {pc : Nat} {ls : List (Nat × Value)} {st : List Value} {σ : gS} (C : gOkQ g T own nL rt R Z ad nc ns E) (j : Nat) {x y : Int32} {off : Int} (tgt : Nat) (hd : T[j]? = some (pc, .if_icmp .gt off, 3)) (ht : (pc : Int) + off = (tgt : Int)) (hc : y < x) (k : g tgt ls st σ) : g pc ls (.int y :: .int x :: st) σ := g_icmp_gt C j tgt hd ht (if_pos hc : (if y < x then some () else none) = some ()) (fun _ => k) (fun h => by cases h)
theorem g_icmp_gt_F {g : Nat → List (Nat × Value) → List Value → gS → Prop} {T : List (Nat × Instr × Nat)} {own : String} {nL : Nat} {rt : Option FieldType} {R : Room} {Z : List gH} {ad : Nat → Nat} {nc ns : Nat} {E : (p : Program) → (l : Launch) → (e : Env) → (s : State) → (m : MethodId) → (args : Array Value) → (below : List Frame) → (meth : Method) → (c : Code) → (A : Nat → Prop) → (D : va_G) → (cy : Nat → ClassId) → (Q : State → Prop) → Prop} {pc : Nat} {ls : List (Nat × Value)} {st : List Value} {σ : gS} (C : gOkQ g T own nL rt R Z ad nc ns E) (j : Nat) {x y : Int32} {off : Int} (tgt : Nat) (hd : T[j]? = some (pc, .if_icmp .gt off, 3)) (ht : (pc : Int) + off = (tgt : Int)) (hc : ¬ (y < x)) (k : g (pc + 3) ls st σ) : g pc ls (.int y :: .int x :: st) σ := g_icmp_gt C j tgt hd ht (if_neg hc : (if y < x then none else some ()) = some ()) (fun h => by cases h) (fun _ => k)
theorem g_if_le_T {g : Nat → List (Nat × Value) → List Value → gS → Prop} {T : List (Nat × Instr × Nat)} {own : String} {nL : Nat} {rt : Option FieldType} {R : Room} {Z : List gH} {ad : Nat → Nat} {nc ns : Nat} {E : (p : Program) → (l : Launch) → (e : Env) → (s : State) → (m : MethodId) → (args : Array Value) → (below : List Frame) → (meth : Method) → (c : Code) → (A : Nat → Prop) → (D : va_G) → (cy : Nat → ClassId) → (Q : State → Prop) → Prop} {pc : Nat} {ls : List (Nat × Value)} {st : List Value} {σ : gS} (C : gOkQ g T own nL rt R Z ad nc ns E) (j : Nat) {x : Int32} {off : Int} (tgt : Nat) (hd : T[j]? = some (pc, .ifCond .le off, 3)) (ht : (pc : Int) + off = (tgt : Int)) (hc : x ≤ 0) (k : g tgt ls st σ) : g pc ls (.int x :: st) σ := g_if_le C j tgt hd ht (if_pos hc : (if x ≤ 0 then some () else none) = some ()) (fun _ => k) (fun h => by cases h)
theorem g_if_le_F {g : Nat → List (Nat × Value) → List Value → gS → Prop} {T : List (Nat × Instr × Nat)} {own : String} {nL : Nat} {rt : Option FieldType} {R : Room} {Z : List gH} {ad : Nat → Nat} {nc ns : Nat} {E : (p : Program) → (l : Launch) → (e : Env) → (s : State) → (m : MethodId) → (args : Array Value) → (below : List Frame) → (meth : Method) → (c : Code) → (A : Nat → Prop) → (D : va_G) → (cy : Nat → ClassId) → (Q : State → Prop) → Prop} {pc : Nat} {ls : List (Nat × Value)} {st : List Value} {σ : gS} (C : gOkQ g T own nL rt R Z ad nc ns E) (j : Nat) {x : Int32} {off : Int} (tgt : Nat) (hd : T[j]? = some (pc, .ifCond .le off, 3)) (ht : (pc : Int) + off = (tgt : Int)) (hc : ¬ (x ≤ 0)) (k : g (pc + 3) ls st σ) : g pc ls (.int x :: st) σ := g_if_le C j tgt hd ht (if_neg hc : (if x ≤ 0 then none else some ()) = some ()) (fun h => by cases h) (fun _ => k)
theorem g_icmp_le_T {g : Nat → List (Nat × Value) → List Value → gS → Prop} {T : List (Nat × Instr × Nat)} {own : String} {nL : Nat} {rt : Option FieldType} {R : Room} {Z : List gH} {ad : Nat → Nat} {nc ns : Nat} {E : (p : Program) → (l : Launch) → (e : Env) → (s : State) → (m : MethodId) → (args : Array Value) → (below : List Frame) → (meth : Method) → (c : Code) → (A : Nat → Prop) → (D : va_G) → (cy : Nat → ClassId) → (Q : State → Prop) → Prop} {pc : Nat} {ls : List (Nat × Value)} {st : List Value} {σ : gS} (C : gOkQ g T own nL rt R Z ad nc ns E) (j : Nat) {x y : Int32} {off : Int} (tgt : Nat) (hd : T[j]? = some (pc, .if_icmp .le off, 3)) (ht : (pc : Int) + off = (tgt : Int)) (hc : x ≤ y) (k : g tgt ls st σ) : g pc ls (.int y :: .int x :: st) σ := g_icmp_le C j tgt hd ht (if_pos hc : (if x ≤ y then some () else none) = some ()) (fun _ => k) (fun h => by cases h)
theorem g_icmp_le_F {g : Nat → List (Nat × Value) → List Value → gS → Prop} {T : List (Nat × Instr × Nat)} {own : String} {nL : Nat} {rt : Option FieldType} {R : Room} {Z : List gH} {ad : Nat → Nat} {nc ns : Nat} {E : (p : Program) → (l : Launch) → (e : Env) → (s : State) → (m : MethodId) → (args : Array Value) → (below : List Frame) → (meth : Method) → (c : Code) → (A : Nat → Prop) → (D : va_G) → (cy : Nat → ClassId) → (Q : State → Prop) → Prop} {pc : Nat} {ls : List (Nat × Value)} {st : List Value} {σ : gS} (C : gOkQ g T own nL rt R Z ad nc ns E) (j : Nat) {x y : Int32} {off : Int} (tgt : Nat) (hd : T[j]? = some (pc, .if_icmp .le off, 3)) (ht : (pc : Int) + off = (tgt : Int)) (hc : ¬ (x ≤ y)) (k : g (pc + 3) ls st σ) : g pc ls (.int y :: .int x :: st) σ := g_icmp_le C j tgt hd ht (if_neg hc : (if x ≤ y then none else some ()) = some ()) (fun h => by cases h) (fun _ => k)
def T_JA_fill : List (Nat × Instr × Nat) := [(0, .iconst 0, 1), (1, .istore_n 2, 1), (2, .aload_n 0, 1), (3, .arraylength, 1), (4, .istore_n 3, 1), (5, .iload_n 2, 1), (6, .iload_n 3, 1), (7, .if_icmp .ge (13), 3), (10, .aload_n 0, 1), (11, .iload_n 2, 1), (12, .iload_n 1, 1), (13, .iastore, 1), (14, .iinc 2 1, 3), (17, .goto (-12), 3), (20, .return_, 1)]
theorem T_JA_fill_ok : gTb cJA_fill T_JA_fill = true := by decide +kernel
def F_JA_fill_L5 (Z : List gH) (l0 : Nat) (l1 : Int32) : Nat → Int32 → Int32 → gS → Option (Int32 × gS)
  | 0, _, _, _ => none
  | n + 1, l2, l3, σ => if l3 ≤ l2 then some (0, σ) else mIn (zl Z l0) l2 (mLet (gu σ l0 (nn l2) l1) (fun s1 => F_JA_fill_L5 Z l0 l1 n (l2 + 1) l3 s1))
def F_JA_fill (Z : List gH) (l0 : Nat) (l1 : Int32) (σ : gS) : Option (Int32 × gS) := mLet ((Int32.ofNat (zl Z l0))) (fun v1 => F_JA_fill_L5 Z l0 l1 mFuel 0 v1 σ)
set_option maxRecDepth 20000 in
set_option maxHeartbeats 4000000 in
theorem C_F_JA_fill_L5 {g : Nat → List (Nat × Value) → List Value → gS → Prop} {Z : List gH} {ad : Nat → Nat} {z : Int32 × gS}  (C : gOk g T_JA_fill RJA 4 none 1 Z ad z) (hZ : Lay Z) (l0 : Nat) (hl0 : IA Z l0) (l1 : Int32) : ∀ (n : Nat) (l2 : Int32) (l3 : Int32) (σ : gS), F_JA_fill_L5 Z l0 l1 n l2 l3 σ = some z → g 5 [(0, .ref (ad l0)), (1, .int l1), (2, .int l2), (3, .int l3)] [] σ := by
  intro n
  induction n with
  | zero => intro l2 l3 σ h; cases h
  | succ n ih =>
    intro l2 l3 σ h
    rw [F_JA_fill_L5] at h
    refine g_iload_n C 5 2 rfl rfl ?_
    refine g_iload_n C 6 3 rfl rfl ?_
    refine g_icmp_ge C 7 20 rfl rfl h (fun h => ?_) (fun h => ?_)
    · exact g_return C 14 rfl h
    · refine g_aload_n C 8 0 rfl rfl ?_
      refine g_iload_n C 9 2 rfl rfl ?_
      refine g_iload_n C 10 1 rfl rfl ?_
      refine g_iast C 11 rfl hl0 h (fun s1 h => ?_)
      refine g_iinc C 12 2 (l2 + 1) [(2, .int (l2 + 1)), (0, .ref (ad l0)), (1, .int l1), (3, .int l3)] rfl rfl (by decide) rfl rfl ?_
      refine g_goto C 13 5 rfl rfl ?_
      refine g_sub C [1, 2, 0, 3] [(0, .ref (ad l0)), (1, .int l1), (2, .int (l2 + 1)), (3, .int l3)] rfl ?_
      exact ih _ _ _ h
set_option maxRecDepth 20000 in
set_option maxHeartbeats 4000000 in
theorem M_JA_fill {Z : List gH} (hZ : Lay Z) (l0 : Nat) (hl0 : IA Z l0) (l1 : Int32) : gMet yJA_fill cJA_fill 4 none 1 Z (fun ad => [.ref (ad l0), .int l1]) (F_JA_fill Z l0 l1) := by
  refine gMet_intro T_JA_fill T_JA_fill_ok rfl (fun _ => Nat.le_of_ble_eq_true rfl) (fun g ad σ z C h => ?_)
  show g 0 [(0, .ref (ad l0)), (1, .int l1)] [] σ
  rw [F_JA_fill] at h
  refine g_iconst (v := 0) C 0 rfl rfl ?_
  refine g_istore_n C 1 [(2, .int 0), (0, .ref (ad l0)), (1, .int l1)] rfl (by decide) rfl ?_
  refine g_aload_n C 2 1 rfl rfl ?_
  refine g_alen C 3 rfl hl0 ?_
  refine g_let h (fun v1 h => ?_)
  refine g_istore_n C 4 [(3, .int v1), (2, .int 0), (0, .ref (ad l0)), (1, .int l1)] rfl (by decide) rfl ?_
  refine g_sub C [2, 3, 1, 0] [(0, .ref (ad l0)), (1, .int l1), (2, .int 0), (3, .int v1)] rfl ?_
  exact C_F_JA_fill_L5 C hZ _ hl0 _ _ _ _ _ h
def T_X9_within : List (Nat × Instr × Nat) := [(0, .iload_n 0, 1), (1, .iload_n 1, 1), (2, .if_icmp .lt 12, 3), (5, .iload_n 0, 1), (6, .iload_n 2, 1), (7, .if_icmp .gt 7, 3), (10, .iconst 1, 1), (11, .goto 4, 3), (14, .iconst 0, 1), (15, .ireturn, 1)]
theorem T_X9_within_ok : gTb cX9_within T_X9_within = true := by decide +kernel
def F_X9_within (Z : List gH) (l0 : Int32) (l1 : Int32) (l2 : Int32) (σ : gS) : Option (Int32 × gS) := if l0 < l1 then mZ 0 σ else if l2 < l0 then mZ 0 σ else mZ 1 σ
set_option maxRecDepth 20000 in
set_option maxHeartbeats 4000000 in
theorem M_X9_within {Z : List gH} (hZ : Lay Z) (l0 : Int32) (l1 : Int32) (l2 : Int32) : gMet yX9_within cX9_within 3 (some .boolean) 1 Z (fun ad => [.int l0, .int l1, .int l2]) (F_X9_within Z l0 l1 l2) := by
  refine gMet_intro T_X9_within T_X9_within_ok rfl (fun _ => Nat.le_of_ble_eq_true rfl) (fun g ad σ z C h => ?_)
  show g 0 [(0, .int l0), (1, .int l1), (2, .int l2)] [] σ
  rw [F_X9_within] at h
  refine g_iload_n C 0 0 rfl rfl ?_
  refine g_iload_n C 1 1 rfl rfl ?_
  refine g_icmp_lt C 2 14 rfl rfl h (fun h => ?_) (fun h => ?_)
  · refine g_iconst (v := 0) C 8 rfl rfl ?_
    exact g_zreturn C 9 rfl h
  · refine g_iload_n C 3 0 rfl rfl ?_
    refine g_iload_n C 4 2 rfl rfl ?_
    refine g_icmp_gt C 5 14 rfl rfl h (fun h => ?_) (fun h => ?_)
    · refine g_iconst (v := 0) C 8 rfl rfl ?_
      exact g_zreturn C 9 rfl h
    · refine g_iconst (v := 1) C 6 rfl rfl ?_
      refine g_goto C 7 15 rfl rfl ?_
      exact g_zreturn C 9 rfl h
def T_X1_burns : List (Nat × Instr × Nat) := [(0, .iload_n 0, 1), (1, .tableswitch 61 1 5 #[35, 45, 39, 49, 59], 35), (36, .iload_n 1, 1), (37, .iconst 2, 1), (38, .iadd, 1), (39, .ireturn, 1), (40, .iconst 2, 1), (41, .iload_n 1, 1), (42, .iconst 2, 1), (43, .iadd, 1), (44, .imul, 1), (45, .ireturn, 1), (46, .iload_n 1, 1), (47, .iconst 2, 1), (48, .idiv, 1), (49, .ireturn, 1), (50, .iconst 0, 1), (51, .iload_n 1, 1), (52, .iconst 2, 1), (53, .idiv, 1), (54, .iconst 1, 1), (55, .isub, 1), (56, .invokestatic 13, 3), (59, .ireturn, 1), (60, .iconst 0, 1), (61, .ireturn, 1), (62, .iload_n 1, 1), (63, .ireturn, 1)]
theorem T_X1_burns_ok : gTb cX1_burns T_X1_burns = true := by decide +kernel
def F_X1_burns (Z : List gH) (l0 : Int32) (l1 : Int32) (σ : gS) : Option (Int32 × gS) := if l0 = 1 then some ((l1 + 2), σ) else if l0 = 2 then some ((l1 / 2), σ) else if l0 = 3 then some ((2 * (l1 + 2)), σ) else if l0 = 4 then some ((mMax 0 ((l1 / 2) - 1)), σ) else if l0 = 5 then some (0, σ) else some (l1, σ)
set_option maxRecDepth 20000 in
set_option maxHeartbeats 4000000 in
theorem M_X1_burns {Z : List gH} (hZ : Lay Z) (l0 : Int32) (l1 : Int32) : gMet yX1_burns cX1_burns 2 (some .int) 2 Z (fun ad => [.int l0, .int l1]) (F_X1_burns Z l0 l1) := by
  refine gMet_intro T_X1_burns T_X1_burns_ok rfl (fun _ => Nat.le_of_ble_eq_true rfl) (fun g ad σ z C h => ?_)
  show g 0 [(0, .int l0), (1, .int l1)] [] σ
  rw [F_X1_burns] at h
  refine g_iload_n C 0 0 rfl rfl ?_
  by_cases hx0_0 : l0 = 1
  · rw [if_pos hx0_0] at h
    refine g_tblAt C 1 1 hx0_0 36 rfl (by decide) (by decide) rfl rfl ?_
    refine g_iload_n C 2 1 rfl rfl ?_
    refine g_iconst (v := 2) C 3 rfl rfl ?_
    refine g_iadd C 4 rfl ?_
    exact g_ireturn C 5 rfl h
  · rw [if_neg hx0_0] at h
    by_cases hx0_1 : l0 = 2
    · rw [if_pos hx0_1] at h
      refine g_tblAt C 1 2 hx0_1 46 rfl (by decide) (by decide) rfl rfl ?_
      refine g_iload_n C 12 1 rfl rfl ?_
      refine g_iconst (v := 2) C 13 rfl rfl ?_
      refine g_idivK C 14 rfl (by decide) ?_
      exact g_ireturn C 15 rfl h
    · rw [if_neg hx0_1] at h
      by_cases hx0_2 : l0 = 3
      · rw [if_pos hx0_2] at h
        refine g_tblAt C 1 3 hx0_2 40 rfl (by decide) (by decide) rfl rfl ?_
        refine g_iconst (v := 2) C 6 rfl rfl ?_
        refine g_iload_n C 7 1 rfl rfl ?_
        refine g_iconst (v := 2) C 8 rfl rfl ?_
        refine g_iadd C 9 rfl ?_
        refine g_imul C 10 rfl ?_
        exact g_ireturn C 11 rfl h
      · rw [if_neg hx0_2] at h
        by_cases hx0_3 : l0 = 4
        · rw [if_pos hx0_3] at h
          refine g_tblAt C 1 4 hx0_3 50 rfl (by decide) (by decide) rfl rfl ?_
          refine g_iconst (v := 0) C 16 rfl rfl ?_
          refine g_iload_n C 17 1 rfl rfl ?_
          refine g_iconst (v := 2) C 18 rfl rfl ?_
          refine g_idivK C 19 rfl (by decide) ?_
          refine g_iconst (v := 1) C 20 rfl rfl ?_
          refine g_isub C 21 rfl ?_
          refine g_mmax C 22 rfl cnX1_13 wm_max ⟨Nat.le_of_ble_eq_true rfl, Nat.le_of_ble_eq_true rfl⟩ ?_
          exact g_ireturn C 23 rfl h
        · rw [if_neg hx0_3] at h
          by_cases hx0_4 : l0 = 5
          · rw [if_pos hx0_4] at h
            refine g_tblAt C 1 5 hx0_4 60 rfl (by decide) (by decide) rfl rfl ?_
            refine g_iconst (v := 0) C 24 rfl rfl ?_
            exact g_ireturn C 25 rfl h
          · rw [if_neg hx0_4] at h
            refine g_tblOut C 1 62 rfl (by have e0 := i32ne hx0_0 1 rfl; have e1 := i32ne hx0_1 2 rfl; have e2 := i32ne hx0_2 3 rfl; have e3 := i32ne hx0_3 4 rfl; have e4 := i32ne hx0_4 5 rfl; omega) rfl ?_
            refine g_iload_n C 26 1 rfl rfl ?_
            exact g_ireturn C 27 rfl h
def T_X2_has : List (Nat × Instr × Nat) := [(0, .iload_n 1, 1), (1, .iconst 0, 1), (2, .bipush 13, 2), (4, .invokestatic 21, 3), (7, .ifCond .eq 16, 3), (10, .aload_n 0, 1), (11, .getfield 11, 3), (14, .iload_n 1, 1), (15, .aaload, 1), (16, .ifnull 7, 3), (19, .iconst 1, 1), (20, .goto 4, 3), (23, .iconst 0, 1), (24, .ireturn, 1)]
theorem T_X2_has_ok : gTb cX2_has T_X2_has = true := by decide +kernel
def F_X2_has (Z : List gH) (l1 : Int32) (σ : gS) : Option (Int32 × gS) := mCall (F_X9_within Z l1 0 13 σ) (fun r1 s2 => if r1 = 0 then mZ 0 s2 else mIn 14 l1 (if zr Z (nn l1) = none then mZ 0 s2 else mZ 1 s2))
set_option maxRecDepth 20000 in
set_option maxHeartbeats 4000000 in
theorem M_X2_has {Z : List gH} (hZ : Lay Z) (l1 : Int32) : gMet yX2_has cX2_has 2 (some .boolean) 2 Z (fun ad => [.ref (ad 1), .int l1]) (F_X2_has Z l1) := by
  refine gMet_intro T_X2_has T_X2_has_ok rfl (fun _ => Nat.le_of_ble_eq_true rfl) (fun g ad σ z C h => ?_)
  show g 0 [(0, .ref (ad 1)), (1, .int l1)] [] σ
  rw [F_X2_has] at h
  refine g_iload_n C 0 1 rfl rfl ?_
  refine g_iconst (v := 0) C 1 rfl rfl ?_
  refine g_bipush (v := 13) C 2 rfl rfl ?_
  refine g_callSi C 3 [.int l1, .int 0, .int 13] [] rfl (M_X9_within hZ l1 0 13) cnX2_21 cwX9_within csX9_within rfl rfl rfl (Nat.le_of_ble_eq_true rfl) ⟨Nat.le_of_ble_eq_true rfl, Nat.le_of_ble_eq_true rfl⟩ h (fun r1 s2 h => ?_)
  refine g_if_eq C 4 23 rfl rfl h (fun h => ?_) (fun h => ?_)
  · refine g_iconst (v := 0) C 12 rfl rfl ?_
    exact g_zreturn C 13 rfl h
  · refine g_aload_n C 5 0 rfl rfl ?_
    refine g_getr (b := 2) C 6 rfl flX2_11 (hZ.at (i := 1) rfl) rfl ?_
    refine g_iload_n C 7 1 rfl rfl ?_
    refine g_aald C 8 rfl (Or.inr (Or.inr rfl)) hZ.2.1 h (fun hin h => ?_)
    refine g_ifnull C 9 23 rfl rfl (fun ho => ?_) (fun b ho => ?_)
    · rw [if_pos ho] at h
      refine g_iconst (v := 0) C 12 rfl rfl ?_
      exact g_zreturn C 13 rfl h
    · rw [if_neg (by rw [ho]; simp)] at h
      refine g_iconst (v := 1) C 10 rfl rfl ?_
      refine g_goto C 11 24 rfl rfl ?_
      exact g_zreturn C 13 rfl h
def T_X2_joined : List (Nat × Instr × Nat) := [(0, .iload_n 0, 1), (1, .lookupswitch 148 #[(38, 89), (42, 144), (43, 136), (45, 140), (60, 103), (61, 114), (62, 125), (124, 75)], 75), (76, .iload_n 1, 1), (77, .ifCond .ne 7, 3), (80, .iload_n 2, 1), (81, .ifCond .eq 7, 3), (84, .iconst 1, 1), (85, .goto 4, 3), (88, .iconst 0, 1), (89, .ireturn, 1), (90, .iload_n 1, 1), (91, .ifCond .eq 11, 3), (94, .iload_n 2, 1), (95, .ifCond .eq 7, 3), (98, .iconst 1, 1), (99, .goto 4, 3), (102, .iconst 0, 1), (103, .ireturn, 1), (104, .iload_n 1, 1), (105, .iload_n 2, 1), (106, .if_icmp .ge 7, 3), (109, .iconst 1, 1), (110, .goto 4, 3), (113, .iconst 0, 1), (114, .ireturn, 1), (115, .iload_n 1, 1), (116, .iload_n 2, 1), (117, .if_icmp .ne 7, 3), (120, .iconst 1, 1), (121, .goto 4, 3), (124, .iconst 0, 1), (125, .ireturn, 1), (126, .iload_n 1, 1), (127, .iload_n 2, 1), (128, .if_icmp .le 7, 3), (131, .iconst 1, 1), (132, .goto 4, 3), (135, .iconst 0, 1), (136, .ireturn, 1), (137, .iload_n 1, 1), (138, .iload_n 2, 1), (139, .iadd, 1), (140, .ireturn, 1), (141, .iload_n 1, 1), (142, .iload_n 2, 1), (143, .isub, 1), (144, .ireturn, 1), (145, .iload_n 1, 1), (146, .iload_n 2, 1), (147, .imul, 1), (148, .ireturn, 1), (149, .iload_n 2, 1), (150, .ifCond .ne 7, 3), (153, .iconst 0, 1), (154, .goto 6, 3), (157, .iload_n 1, 1), (158, .iload_n 2, 1), (159, .idiv, 1), (160, .ireturn, 1)]
theorem T_X2_joined_ok : gTb cX2_joined T_X2_joined = true := by decide +kernel
def F_X2_joined (Z : List gH) (l0 : Int32) (l1 : Int32) (l2 : Int32) (σ : gS) : Option (Int32 × gS) := if l0 = 38 then if l1 = 0 then some (0, σ) else if l2 = 0 then some (0, σ) else some (1, σ) else if l0 = 42 then some ((l1 * l2), σ) else if l0 = 43 then some ((l1 + l2), σ) else if l0 = 45 then some ((l1 - l2), σ) else if l0 = 60 then if l2 ≤ l1 then some (0, σ) else some (1, σ) else if l0 = 61 then if l1 = l2 then some (1, σ) else some (0, σ) else if l0 = 62 then if l1 ≤ l2 then some (0, σ) else some (1, σ) else if l0 = 124 then if l1 = 0 then if l2 = 0 then some (0, σ) else some (1, σ) else some (1, σ) else if l2 = 0 then some (0, σ) else mNz l2 (some ((l1 / l2), σ))
set_option maxRecDepth 20000 in
set_option maxHeartbeats 4000000 in
theorem M_X2_joined {Z : List gH} (hZ : Lay Z) (l0 : Int32) (l1 : Int32) (l2 : Int32) : gMet yX2_joined cX2_joined 3 (some .int) 1 Z (fun ad => [.int l0, .int l1, .int l2]) (F_X2_joined Z l0 l1 l2) := by
  refine gMet_intro T_X2_joined T_X2_joined_ok rfl (fun _ => Nat.le_of_ble_eq_true rfl) (fun g ad σ z C h => ?_)
  show g 0 [(0, .int l0), (1, .int l1), (2, .int l2)] [] σ
  rw [F_X2_joined] at h
  refine g_iload_n C 0 0 rfl rfl ?_
  by_cases hx0_0 : l0 = 38
  · rw [if_pos hx0_0] at h
    refine g_lookup C 1 90 rfl (by decide) (by rw [hx0_0]) rfl ?_
    refine g_iload_n C 10 1 rfl rfl ?_
    refine g_if_eq C 11 102 rfl rfl h (fun h => ?_) (fun h => ?_)
    · refine g_iconst (v := 0) C 16 rfl rfl ?_
      exact g_ireturn C 17 rfl h
    · refine g_iload_n C 12 2 rfl rfl ?_
      refine g_if_eq C 13 102 rfl rfl h (fun h => ?_) (fun h => ?_)
      · refine g_iconst (v := 0) C 16 rfl rfl ?_
        exact g_ireturn C 17 rfl h
      · refine g_iconst (v := 1) C 14 rfl rfl ?_
        refine g_goto C 15 103 rfl rfl ?_
        exact g_ireturn C 17 rfl h
  · rw [if_neg hx0_0] at h
    by_cases hx0_1 : l0 = 42
    · rw [if_pos hx0_1] at h
      refine g_lookup C 1 145 rfl (by decide) (by rw [hx0_1]) rfl ?_
      refine g_iload_n C 47 1 rfl rfl ?_
      refine g_iload_n C 48 2 rfl rfl ?_
      refine g_imul C 49 rfl ?_
      exact g_ireturn C 50 rfl h
    · rw [if_neg hx0_1] at h
      by_cases hx0_2 : l0 = 43
      · rw [if_pos hx0_2] at h
        refine g_lookup C 1 137 rfl (by decide) (by rw [hx0_2]) rfl ?_
        refine g_iload_n C 39 1 rfl rfl ?_
        refine g_iload_n C 40 2 rfl rfl ?_
        refine g_iadd C 41 rfl ?_
        exact g_ireturn C 42 rfl h
      · rw [if_neg hx0_2] at h
        by_cases hx0_3 : l0 = 45
        · rw [if_pos hx0_3] at h
          refine g_lookup C 1 141 rfl (by decide) (by rw [hx0_3]) rfl ?_
          refine g_iload_n C 43 1 rfl rfl ?_
          refine g_iload_n C 44 2 rfl rfl ?_
          refine g_isub C 45 rfl ?_
          exact g_ireturn C 46 rfl h
        · rw [if_neg hx0_3] at h
          by_cases hx0_4 : l0 = 60
          · rw [if_pos hx0_4] at h
            refine g_lookup C 1 104 rfl (by decide) (by rw [hx0_4]) rfl ?_
            refine g_iload_n C 18 1 rfl rfl ?_
            refine g_iload_n C 19 2 rfl rfl ?_
            refine g_icmp_ge C 20 113 rfl rfl h (fun h => ?_) (fun h => ?_)
            · refine g_iconst (v := 0) C 23 rfl rfl ?_
              exact g_ireturn C 24 rfl h
            · refine g_iconst (v := 1) C 21 rfl rfl ?_
              refine g_goto C 22 114 rfl rfl ?_
              exact g_ireturn C 24 rfl h
          · rw [if_neg hx0_4] at h
            by_cases hx0_5 : l0 = 61
            · rw [if_pos hx0_5] at h
              refine g_lookup C 1 115 rfl (by decide) (by rw [hx0_5]) rfl ?_
              refine g_iload_n C 25 1 rfl rfl ?_
              refine g_iload_n C 26 2 rfl rfl ?_
              refine g_icmp_ne C 27 124 rfl rfl h (fun h => ?_) (fun h => ?_)
              · refine g_iconst (v := 0) C 30 rfl rfl ?_
                exact g_ireturn C 31 rfl h
              · refine g_iconst (v := 1) C 28 rfl rfl ?_
                refine g_goto C 29 125 rfl rfl ?_
                exact g_ireturn C 31 rfl h
            · rw [if_neg hx0_5] at h
              by_cases hx0_6 : l0 = 62
              · rw [if_pos hx0_6] at h
                refine g_lookup C 1 126 rfl (by decide) (by rw [hx0_6]) rfl ?_
                refine g_iload_n C 32 1 rfl rfl ?_
                refine g_iload_n C 33 2 rfl rfl ?_
                refine g_icmp_le C 34 135 rfl rfl h (fun h => ?_) (fun h => ?_)
                · refine g_iconst (v := 0) C 37 rfl rfl ?_
                  exact g_ireturn C 38 rfl h
                · refine g_iconst (v := 1) C 35 rfl rfl ?_
                  refine g_goto C 36 136 rfl rfl ?_
                  exact g_ireturn C 38 rfl h
              · rw [if_neg hx0_6] at h
                by_cases hx0_7 : l0 = 124
                · rw [if_pos hx0_7] at h
                  refine g_lookup C 1 76 rfl (by decide) (by rw [hx0_7]) rfl ?_
                  refine g_iload_n C 2 1 rfl rfl ?_
                  refine g_if_ne C 3 84 rfl rfl h (fun h => ?_) (fun h => ?_)
                  · refine g_iconst (v := 1) C 6 rfl rfl ?_
                    refine g_goto C 7 89 rfl rfl ?_
                    exact g_ireturn C 9 rfl h
                  · refine g_iload_n C 4 2 rfl rfl ?_
                    refine g_if_eq C 5 88 rfl rfl h (fun h => ?_) (fun h => ?_)
                    · refine g_iconst (v := 0) C 8 rfl rfl ?_
                      exact g_ireturn C 9 rfl h
                    · refine g_iconst (v := 1) C 6 rfl rfl ?_
                      refine g_goto C 7 89 rfl rfl ?_
                      exact g_ireturn C 9 rfl h
                · rw [if_neg hx0_7] at h
                  refine g_lookup C 1 149 rfl (by decide) (by have e0 := i32ne hx0_0 38 rfl; have e1 := i32ne hx0_1 42 rfl; have e2 := i32ne hx0_2 43 rfl; have e3 := i32ne hx0_3 45 rfl; have e4 := i32ne hx0_4 60 rfl; have e5 := i32ne hx0_5 61 rfl; have e6 := i32ne hx0_6 62 rfl; have e7 := i32ne hx0_7 124 rfl; simp [Op.lookupswitch.offset, Ne.symm e0, Ne.symm e1, Ne.symm e2, Ne.symm e3, Ne.symm e4, Ne.symm e5, Ne.symm e6, Ne.symm e7, e0, e1, e2, e3, e4, e5, e6, e7]; rfl) rfl ?_
                  refine g_iload_n C 51 2 rfl rfl ?_
                  refine g_if_ne C 52 157 rfl rfl h (fun h => ?_) (fun h => ?_)
                  · refine g_iload_n C 55 1 rfl rfl ?_
                    refine g_iload_n C 56 2 rfl rfl ?_
                    refine g_idiv C 57 rfl h (fun h => ?_)
                    exact g_ireturn C 58 rfl h
                  · refine g_iconst (v := 0) C 53 rfl rfl ?_
                    refine g_goto C 54 160 rfl rfl ?_
                    exact g_ireturn C 58 rfl h
def T_X2_work : List (Nat × Instr × Nat) := [(0, .aload_n 0, 1), (1, .iload_n 1, 1), (2, .invokevirtual 25, 3), (5, .ifCond .ne 5, 3), (8, .iconst 0, 1), (9, .ireturn, 1), (10, .aload_n 0, 1), (11, .getfield 11, 3), (14, .iload_n 1, 1), (15, .aaload, 1), (16, .getfield 37, 3), (19, .astore 5, 2), (21, .iconst 0, 1), (22, .istore 6, 2), (24, .iconst 0, 1), (25, .istore 7, 2), (27, .iload 7, 2), (29, .aload 5, 2), (31, .arraylength, 1), (32, .if_icmp .ge 182, 3), (35, .aload 5, 2), (37, .iload 7, 2), (39, .iaload, 1), (40, .istore 8, 2), (42, .iload 8, 2), (44, .sipush 10000, 3), (47, .if_icmp .lt 52, 3), (50, .iload 6, 2), (52, .bipush 96, 2), (54, .if_icmp .ge 45, 3), (57, .iload 8, 2), (59, .sipush 10000, 3), (62, .isub, 1), (63, .istore 9, 2), (65, .aload_n 0, 1), (66, .getfield 17, 3), (69, .iload 6, 2), (71, .iload 9, 2), (73, .ifCond .ne 7, 3), (76, .iload_n 2, 1), (77, .goto 15, 3), (80, .iload 9, 2), (82, .iconst 1, 1), (83, .if_icmp .ne 7, 3), (86, .iload_n 3, 1), (87, .goto 5, 3), (90, .iload 4, 2), (92, .iastore, 1), (93, .iinc 6 1, 3), (96, .goto 112, 3), (99, .iload 8, 2), (101, .ifCond .lt 25, 3), (104, .iload 6, 2), (106, .bipush 96, 2), (108, .if_icmp .ge 18, 3), (111, .aload_n 0, 1), (112, .getfield 17, 3), (115, .iload 6, 2), (117, .iload 8, 2), (119, .iastore, 1), (120, .iinc 6 1, 3), (123, .goto 85, 3), (126, .iload 8, 2), (128, .bipush (-33), 2), (130, .if_icmp .ne 38, 3), (133, .iload 6, 2), (135, .iconst 1, 1), (136, .if_icmp .lt 32, 3), (139, .aload_n 0, 1), (140, .getfield 17, 3), (143, .iload 6, 2), (145, .iconst 1, 1), (146, .isub, 1), (147, .aload_n 0, 1), (148, .getfield 17, 3), (151, .iload 6, 2), (153, .iconst 1, 1), (154, .isub, 1), (155, .iaload, 1), (156, .ifCond .ne 7, 3), (159, .iconst 1, 1), (160, .goto 4, 3), (163, .iconst 0, 1), (164, .iastore, 1), (165, .goto 43, 3), (168, .iload 6, 2), (170, .iconst 2, 1), (171, .if_icmp .lt 37, 3), (174, .iinc 6 (-1), 3), (177, .aload_n 0, 1), (178, .getfield 17, 3), (181, .iload 6, 2), (183, .iconst 1, 1), (184, .isub, 1), (185, .iload 8, 2), (187, .ineg, 1), (188, .aload_n 0, 1), (189, .getfield 17, 3), (192, .iload 6, 2), (194, .iconst 1, 1), (195, .isub, 1), (196, .iaload, 1), (197, .aload_n 0, 1), (198, .getfield 17, 3), (201, .iload 6, 2), (203, .iaload, 1), (204, .invokestatic 40, 3), (207, .iastore, 1), (208, .iinc 7 1, 3), (211, .goto (-184), 3), (214, .aload_n 0, 1), (215, .getfield 17, 3), (218, .iconst 0, 1), (219, .iaload, 1), (220, .ireturn, 1)]
theorem T_X2_work_ok : gTb cX2_work T_X2_work = true := by decide +kernel
def F_X2_work_J208 (Z : List gH) (k27 : Nat → Int32 → Int32 → gS → Option (Int32 × gS)) (l2 : Int32) (l3 : Int32) (l4 : Int32) (l5 : Nat) (l6 : Int32) (l7 : Int32) (σ : gS) : Option (Int32 × gS) := k27 l5 l6 (l7 + 1) σ
def F_X2_work_J168 (Z : List gH) (k27 : Nat → Int32 → Int32 → gS → Option (Int32 × gS)) (l2 : Int32) (l3 : Int32) (l4 : Int32) (l5 : Nat) (l6 : Int32) (l7 : Int32) (l8 : Int32) (σ : gS) : Option (Int32 × gS) := if l6 < 2 then F_X2_work_J208 Z k27 l2 l3 l4 l5 l6 l7 σ else mIn 96 ((l6 + (-1)) - 1) (mIn 96 (l6 + (-1)) (mCall (F_X2_joined Z (-l8) (σ 3 (nn ((l6 + (-1)) - 1))) (σ 3 (nn (l6 + (-1)))) σ) (fun r1 s2 => mIn 96 ((l6 + (-1)) - 1) (mLet (gu s2 3 (nn ((l6 + (-1)) - 1)) r1) (fun s3 => F_X2_work_J208 Z k27 l2 l3 l4 l5 (l6 + (-1)) l7 s3)))))
def F_X2_work_J126 (Z : List gH) (k27 : Nat → Int32 → Int32 → gS → Option (Int32 × gS)) (l2 : Int32) (l3 : Int32) (l4 : Int32) (l5 : Nat) (l6 : Int32) (l7 : Int32) (l8 : Int32) (σ : gS) : Option (Int32 × gS) := if l8 = (-33) then if l6 < 1 then F_X2_work_J168 Z k27 l2 l3 l4 l5 l6 l7 l8 σ else mIn 96 (l6 - 1) (if (σ 3 (nn (l6 - 1))) = 0 then mIn 96 (l6 - 1) (mLet (gu σ 3 (nn (l6 - 1)) 1) (fun s2 => F_X2_work_J208 Z k27 l2 l3 l4 l5 l6 l7 s2)) else mIn 96 (l6 - 1) (mLet (gu σ 3 (nn (l6 - 1)) 0) (fun s1 => F_X2_work_J208 Z k27 l2 l3 l4 l5 l6 l7 s1))) else F_X2_work_J168 Z k27 l2 l3 l4 l5 l6 l7 l8 σ
def F_X2_work_J99 (Z : List gH) (k27 : Nat → Int32 → Int32 → gS → Option (Int32 × gS)) (l2 : Int32) (l3 : Int32) (l4 : Int32) (l5 : Nat) (l6 : Int32) (l7 : Int32) (l8 : Int32) (σ : gS) : Option (Int32 × gS) := if l8 < 0 then F_X2_work_J126 Z k27 l2 l3 l4 l5 l6 l7 l8 σ else if 96 ≤ l6 then F_X2_work_J126 Z k27 l2 l3 l4 l5 l6 l7 l8 σ else mIn 96 l6 (mLet (gu σ 3 (nn l6) l8) (fun s1 => F_X2_work_J208 Z k27 l2 l3 l4 l5 (l6 + 1) l7 s1))
def F_X2_work_L27 (Z : List gH) (l2 : Int32) (l3 : Int32) (l4 : Int32) : Nat → Nat → Int32 → Int32 → gS → Option (Int32 × gS)
  | 0, _, _, _, _ => none
  | n + 1, l5, l6, l7, σ => if (Int32.ofNat (zl Z l5)) ≤ l7 then some ((σ 3 0), σ) else mIn (zl Z l5) l7 (mLet ((σ l5 (nn l7))) (fun v1 => if v1 < 10000 then F_X2_work_J99 Z (F_X2_work_L27 Z l2 l3 l4 n) l2 l3 l4 l5 l6 l7 v1 σ else if 96 ≤ l6 then F_X2_work_J99 Z (F_X2_work_L27 Z l2 l3 l4 n) l2 l3 l4 l5 l6 l7 v1 σ else mLet ((v1 - 10000)) (fun v2 => if v2 = 0 then mIn 96 l6 (mLet (gu σ 3 (nn l6) l2) (fun s5 => F_X2_work_J208 Z (F_X2_work_L27 Z l2 l3 l4 n) l2 l3 l4 l5 (l6 + 1) l7 s5)) else if v2 = 1 then mIn 96 l6 (mLet (gu σ 3 (nn l6) l3) (fun s4 => F_X2_work_J208 Z (F_X2_work_L27 Z l2 l3 l4 n) l2 l3 l4 l5 (l6 + 1) l7 s4)) else mIn 96 l6 (mLet (gu σ 3 (nn l6) l4) (fun s3 => F_X2_work_J208 Z (F_X2_work_L27 Z l2 l3 l4 n) l2 l3 l4 l5 (l6 + 1) l7 s3)))))
def F_X2_work (Z : List gH) (l1 : Int32) (l2 : Int32) (l3 : Int32) (l4 : Int32) (σ : gS) : Option (Int32 × gS) := mCall (F_X2_has Z l1 σ) (fun r1 s2 => if r1 = 0 then some (0, s2) else mIn 14 l1 (mSome (zr Z (nn l1)) (fun c3 => F_X2_work_L27 Z l2 l3 l4 mFuel (c3 + 1) 0 0 s2)))
set_option maxRecDepth 20000 in
set_option maxHeartbeats 4000000 in
theorem C_F_X2_work_J208 {g : Nat → List (Nat × Value) → List Value → gS → Prop} {Z : List gH} {ad : Nat → Nat} {z : Int32 × gS}  (C : gOk g T_X2_work RX2 10 (some .int) 3 Z ad z) (hZ : Lay Z) {k27 : Nat → Int32 → Int32 → gS → Option (Int32 × gS)} (l2 : Int32) (l3 : Int32) (l4 : Int32) (hk27 : ∀ (l5 : Nat) (hl5 : IA Z l5) (l6 : Int32) (l7 : Int32) (σ : gS), k27 l5 l6 l7 σ = some z → g 27 [(0, .ref (ad 1)), (2, .int l2), (3, .int l3), (4, .int l4), (5, .ref (ad l5)), (6, .int l6), (7, .int l7)] [] σ) (l5 : Nat) (hl5 : IA Z l5) (l6 : Int32) (l7 : Int32) (σ : gS) (h : F_X2_work_J208 Z k27 l2 l3 l4 l5 l6 l7 σ = some z) : g 208 [(0, .ref (ad 1)), (2, .int l2), (3, .int l3), (4, .int l4), (5, .ref (ad l5)), (6, .int l6), (7, .int l7)] [] σ := by
  rw [F_X2_work_J208] at h
  refine g_iinc C 108 6 (l7 + 1) [(7, .int (l7 + 1)), (0, .ref (ad 1)), (2, .int l2), (3, .int l3), (4, .int l4), (5, .ref (ad l5)), (6, .int l6)] rfl rfl (by decide) rfl rfl ?_
  refine g_goto C 109 27 rfl rfl ?_
  refine g_sub C [1, 2, 3, 4, 5, 6, 0] [(0, .ref (ad 1)), (2, .int l2), (3, .int l3), (4, .int l4), (5, .ref (ad l5)), (6, .int l6), (7, .int (l7 + 1))] rfl ?_
  exact hk27 _ hl5 _ _ _ h
set_option maxRecDepth 20000 in
set_option maxHeartbeats 4000000 in
theorem C_F_X2_work_J168 {g : Nat → List (Nat × Value) → List Value → gS → Prop} {Z : List gH} {ad : Nat → Nat} {z : Int32 × gS}  (C : gOk g T_X2_work RX2 10 (some .int) 3 Z ad z) (hZ : Lay Z) {k27 : Nat → Int32 → Int32 → gS → Option (Int32 × gS)} (l2 : Int32) (l3 : Int32) (l4 : Int32) (hk27 : ∀ (l5 : Nat) (hl5 : IA Z l5) (l6 : Int32) (l7 : Int32) (σ : gS), k27 l5 l6 l7 σ = some z → g 27 [(0, .ref (ad 1)), (2, .int l2), (3, .int l3), (4, .int l4), (5, .ref (ad l5)), (6, .int l6), (7, .int l7)] [] σ) (l5 : Nat) (hl5 : IA Z l5) (l6 : Int32) (l7 : Int32) (l8 : Int32) (σ : gS) (h : F_X2_work_J168 Z k27 l2 l3 l4 l5 l6 l7 l8 σ = some z) : g 168 [(0, .ref (ad 1)), (2, .int l2), (3, .int l3), (4, .int l4), (5, .ref (ad l5)), (6, .int l6), (7, .int l7), (8, .int l8)] [] σ := by
  rw [F_X2_work_J168] at h
  refine g_iload C 85 5 rfl rfl ?_
  refine g_iconst (v := 2) C 86 rfl rfl ?_
  refine g_icmp_lt C 87 208 rfl rfl h (fun h => ?_) (fun h => ?_)
  · refine g_sub C [0, 1, 2, 3, 4, 5, 6] [(0, .ref (ad 1)), (2, .int l2), (3, .int l3), (4, .int l4), (5, .ref (ad l5)), (6, .int l6), (7, .int l7)] rfl ?_
    exact C_F_X2_work_J208 C hZ _ _ _ hk27 _ hl5 _ _ _ h
  · refine g_iinc C 88 5 (l6 + (-1)) [(6, .int (l6 + (-1))), (0, .ref (ad 1)), (2, .int l2), (3, .int l3), (4, .int l4), (5, .ref (ad l5)), (7, .int l7), (8, .int l8)] rfl rfl (by decide) rfl rfl ?_
    refine g_aload_n C 89 1 rfl rfl ?_
    refine g_getr (b := 3) C 90 rfl flX2_17 (hZ.at (i := 1) rfl) rfl ?_
    refine g_iload C 91 0 rfl rfl ?_
    refine g_iconst (v := 1) C 92 rfl rfl ?_
    refine g_isub C 93 rfl ?_
    refine g_iload C 94 7 rfl rfl ?_
    refine g_ineg C 95 rfl ?_
    refine g_aload_n C 96 1 rfl rfl ?_
    refine g_getr (b := 3) C 97 rfl flX2_17 (hZ.at (i := 1) rfl) rfl ?_
    refine g_iload C 98 0 rfl rfl ?_
    refine g_iconst (v := 1) C 99 rfl rfl ?_
    refine g_isub C 100 rfl ?_
    refine g_iald C 101 rfl (hZ.at (i := 3) rfl) h (fun h => ?_)
    refine g_aload_n C 102 1 rfl rfl ?_
    refine g_getr (b := 3) C 103 rfl flX2_17 (hZ.at (i := 1) rfl) rfl ?_
    refine g_iload C 104 0 rfl rfl ?_
    refine g_iald C 105 rfl (hZ.at (i := 3) rfl) h (fun h => ?_)
    refine g_callSi C 106 [.int (-l8), .int (σ 3 (nn ((l6 + (-1)) - 1))), .int (σ 3 (nn (l6 + (-1))))] [.int ((l6 + (-1)) - 1), .ref (ad 3)] rfl (M_X2_joined hZ (-l8) (σ 3 (nn ((l6 + (-1)) - 1))) (σ 3 (nn (l6 + (-1))))) cnX2_40 cwX2_joined csX2_joined rfl rfl rfl (Nat.le_of_ble_eq_true rfl) ⟨Nat.le_of_ble_eq_true rfl, Nat.le_of_ble_eq_true rfl⟩ h (fun r1 s2 h => ?_)
    refine g_iast C 107 rfl (hZ.at (i := 3) rfl) h (fun s3 h => ?_)
    refine g_sub C [1, 2, 3, 4, 5, 0, 6] [(0, .ref (ad 1)), (2, .int l2), (3, .int l3), (4, .int l4), (5, .ref (ad l5)), (6, .int (l6 + (-1))), (7, .int l7)] rfl ?_
    exact C_F_X2_work_J208 C hZ _ _ _ hk27 _ hl5 _ _ _ h
set_option maxRecDepth 20000 in
set_option maxHeartbeats 4000000 in
theorem C_F_X2_work_J126 {g : Nat → List (Nat × Value) → List Value → gS → Prop} {Z : List gH} {ad : Nat → Nat} {z : Int32 × gS}  (C : gOk g T_X2_work RX2 10 (some .int) 3 Z ad z) (hZ : Lay Z) {k27 : Nat → Int32 → Int32 → gS → Option (Int32 × gS)} (l2 : Int32) (l3 : Int32) (l4 : Int32) (hk27 : ∀ (l5 : Nat) (hl5 : IA Z l5) (l6 : Int32) (l7 : Int32) (σ : gS), k27 l5 l6 l7 σ = some z → g 27 [(0, .ref (ad 1)), (2, .int l2), (3, .int l3), (4, .int l4), (5, .ref (ad l5)), (6, .int l6), (7, .int l7)] [] σ) (l5 : Nat) (hl5 : IA Z l5) (l6 : Int32) (l7 : Int32) (l8 : Int32) (σ : gS) (h : F_X2_work_J126 Z k27 l2 l3 l4 l5 l6 l7 l8 σ = some z) : g 126 [(0, .ref (ad 1)), (2, .int l2), (3, .int l3), (4, .int l4), (5, .ref (ad l5)), (6, .int l6), (7, .int l7), (8, .int l8)] [] σ := by
  rw [F_X2_work_J126] at h
  refine g_iload C 62 7 rfl rfl ?_
  refine g_bipush (v := (-33)) C 63 rfl rfl ?_
  refine g_icmp_ne C 64 168 rfl rfl h (fun h => ?_) (fun h => ?_)
  · exact C_F_X2_work_J168 C hZ _ _ _ hk27 _ hl5 _ _ _ _ h
  · refine g_iload C 65 5 rfl rfl ?_
    refine g_iconst (v := 1) C 66 rfl rfl ?_
    refine g_icmp_lt C 67 168 rfl rfl h (fun h => ?_) (fun h => ?_)
    · exact C_F_X2_work_J168 C hZ _ _ _ hk27 _ hl5 _ _ _ _ h
    · refine g_aload_n C 68 0 rfl rfl ?_
      refine g_getr (b := 3) C 69 rfl flX2_17 (hZ.at (i := 1) rfl) rfl ?_
      refine g_iload C 70 5 rfl rfl ?_
      refine g_iconst (v := 1) C 71 rfl rfl ?_
      refine g_isub C 72 rfl ?_
      refine g_aload_n C 73 0 rfl rfl ?_
      refine g_getr (b := 3) C 74 rfl flX2_17 (hZ.at (i := 1) rfl) rfl ?_
      refine g_iload C 75 5 rfl rfl ?_
      refine g_iconst (v := 1) C 76 rfl rfl ?_
      refine g_isub C 77 rfl ?_
      refine g_iald C 78 rfl (hZ.at (i := 3) rfl) h (fun h => ?_)
      refine g_if_ne C 79 163 rfl rfl h (fun h => ?_) (fun h => ?_)
      · refine g_iconst (v := 0) C 82 rfl rfl ?_
        refine g_iast C 83 rfl (hZ.at (i := 3) rfl) h (fun s1 h => ?_)
        refine g_goto C 84 208 rfl rfl ?_
        refine g_sub C [0, 1, 2, 3, 4, 5, 6] [(0, .ref (ad 1)), (2, .int l2), (3, .int l3), (4, .int l4), (5, .ref (ad l5)), (6, .int l6), (7, .int l7)] rfl ?_
        exact C_F_X2_work_J208 C hZ _ _ _ hk27 _ hl5 _ _ _ h
      · refine g_iconst (v := 1) C 80 rfl rfl ?_
        refine g_goto C 81 164 rfl rfl ?_
        refine g_iast C 83 rfl (hZ.at (i := 3) rfl) h (fun s2 h => ?_)
        refine g_goto C 84 208 rfl rfl ?_
        refine g_sub C [0, 1, 2, 3, 4, 5, 6] [(0, .ref (ad 1)), (2, .int l2), (3, .int l3), (4, .int l4), (5, .ref (ad l5)), (6, .int l6), (7, .int l7)] rfl ?_
        exact C_F_X2_work_J208 C hZ _ _ _ hk27 _ hl5 _ _ _ h
set_option maxRecDepth 20000 in
set_option maxHeartbeats 4000000 in
theorem C_F_X2_work_J99 {g : Nat → List (Nat × Value) → List Value → gS → Prop} {Z : List gH} {ad : Nat → Nat} {z : Int32 × gS}  (C : gOk g T_X2_work RX2 10 (some .int) 3 Z ad z) (hZ : Lay Z) {k27 : Nat → Int32 → Int32 → gS → Option (Int32 × gS)} (l2 : Int32) (l3 : Int32) (l4 : Int32) (hk27 : ∀ (l5 : Nat) (hl5 : IA Z l5) (l6 : Int32) (l7 : Int32) (σ : gS), k27 l5 l6 l7 σ = some z → g 27 [(0, .ref (ad 1)), (2, .int l2), (3, .int l3), (4, .int l4), (5, .ref (ad l5)), (6, .int l6), (7, .int l7)] [] σ) (l5 : Nat) (hl5 : IA Z l5) (l6 : Int32) (l7 : Int32) (l8 : Int32) (σ : gS) (h : F_X2_work_J99 Z k27 l2 l3 l4 l5 l6 l7 l8 σ = some z) : g 99 [(0, .ref (ad 1)), (2, .int l2), (3, .int l3), (4, .int l4), (5, .ref (ad l5)), (6, .int l6), (7, .int l7), (8, .int l8)] [] σ := by
  rw [F_X2_work_J99] at h
  refine g_iload C 50 7 rfl rfl ?_
  refine g_if_lt C 51 126 rfl rfl h (fun h => ?_) (fun h => ?_)
  · exact C_F_X2_work_J126 C hZ _ _ _ hk27 _ hl5 _ _ _ _ h
  · refine g_iload C 52 5 rfl rfl ?_
    refine g_bipush (v := 96) C 53 rfl rfl ?_
    refine g_icmp_ge C 54 126 rfl rfl h (fun h => ?_) (fun h => ?_)
    · exact C_F_X2_work_J126 C hZ _ _ _ hk27 _ hl5 _ _ _ _ h
    · refine g_aload_n C 55 0 rfl rfl ?_
      refine g_getr (b := 3) C 56 rfl flX2_17 (hZ.at (i := 1) rfl) rfl ?_
      refine g_iload C 57 5 rfl rfl ?_
      refine g_iload C 58 7 rfl rfl ?_
      refine g_iast C 59 rfl (hZ.at (i := 3) rfl) h (fun s1 h => ?_)
      refine g_iinc C 60 5 (l6 + 1) [(6, .int (l6 + 1)), (0, .ref (ad 1)), (2, .int l2), (3, .int l3), (4, .int l4), (5, .ref (ad l5)), (7, .int l7), (8, .int l8)] rfl rfl (by decide) rfl rfl ?_
      refine g_goto C 61 208 rfl rfl ?_
      refine g_sub C [1, 2, 3, 4, 5, 0, 6] [(0, .ref (ad 1)), (2, .int l2), (3, .int l3), (4, .int l4), (5, .ref (ad l5)), (6, .int (l6 + 1)), (7, .int l7)] rfl ?_
      exact C_F_X2_work_J208 C hZ _ _ _ hk27 _ hl5 _ _ _ h
set_option maxRecDepth 20000 in
set_option maxHeartbeats 4000000 in
theorem C_F_X2_work_L27 {g : Nat → List (Nat × Value) → List Value → gS → Prop} {Z : List gH} {ad : Nat → Nat} {z : Int32 × gS}  (C : gOk g T_X2_work RX2 10 (some .int) 3 Z ad z) (hZ : Lay Z) (l2 : Int32) (l3 : Int32) (l4 : Int32) : ∀ (n : Nat) (l5 : Nat) (hl5 : IA Z l5) (l6 : Int32) (l7 : Int32) (σ : gS), F_X2_work_L27 Z l2 l3 l4 n l5 l6 l7 σ = some z → g 27 [(0, .ref (ad 1)), (2, .int l2), (3, .int l3), (4, .int l4), (5, .ref (ad l5)), (6, .int l6), (7, .int l7)] [] σ := by
  intro n
  induction n with
  | zero => intro l5 hl5 l6 l7 σ h; cases h
  | succ n ih =>
    intro l5 hl5 l6 l7 σ h
    rw [F_X2_work_L27] at h
    refine g_iload C 16 6 rfl rfl ?_
    refine g_aload C 17 4 rfl rfl ?_
    refine g_alen C 18 rfl hl5 ?_
    refine g_icmp_ge C 19 214 rfl rfl h (fun h => ?_) (fun h => ?_)
    · refine g_aload_n C 110 0 rfl rfl ?_
      refine g_getr (b := 3) C 111 rfl flX2_17 (hZ.at (i := 1) rfl) rfl ?_
      refine g_iconst (v := 0) C 112 rfl rfl ?_
      refine g_ialdK C 113 0 rfl (hZ.at (i := 3) rfl) rfl (vp_k rfl) ?_
      exact g_ireturn C 114 rfl h
    · refine g_aload C 20 4 rfl rfl ?_
      refine g_iload C 21 6 rfl rfl ?_
      refine g_iald C 22 rfl hl5 h (fun h => ?_)
      refine g_let h (fun v1 h => ?_)
      refine g_istore C 23 [(8, .int v1), (0, .ref (ad 1)), (2, .int l2), (3, .int l3), (4, .int l4), (5, .ref (ad l5)), (6, .int l6), (7, .int l7)] rfl (by decide) rfl ?_
      refine g_iload C 24 0 rfl rfl ?_
      refine g_sipush (v := 10000) C 25 rfl rfl ?_
      refine g_icmp_lt C 26 99 rfl rfl h (fun h => ?_) (fun h => ?_)
      · refine g_sub C [1, 2, 3, 4, 5, 6, 7, 0] [(0, .ref (ad 1)), (2, .int l2), (3, .int l3), (4, .int l4), (5, .ref (ad l5)), (6, .int l6), (7, .int l7), (8, .int v1)] rfl ?_
        exact C_F_X2_work_J99 C hZ _ _ _ ih _ hl5 _ _ _ _ h
      · refine g_iload C 27 6 rfl rfl ?_
        refine g_bipush (v := 96) C 28 rfl rfl ?_
        refine g_icmp_ge C 29 99 rfl rfl h (fun h => ?_) (fun h => ?_)
        · refine g_sub C [1, 2, 3, 4, 5, 6, 7, 0] [(0, .ref (ad 1)), (2, .int l2), (3, .int l3), (4, .int l4), (5, .ref (ad l5)), (6, .int l6), (7, .int l7), (8, .int v1)] rfl ?_
          exact C_F_X2_work_J99 C hZ _ _ _ ih _ hl5 _ _ _ _ h
        · refine g_iload C 30 0 rfl rfl ?_
          refine g_sipush (v := 10000) C 31 rfl rfl ?_
          refine g_isub C 32 rfl ?_
          refine g_let h (fun v2 h => ?_)
          refine g_istore C 33 [(9, .int v2), (8, .int v1), (0, .ref (ad 1)), (2, .int l2), (3, .int l3), (4, .int l4), (5, .ref (ad l5)), (6, .int l6), (7, .int l7)] rfl (by decide) rfl ?_
          refine g_aload_n C 34 2 rfl rfl ?_
          refine g_getr (b := 3) C 35 rfl flX2_17 (hZ.at (i := 1) rfl) rfl ?_
          refine g_iload C 36 7 rfl rfl ?_
          refine g_iload C 37 0 rfl rfl ?_
          refine g_if_ne C 38 80 rfl rfl h (fun h => ?_) (fun h => ?_)
          · refine g_iload C 41 0 rfl rfl ?_
            refine g_iconst (v := 1) C 42 rfl rfl ?_
            refine g_icmp_ne C 43 90 rfl rfl h (fun h => ?_) (fun h => ?_)
            · refine g_iload C 46 5 rfl rfl ?_
              refine g_iast C 47 rfl (hZ.at (i := 3) rfl) h (fun s3 h => ?_)
              refine g_iinc C 48 7 (l6 + 1) [(6, .int (l6 + 1)), (9, .int v2), (8, .int v1), (0, .ref (ad 1)), (2, .int l2), (3, .int l3), (4, .int l4), (5, .ref (ad l5)), (7, .int l7)] rfl rfl (by decide) rfl rfl ?_
              refine g_goto C 49 208 rfl rfl ?_
              refine g_sub C [3, 4, 5, 6, 7, 0, 8] [(0, .ref (ad 1)), (2, .int l2), (3, .int l3), (4, .int l4), (5, .ref (ad l5)), (6, .int (l6 + 1)), (7, .int l7)] rfl ?_
              exact C_F_X2_work_J208 C hZ _ _ _ ih _ hl5 _ _ _ h
            · refine g_iload_n C 44 4 rfl rfl ?_
              refine g_goto C 45 92 rfl rfl ?_
              refine g_iast C 47 rfl (hZ.at (i := 3) rfl) h (fun s4 h => ?_)
              refine g_iinc C 48 7 (l6 + 1) [(6, .int (l6 + 1)), (9, .int v2), (8, .int v1), (0, .ref (ad 1)), (2, .int l2), (3, .int l3), (4, .int l4), (5, .ref (ad l5)), (7, .int l7)] rfl rfl (by decide) rfl rfl ?_
              refine g_goto C 49 208 rfl rfl ?_
              refine g_sub C [3, 4, 5, 6, 7, 0, 8] [(0, .ref (ad 1)), (2, .int l2), (3, .int l3), (4, .int l4), (5, .ref (ad l5)), (6, .int (l6 + 1)), (7, .int l7)] rfl ?_
              exact C_F_X2_work_J208 C hZ _ _ _ ih _ hl5 _ _ _ h
          · refine g_iload_n C 39 3 rfl rfl ?_
            refine g_goto C 40 92 rfl rfl ?_
            refine g_iast C 47 rfl (hZ.at (i := 3) rfl) h (fun s5 h => ?_)
            refine g_iinc C 48 7 (l6 + 1) [(6, .int (l6 + 1)), (9, .int v2), (8, .int v1), (0, .ref (ad 1)), (2, .int l2), (3, .int l3), (4, .int l4), (5, .ref (ad l5)), (7, .int l7)] rfl rfl (by decide) rfl rfl ?_
            refine g_goto C 49 208 rfl rfl ?_
            refine g_sub C [3, 4, 5, 6, 7, 0, 8] [(0, .ref (ad 1)), (2, .int l2), (3, .int l3), (4, .int l4), (5, .ref (ad l5)), (6, .int (l6 + 1)), (7, .int l7)] rfl ?_
            exact C_F_X2_work_J208 C hZ _ _ _ ih _ hl5 _ _ _ h
set_option maxRecDepth 20000 in
set_option maxHeartbeats 4000000 in
theorem M_X2_work {Z : List gH} (hZ : Lay Z) (l1 : Int32) (l2 : Int32) (l3 : Int32) (l4 : Int32) : gMet yX2_work cX2_work 10 (some .int) 3 Z (fun ad => [.ref (ad 1), .int l1, .int l2, .int l3, .int l4]) (F_X2_work Z l1 l2 l3 l4) := by
  refine gMet_intro T_X2_work T_X2_work_ok rfl (fun _ => Nat.le_of_ble_eq_true rfl) (fun g ad σ z C h => ?_)
  show g 0 [(0, .ref (ad 1)), (1, .int l1), (2, .int l2), (3, .int l3), (4, .int l4)] [] σ
  rw [F_X2_work] at h
  refine g_aload_n C 0 0 rfl rfl ?_
  refine g_iload_n C 1 1 rfl rfl ?_
  refine g_callVi C 2 [.int l1] [] rfl (M_X2_has hZ l1) cnX2_25 cwX2_has ciX2_has (hZ.at (i := 1) rfl) rfl rfl rfl rfl (Nat.le_of_ble_eq_true rfl) ⟨Nat.le_of_ble_eq_true rfl, Nat.le_of_ble_eq_true rfl⟩ h (fun r1 s2 h => ?_)
  refine g_if_ne C 3 10 rfl rfl h (fun h => ?_) (fun h => ?_)
  · refine g_aload_n C 6 0 rfl rfl ?_
    refine g_getr (b := 2) C 7 rfl flX2_11 (hZ.at (i := 1) rfl) rfl ?_
    refine g_iload_n C 8 1 rfl rfl ?_
    refine g_aald C 9 rfl (Or.inr (Or.inr rfl)) hZ.2.1 h (fun hin h => ?_)
    refine g_getq h (fun c3 hqc3 h => ?_)
    have hc3 : TxB Z c3 := hZ.2.2 _ _ hqc3
    refine g_getr (b := (c3 + 1)) C 10 rfl flX2_37 (tx_obj hc3) rfl ?_
    refine g_astore C 11 [(5, .ref (ad (c3 + 1))), (0, .ref (ad 1)), (1, .int l1), (2, .int l2), (3, .int l3), (4, .int l4)] rfl (by decide) rfl ?_
    refine g_iconst (v := 0) C 12 rfl rfl ?_
    refine g_istore C 13 [(6, .int 0), (5, .ref (ad (c3 + 1))), (0, .ref (ad 1)), (1, .int l1), (2, .int l2), (3, .int l3), (4, .int l4)] rfl (by decide) rfl ?_
    refine g_iconst (v := 0) C 14 rfl rfl ?_
    refine g_istore C 15 [(7, .int 0), (6, .int 0), (5, .ref (ad (c3 + 1))), (0, .ref (ad 1)), (1, .int l1), (2, .int l2), (3, .int l3), (4, .int l4)] rfl (by decide) rfl ?_
    refine g_sub C [3, 5, 6, 7, 2, 1, 0] [(0, .ref (ad 1)), (2, .int l2), (3, .int l3), (4, .int l4), (5, .ref (ad (c3 + 1))), (6, .int 0), (7, .int 0)] rfl ?_
    exact C_F_X2_work_L27 C hZ _ _ _ _ _ (tx_steps hc3) _ _ _ h
  · refine g_iconst (v := 0) C 4 rfl rfl ?_
    exact g_ireturn C 5 rfl h
def T_X9_held : List (Nat × Instr × Nat) := [(0, .iconst 0, 1), (1, .iload_n 1, 1), (2, .iload_n 0, 1), (3, .invokestatic 143, 3), (6, .invokestatic 336, 3), (9, .ireturn, 1)]
theorem T_X9_held_ok : gTb cX9_held T_X9_held = true := by decide +kernel
def F_X9_held (Z : List gH) (l0 : Int32) (l1 : Int32) (σ : gS) : Option (Int32 × gS) := some ((mMax 0 (mMin l1 l0)), σ)
set_option maxRecDepth 20000 in
set_option maxHeartbeats 4000000 in
theorem M_X9_held {Z : List gH} (hZ : Lay Z) (l0 : Int32) (l1 : Int32) : gMet yX9_held cX9_held 2 (some .int) 2 Z (fun ad => [.int l0, .int l1]) (F_X9_held Z l0 l1) := by
  refine gMet_intro T_X9_held T_X9_held_ok rfl (fun _ => Nat.le_of_ble_eq_true rfl) (fun g ad σ z C h => ?_)
  show g 0 [(0, .int l0), (1, .int l1)] [] σ
  rw [F_X9_held] at h
  refine g_iconst (v := 0) C 0 rfl rfl ?_
  refine g_iload_n C 1 1 rfl rfl ?_
  refine g_iload_n C 2 0 rfl rfl ?_
  refine g_mmin C 3 rfl cnX9_143 wm_min ⟨Nat.le_of_ble_eq_true rfl, Nat.le_of_ble_eq_true rfl⟩ ?_
  refine g_mmax C 4 rfl cnX9_336 wm_max ⟨Nat.le_of_ble_eq_true rfl, Nat.le_of_ble_eq_true rfl⟩ ?_
  exact g_ireturn C 5 rfl h
def T_X1_catchesFrom : List (Nat × Instr × Nat) := [(0, .iload_n 0, 1), (1, .tableswitch 50 1 5 #[35, 41, 38, 44, 47], 35), (36, .bipush 12, 2), (38, .ireturn, 1), (39, .bipush 6, 2), (41, .ireturn, 1), (42, .bipush 35, 2), (44, .ireturn, 1), (45, .bipush 70, 2), (47, .ireturn, 1), (48, .bipush 100, 2), (50, .ireturn, 1), (51, .bipush 20, 2), (53, .ireturn, 1)]
theorem T_X1_catchesFrom_ok : gTb cX1_catchesFrom T_X1_catchesFrom = true := by decide +kernel
def F_X1_catchesFrom (Z : List gH) (l0 : Int32) (σ : gS) : Option (Int32 × gS) := if l0 = 1 then some (12, σ) else if l0 = 2 then some (35, σ) else if l0 = 3 then some (6, σ) else if l0 = 4 then some (70, σ) else if l0 = 5 then some (100, σ) else some (20, σ)
set_option maxRecDepth 20000 in
set_option maxHeartbeats 4000000 in
theorem M_X1_catchesFrom {Z : List gH} (hZ : Lay Z) (l0 : Int32) : gMet yX1_catchesFrom cX1_catchesFrom 1 (some .int) 1 Z (fun ad => [.int l0]) (F_X1_catchesFrom Z l0) := by
  refine gMet_intro T_X1_catchesFrom T_X1_catchesFrom_ok rfl (fun _ => Nat.le_of_ble_eq_true rfl) (fun g ad σ z C h => ?_)
  show g 0 [(0, .int l0)] [] σ
  rw [F_X1_catchesFrom] at h
  refine g_iload_n C 0 0 rfl rfl ?_
  by_cases hx0_0 : l0 = 1
  · rw [if_pos hx0_0] at h
    refine g_tblAt C 1 1 hx0_0 36 rfl (by decide) (by decide) rfl rfl ?_
    refine g_bipush (v := 12) C 2 rfl rfl ?_
    exact g_ireturn C 3 rfl h
  · rw [if_neg hx0_0] at h
    by_cases hx0_1 : l0 = 2
    · rw [if_pos hx0_1] at h
      refine g_tblAt C 1 2 hx0_1 42 rfl (by decide) (by decide) rfl rfl ?_
      refine g_bipush (v := 35) C 6 rfl rfl ?_
      exact g_ireturn C 7 rfl h
    · rw [if_neg hx0_1] at h
      by_cases hx0_2 : l0 = 3
      · rw [if_pos hx0_2] at h
        refine g_tblAt C 1 3 hx0_2 39 rfl (by decide) (by decide) rfl rfl ?_
        refine g_bipush (v := 6) C 4 rfl rfl ?_
        exact g_ireturn C 5 rfl h
      · rw [if_neg hx0_2] at h
        by_cases hx0_3 : l0 = 4
        · rw [if_pos hx0_3] at h
          refine g_tblAt C 1 4 hx0_3 45 rfl (by decide) (by decide) rfl rfl ?_
          refine g_bipush (v := 70) C 8 rfl rfl ?_
          exact g_ireturn C 9 rfl h
        · rw [if_neg hx0_3] at h
          by_cases hx0_4 : l0 = 5
          · rw [if_pos hx0_4] at h
            refine g_tblAt C 1 5 hx0_4 48 rfl (by decide) (by decide) rfl rfl ?_
            refine g_bipush (v := 100) C 10 rfl rfl ?_
            exact g_ireturn C 11 rfl h
          · rw [if_neg hx0_4] at h
            refine g_tblOut C 1 51 rfl (by have e0 := i32ne hx0_0 1 rfl; have e1 := i32ne hx0_1 2 rfl; have e2 := i32ne hx0_2 3 rfl; have e3 := i32ne hx0_3 4 rfl; have e4 := i32ne hx0_4 5 rfl; omega) rfl ?_
            refine g_bipush (v := 20) C 12 rfl rfl ?_
            exact g_ireturn C 13 rfl h
def T_X1_gives : List (Nat × Instr × Nat) := [(0, .iload_n 0, 1), (1, .tableswitch 39 1 4 #[31, 35, 31, 35], 31), (32, .iload_n 1, 1), (33, .iconst 3, 1), (34, .iadd, 1), (35, .ireturn, 1), (36, .iload_n 1, 1), (37, .iconst 2, 1), (38, .idiv, 1), (39, .ireturn, 1), (40, .iload_n 1, 1), (41, .ireturn, 1)]
theorem T_X1_gives_ok : gTb cX1_gives T_X1_gives = true := by decide +kernel
def F_X1_gives (Z : List gH) (l0 : Int32) (l1 : Int32) (σ : gS) : Option (Int32 × gS) := if l0 = 1 then some ((l1 + 3), σ) else if l0 = 2 then some ((l1 / 2), σ) else if l0 = 3 then some ((l1 + 3), σ) else if l0 = 4 then some ((l1 / 2), σ) else some (l1, σ)
set_option maxRecDepth 20000 in
set_option maxHeartbeats 4000000 in
theorem M_X1_gives {Z : List gH} (hZ : Lay Z) (l0 : Int32) (l1 : Int32) : gMet yX1_gives cX1_gives 2 (some .int) 1 Z (fun ad => [.int l0, .int l1]) (F_X1_gives Z l0 l1) := by
  refine gMet_intro T_X1_gives T_X1_gives_ok rfl (fun _ => Nat.le_of_ble_eq_true rfl) (fun g ad σ z C h => ?_)
  show g 0 [(0, .int l0), (1, .int l1)] [] σ
  rw [F_X1_gives] at h
  refine g_iload_n C 0 0 rfl rfl ?_
  by_cases hx0_0 : l0 = 1
  · rw [if_pos hx0_0] at h
    refine g_tblAt C 1 1 hx0_0 32 rfl (by decide) (by decide) rfl rfl ?_
    refine g_iload_n C 2 1 rfl rfl ?_
    refine g_iconst (v := 3) C 3 rfl rfl ?_
    refine g_iadd C 4 rfl ?_
    exact g_ireturn C 5 rfl h
  · rw [if_neg hx0_0] at h
    by_cases hx0_1 : l0 = 2
    · rw [if_pos hx0_1] at h
      refine g_tblAt C 1 2 hx0_1 36 rfl (by decide) (by decide) rfl rfl ?_
      refine g_iload_n C 6 1 rfl rfl ?_
      refine g_iconst (v := 2) C 7 rfl rfl ?_
      refine g_idivK C 8 rfl (by decide) ?_
      exact g_ireturn C 9 rfl h
    · rw [if_neg hx0_1] at h
      by_cases hx0_2 : l0 = 3
      · rw [if_pos hx0_2] at h
        refine g_tblAt C 1 3 hx0_2 32 rfl (by decide) (by decide) rfl rfl ?_
        refine g_iload_n C 2 1 rfl rfl ?_
        refine g_iconst (v := 3) C 3 rfl rfl ?_
        refine g_iadd C 4 rfl ?_
        exact g_ireturn C 5 rfl h
      · rw [if_neg hx0_2] at h
        by_cases hx0_3 : l0 = 4
        · rw [if_pos hx0_3] at h
          refine g_tblAt C 1 4 hx0_3 36 rfl (by decide) (by decide) rfl rfl ?_
          refine g_iload_n C 6 1 rfl rfl ?_
          refine g_iconst (v := 2) C 7 rfl rfl ?_
          refine g_idivK C 8 rfl (by decide) ?_
          exact g_ireturn C 9 rfl h
        · rw [if_neg hx0_3] at h
          refine g_tblOut C 1 40 rfl (by have e0 := i32ne hx0_0 1 rfl; have e1 := i32ne hx0_1 2 rfl; have e2 := i32ne hx0_2 3 rfl; have e3 := i32ne hx0_3 4 rfl; omega) rfl ?_
          refine g_iload_n C 10 1 rfl rfl ?_
          exact g_ireturn C 11 rfl h
def T_X1_worth : List (Nat × Instr × Nat) := [(0, .iload_n 0, 1), (1, .tableswitch 60 1 5 #[35, 45, 39, 50, 58], 35), (36, .iload_n 1, 1), (37, .iconst 4, 1), (38, .iadd, 1), (39, .ireturn, 1), (40, .iconst 2, 1), (41, .iload_n 1, 1), (42, .iconst 4, 1), (43, .iadd, 1), (44, .imul, 1), (45, .ireturn, 1), (46, .bipush 120, 2), (48, .iload_n 1, 1), (49, .isub, 1), (50, .ireturn, 1), (51, .bipush 120, 2), (53, .iload_n 1, 1), (54, .isub, 1), (55, .bipush 6, 2), (57, .isub, 1), (58, .ireturn, 1), (59, .iconst 3, 1), (60, .ireturn, 1), (61, .iload_n 1, 1), (62, .ireturn, 1)]
theorem T_X1_worth_ok : gTb cX1_worth T_X1_worth = true := by decide +kernel
def F_X1_worth (Z : List gH) (l0 : Int32) (l1 : Int32) (σ : gS) : Option (Int32 × gS) := if l0 = 1 then some ((l1 + 4), σ) else if l0 = 2 then some ((120 - l1), σ) else if l0 = 3 then some ((2 * (l1 + 4)), σ) else if l0 = 4 then some (((120 - l1) - 6), σ) else if l0 = 5 then some (3, σ) else some (l1, σ)
set_option maxRecDepth 20000 in
set_option maxHeartbeats 4000000 in
theorem M_X1_worth {Z : List gH} (hZ : Lay Z) (l0 : Int32) (l1 : Int32) : gMet yX1_worth cX1_worth 2 (some .int) 1 Z (fun ad => [.int l0, .int l1]) (F_X1_worth Z l0 l1) := by
  refine gMet_intro T_X1_worth T_X1_worth_ok rfl (fun _ => Nat.le_of_ble_eq_true rfl) (fun g ad σ z C h => ?_)
  show g 0 [(0, .int l0), (1, .int l1)] [] σ
  rw [F_X1_worth] at h
  refine g_iload_n C 0 0 rfl rfl ?_
  by_cases hx0_0 : l0 = 1
  · rw [if_pos hx0_0] at h
    refine g_tblAt C 1 1 hx0_0 36 rfl (by decide) (by decide) rfl rfl ?_
    refine g_iload_n C 2 1 rfl rfl ?_
    refine g_iconst (v := 4) C 3 rfl rfl ?_
    refine g_iadd C 4 rfl ?_
    exact g_ireturn C 5 rfl h
  · rw [if_neg hx0_0] at h
    by_cases hx0_1 : l0 = 2
    · rw [if_pos hx0_1] at h
      refine g_tblAt C 1 2 hx0_1 46 rfl (by decide) (by decide) rfl rfl ?_
      refine g_bipush (v := 120) C 12 rfl rfl ?_
      refine g_iload_n C 13 1 rfl rfl ?_
      refine g_isub C 14 rfl ?_
      exact g_ireturn C 15 rfl h
    · rw [if_neg hx0_1] at h
      by_cases hx0_2 : l0 = 3
      · rw [if_pos hx0_2] at h
        refine g_tblAt C 1 3 hx0_2 40 rfl (by decide) (by decide) rfl rfl ?_
        refine g_iconst (v := 2) C 6 rfl rfl ?_
        refine g_iload_n C 7 1 rfl rfl ?_
        refine g_iconst (v := 4) C 8 rfl rfl ?_
        refine g_iadd C 9 rfl ?_
        refine g_imul C 10 rfl ?_
        exact g_ireturn C 11 rfl h
      · rw [if_neg hx0_2] at h
        by_cases hx0_3 : l0 = 4
        · rw [if_pos hx0_3] at h
          refine g_tblAt C 1 4 hx0_3 51 rfl (by decide) (by decide) rfl rfl ?_
          refine g_bipush (v := 120) C 16 rfl rfl ?_
          refine g_iload_n C 17 1 rfl rfl ?_
          refine g_isub C 18 rfl ?_
          refine g_bipush (v := 6) C 19 rfl rfl ?_
          refine g_isub C 20 rfl ?_
          exact g_ireturn C 21 rfl h
        · rw [if_neg hx0_3] at h
          by_cases hx0_4 : l0 = 5
          · rw [if_pos hx0_4] at h
            refine g_tblAt C 1 5 hx0_4 59 rfl (by decide) (by decide) rfl rfl ?_
            refine g_iconst (v := 3) C 22 rfl rfl ?_
            exact g_ireturn C 23 rfl h
          · rw [if_neg hx0_4] at h
            refine g_tblOut C 1 61 rfl (by have e0 := i32ne hx0_0 1 rfl; have e1 := i32ne hx0_1 2 rfl; have e2 := i32ne hx0_2 3 rfl; have e3 := i32ne hx0_3 4 rfl; have e4 := i32ne hx0_4 5 rfl; omega) rfl ?_
            refine g_iload_n C 24 1 rfl rfl ?_
            exact g_ireturn C 25 rfl h
def T_X1_isOf : List (Nat × Instr × Nat) := [(0, .iload_n 0, 1), (1, .iload_n 1, 1), (2, .if_icmp .eq 16, 3), (5, .iload_n 1, 1), (6, .ifCond .eq 12, 3), (9, .getstatic 9, 3), (12, .iload_n 0, 1), (13, .iaload, 1), (14, .iload_n 1, 1), (15, .if_icmp .ne 7, 3), (18, .iconst 1, 1), (19, .goto 4, 3), (22, .iconst 0, 1), (23, .ireturn, 1)]
theorem T_X1_isOf_ok : gTb cX1_isOf T_X1_isOf = true := by decide +kernel
def F_X1_isOf (Z : List gH) (l0 : Int32) (l1 : Int32) (σ : gS) : Option (Int32 × gS) := if l0 = l1 then mZ 1 σ else if l1 = 0 then mZ 1 σ else mIn 6 l0 (if (kab (nn l0)) = l1 then mZ 1 σ else mZ 0 σ)
set_option maxRecDepth 20000 in
set_option maxHeartbeats 4000000 in
theorem M_X1_isOf {Z : List gH} (hZ : Lay Z) (l0 : Int32) (l1 : Int32) : gMet yX1_isOf cX1_isOf 2 (some .boolean) 1 Z (fun ad => [.int l0, .int l1]) (F_X1_isOf Z l0 l1) := by
  refine gMet_intro T_X1_isOf T_X1_isOf_ok rfl (fun _ => Nat.le_of_ble_eq_true rfl) (fun g ad σ z C h => ?_)
  show g 0 [(0, .int l0), (1, .int l1)] [] σ
  rw [F_X1_isOf] at h
  refine g_iload_n C 0 0 rfl rfl ?_
  refine g_iload_n C 1 1 rfl rfl ?_
  refine g_icmp_eq C 2 18 rfl rfl h (fun h => ?_) (fun h => ?_)
  · refine g_iconst (v := 1) C 10 rfl rfl ?_
    refine g_goto C 11 23 rfl rfl ?_
    exact g_zreturn C 13 rfl h
  · refine g_iload_n C 3 1 rfl rfl ?_
    refine g_if_eq C 4 18 rfl rfl h (fun h => ?_) (fun h => ?_)
    · refine g_iconst (v := 1) C 10 rfl rfl ?_
      refine g_goto C 11 23 rfl rfl ?_
      exact g_zreturn C 13 rfl h
    · refine g_kab C 5 rfl kx_kab ?_
      refine g_iload_n C 6 0 rfl rfl ?_
      refine g_kald C 7 rfl h (fun h => ?_)
      refine g_iload_n C 8 1 rfl rfl ?_
      refine g_icmp_ne C 9 22 rfl rfl h (fun h => ?_) (fun h => ?_)
      · refine g_iconst (v := 0) C 12 rfl rfl ?_
        exact g_zreturn C 13 rfl h
      · refine g_iconst (v := 1) C 10 rfl rfl ?_
        refine g_goto C 11 23 rfl rfl ?_
        exact g_zreturn C 13 rfl h
def T_JI_bitCount : List (Nat × Instr × Nat) := [(0, .iload_n 0, 1), (1, .iload_n 0, 1), (2, .iconst 1, 1), (3, .iushr, 1), (4, .ldc_w 265, 3), (7, .iand, 1), (8, .isub, 1), (9, .istore_n 0, 1), (10, .iload_n 0, 1), (11, .ldc_w 266, 3), (14, .iand, 1), (15, .iload_n 0, 1), (16, .iconst 2, 1), (17, .iushr, 1), (18, .ldc_w 266, 3), (21, .iand, 1), (22, .iadd, 1), (23, .istore_n 0, 1), (24, .iload_n 0, 1), (25, .iload_n 0, 1), (26, .iconst 4, 1), (27, .iushr, 1), (28, .iadd, 1), (29, .ldc_w 267, 3), (32, .iand, 1), (33, .istore_n 0, 1), (34, .iload_n 0, 1), (35, .iload_n 0, 1), (36, .bipush 8, 2), (38, .iushr, 1), (39, .iadd, 1), (40, .istore_n 0, 1), (41, .iload_n 0, 1), (42, .iload_n 0, 1), (43, .bipush 16, 2), (45, .iushr, 1), (46, .iadd, 1), (47, .istore_n 0, 1), (48, .iload_n 0, 1), (49, .bipush 63, 2), (51, .iand, 1), (52, .ireturn, 1)]
theorem T_JI_bitCount_ok : gTb cJI_bitCount T_JI_bitCount = true := by decide +kernel
def F_JI_bitCount (Z : List gH) (l0 : Int32) (σ : gS) : Option (Int32 × gS) := mLet ((l0 - ((mUsr l0 1) &&& 1431655765))) (fun v1 => mLet (((v1 &&& 858993459) + ((mUsr v1 2) &&& 858993459))) (fun v2 => mLet (((v2 + (mUsr v2 4)) &&& 252645135)) (fun v3 => mLet ((v3 + (mUsr v3 8))) (fun v4 => mLet ((v4 + (mUsr v4 16))) (fun v5 => some ((v5 &&& 63), σ))))))
set_option maxRecDepth 20000 in
set_option maxHeartbeats 4000000 in
theorem M_JI_bitCount {Z : List gH} (hZ : Lay Z) (l0 : Int32) : gMet yJI_bitCount cJI_bitCount 1 (some .int) 1 Z (fun ad => [.int l0]) (F_JI_bitCount Z l0) := by
  refine gMet_intro T_JI_bitCount T_JI_bitCount_ok rfl (fun _ => Nat.le_of_ble_eq_true rfl) (fun g ad σ z C h => ?_)
  show g 0 [(0, .int l0)] [] σ
  rw [F_JI_bitCount] at h
  refine g_iload_n C 0 0 rfl rfl ?_
  refine g_iload_n C 1 0 rfl rfl ?_
  refine g_iconst (v := 1) C 2 rfl rfl ?_
  refine g_iushr C 3 rfl ?_
  refine g_ldcw C 4 rfl kcJI_265 ?_
  refine g_iand C 5 rfl ?_
  refine g_isub C 6 rfl ?_
  refine g_let h (fun v1 h => ?_)
  refine g_istore_n C 7 [(0, .int v1)] rfl (by decide) rfl ?_
  refine g_iload_n C 8 0 rfl rfl ?_
  refine g_ldcw C 9 rfl kcJI_266 ?_
  refine g_iand C 10 rfl ?_
  refine g_iload_n C 11 0 rfl rfl ?_
  refine g_iconst (v := 2) C 12 rfl rfl ?_
  refine g_iushr C 13 rfl ?_
  refine g_ldcw C 14 rfl kcJI_266 ?_
  refine g_iand C 15 rfl ?_
  refine g_iadd C 16 rfl ?_
  refine g_let h (fun v2 h => ?_)
  refine g_istore_n C 17 [(0, .int v2)] rfl (by decide) rfl ?_
  refine g_iload_n C 18 0 rfl rfl ?_
  refine g_iload_n C 19 0 rfl rfl ?_
  refine g_iconst (v := 4) C 20 rfl rfl ?_
  refine g_iushr C 21 rfl ?_
  refine g_iadd C 22 rfl ?_
  refine g_ldcw C 23 rfl kcJI_267 ?_
  refine g_iand C 24 rfl ?_
  refine g_let h (fun v3 h => ?_)
  refine g_istore_n C 25 [(0, .int v3)] rfl (by decide) rfl ?_
  refine g_iload_n C 26 0 rfl rfl ?_
  refine g_iload_n C 27 0 rfl rfl ?_
  refine g_bipush (v := 8) C 28 rfl rfl ?_
  refine g_iushr C 29 rfl ?_
  refine g_iadd C 30 rfl ?_
  refine g_let h (fun v4 h => ?_)
  refine g_istore_n C 31 [(0, .int v4)] rfl (by decide) rfl ?_
  refine g_iload_n C 32 0 rfl rfl ?_
  refine g_iload_n C 33 0 rfl rfl ?_
  refine g_bipush (v := 16) C 34 rfl rfl ?_
  refine g_iushr C 35 rfl ?_
  refine g_iadd C 36 rfl ?_
  refine g_let h (fun v5 h => ?_)
  refine g_istore_n C 37 [(0, .int v5)] rfl (by decide) rfl ?_
  refine g_iload_n C 38 0 rfl rfl ?_
  refine g_bipush (v := 63) C 39 rfl rfl ?_
  refine g_iand C 40 rfl ?_
  exact g_ireturn C 41 rfl h
def T_X5_hasPlace : List (Nat × Instr × Nat) := [(0, .iload_n 1, 1), (1, .iconst 0, 1), (2, .aload_n 0, 1), (3, .getfield 19, 3), (6, .iconst 1, 1), (7, .isub, 1), (8, .invokestatic 34, 3), (11, .ireturn, 1)]
theorem T_X5_hasPlace_ok : gTb cX5_hasPlace T_X5_hasPlace = true := by decide +kernel
def F_X5_hasPlace (Z : List gH) (l0 : Nat) (l1 : Int32) (σ : gS) : Option (Int32 × gS) := mCall (F_X9_within Z l1 0 ((σ l0 2) - 1) σ) (fun r1 s2 => mZ r1 s2)
set_option maxRecDepth 20000 in
set_option maxHeartbeats 4000000 in
theorem M_X5_hasPlace {Z : List gH} (hZ : Lay Z) (l0 : Nat) (hl0 : SB l0) (l1 : Int32) : gMet yX5_hasPlace cX5_hasPlace 2 (some .boolean) 2 Z (fun ad => [.ref (ad l0), .int l1]) (F_X5_hasPlace Z l0 l1) := by
  refine gMet_intro T_X5_hasPlace T_X5_hasPlace_ok rfl (fun _ => Nat.le_of_ble_eq_true rfl) (fun g ad σ z C h => ?_)
  show g 0 [(0, .ref (ad l0)), (1, .int l1)] [] σ
  rw [F_X5_hasPlace] at h
  refine g_iload_n C 0 1 rfl rfl ?_
  refine g_iconst (v := 0) C 1 rfl rfl ?_
  refine g_aload_n C 2 0 rfl rfl ?_
  refine g_geti C 3 rfl flX5_19 (sb_obj hZ hl0) rfl ?_
  refine g_iconst (v := 1) C 4 rfl rfl ?_
  refine g_isub C 5 rfl ?_
  refine g_callSi C 6 [.int l1, .int 0, .int ((σ l0 2) - 1)] [] rfl (M_X9_within hZ l1 0 ((σ l0 2) - 1)) cnX5_34 cwX9_within csX9_within rfl rfl rfl (Nat.le_of_ble_eq_true rfl) ⟨Nat.le_of_ble_eq_true rfl, Nat.le_of_ble_eq_true rfl⟩ h (fun r1 s2 h => ?_)
  exact g_zreturn C 7 rfl h
def T_X5_hasNumber : List (Nat × Instr × Nat) := [(0, .aload_n 0, 1), (1, .iload_n 1, 1), (2, .invokevirtual 38, 3), (5, .ifCond .eq 18, 3), (8, .aload_n 0, 1), (9, .getfield 9, 3), (12, .iload_n 1, 1), (13, .iaload, 1), (14, .ldc 42, 2), (16, .if_icmp .eq 7, 3), (19, .iconst 1, 1), (20, .goto 4, 3), (23, .iconst 0, 1), (24, .ireturn, 1)]
theorem T_X5_hasNumber_ok : gTb cX5_hasNumber T_X5_hasNumber = true := by decide +kernel
def F_X5_hasNumber (Z : List gH) (l0 : Nat) (l1 : Int32) (σ : gS) : Option (Int32 × gS) := mCall (F_X5_hasPlace Z l0 l1 σ) (fun r1 s2 => if r1 = 0 then mZ 0 s2 else mIn 24 l1 (if (s2 (l0 + 1) (nn l1)) = (-1000000005) then mZ 0 s2 else mZ 1 s2))
set_option maxRecDepth 20000 in
set_option maxHeartbeats 4000000 in
theorem M_X5_hasNumber {Z : List gH} (hZ : Lay Z) (l0 : Nat) (hl0 : SB l0) (l1 : Int32) : gMet yX5_hasNumber cX5_hasNumber 2 (some .boolean) 3 Z (fun ad => [.ref (ad l0), .int l1]) (F_X5_hasNumber Z l0 l1) := by
  refine gMet_intro T_X5_hasNumber T_X5_hasNumber_ok rfl (fun _ => Nat.le_of_ble_eq_true rfl) (fun g ad σ z C h => ?_)
  show g 0 [(0, .ref (ad l0)), (1, .int l1)] [] σ
  rw [F_X5_hasNumber] at h
  refine g_aload_n C 0 0 rfl rfl ?_
  refine g_iload_n C 1 1 rfl rfl ?_
  refine g_callVi C 2 [.int l1] [] rfl (M_X5_hasPlace hZ l0 hl0 l1) cnX5_38 cwX5_hasPlace ciX5_hasPlace (sb_obj hZ hl0) rfl rfl rfl rfl (Nat.le_of_ble_eq_true rfl) ⟨Nat.le_of_ble_eq_true rfl, Nat.le_of_ble_eq_true rfl⟩ h (fun r1 s2 h => ?_)
  refine g_if_eq C 3 23 rfl rfl h (fun h => ?_) (fun h => ?_)
  · refine g_iconst (v := 0) C 12 rfl rfl ?_
    exact g_zreturn C 13 rfl h
  · refine g_aload_n C 4 0 rfl rfl ?_
    refine g_getr (b := (l0 + 1)) C 5 rfl flX5_9 (sb_obj hZ hl0) rfl ?_
    refine g_iload_n C 6 1 rfl rfl ?_
    refine g_iald C 7 rfl (sb_places hZ hl0) h (fun h => ?_)
    refine g_ldc C 8 rfl kcX5_42 ?_
    refine g_icmp_eq C 9 23 rfl rfl h (fun h => ?_) (fun h => ?_)
    · refine g_iconst (v := 0) C 12 rfl rfl ?_
      exact g_zreturn C 13 rfl h
    · refine g_iconst (v := 1) C 10 rfl rfl ?_
      refine g_goto C 11 24 rfl rfl ?_
      exact g_zreturn C 13 rfl h
def T_X5_isMissing : List (Nat × Instr × Nat) := [(0, .aload_n 0, 1), (1, .getfield 15, 3), (4, .iconst (-1), 1), (5, .if_icmp .ne 7, 3), (8, .iconst 1, 1), (9, .goto 4, 3), (12, .iconst 0, 1), (13, .ireturn, 1)]
theorem T_X5_isMissing_ok : gTb cX5_isMissing T_X5_isMissing = true := by decide +kernel
def F_X5_isMissing (Z : List gH) (l0 : Nat) (σ : gS) : Option (Int32 × gS) := if (σ l0 1) = (-1) then mZ 1 σ else mZ 0 σ
set_option maxRecDepth 20000 in
set_option maxHeartbeats 4000000 in
theorem M_X5_isMissing {Z : List gH} (hZ : Lay Z) (l0 : Nat) (hl0 : SB l0) : gMet yX5_isMissing cX5_isMissing 1 (some .boolean) 1 Z (fun ad => [.ref (ad l0)]) (F_X5_isMissing Z l0) := by
  refine gMet_intro T_X5_isMissing T_X5_isMissing_ok rfl (fun _ => Nat.le_of_ble_eq_true rfl) (fun g ad σ z C h => ?_)
  show g 0 [(0, .ref (ad l0))] [] σ
  rw [F_X5_isMissing] at h
  refine g_aload_n C 0 0 rfl rfl ?_
  refine g_geti C 1 rfl flX5_15 (sb_obj hZ hl0) rfl ?_
  refine g_iconst (v := (-1)) C 2 rfl rfl ?_
  refine g_icmp_ne C 3 12 rfl rfl h (fun h => ?_) (fun h => ?_)
  · refine g_iconst (v := 0) C 6 rfl rfl ?_
    exact g_zreturn C 7 rfl h
  · refine g_iconst (v := 1) C 4 rfl rfl ?_
    refine g_goto C 5 13 rfl rfl ?_
    exact g_zreturn C 7 rfl h
def T_X7_addFour : List (Nat × Instr × Nat) := [(0, .bipush 24, 2), (2, .istore_n 2, 1), (3, .iload_n 2, 1), (4, .ifCond .lt 44, 3), (7, .aload_n 0, 1), (8, .getfield 15, 3), (11, .bipush 96, 2), (13, .if_icmp .ge 29, 3), (16, .aload_n 0, 1), (17, .getfield 9, 3), (20, .aload_n 0, 1), (21, .getfield 15, 3), (24, .iload_n 1, 1), (25, .iload_n 2, 1), (26, .iushr, 1), (27, .sipush 255, 3), (30, .iand, 1), (31, .iastore, 1), (32, .aload_n 0, 1), (33, .dup, 1), (34, .getfield 15, 3), (37, .iconst 1, 1), (38, .iadd, 1), (39, .putfield 15, 3), (42, .iinc 2 (-8), 3), (45, .goto (-42), 3), (48, .return_, 1)]
theorem T_X7_addFour_ok : gTb cX7_addFour T_X7_addFour = true := by decide +kernel
def F_X7_addFour_L3 (Z : List gH) (l1 : Int32) : Nat → Int32 → gS → Option (Int32 × gS)
  | 0, _, _ => none
  | n + 1, l2, σ => if l2 < 0 then some (0, σ) else if 96 ≤ (σ 34 1) then F_X7_addFour_L3 Z l1 n (l2 + (-8)) σ else mIn 96 (σ 34 1) (mLet (gu σ 35 (nn (σ 34 1)) ((mUsr l1 l2) &&& 255)) (fun s1 => mLet (gu s1 34 1 ((s1 34 1) + 1)) (fun s2 => F_X7_addFour_L3 Z l1 n (l2 + (-8)) s2)))
def F_X7_addFour (Z : List gH) (l1 : Int32) (σ : gS) : Option (Int32 × gS) := F_X7_addFour_L3 Z l1 mFuel 24 σ
set_option maxRecDepth 20000 in
set_option maxHeartbeats 4000000 in
theorem C_F_X7_addFour_L3 {g : Nat → List (Nat × Value) → List Value → gS → Prop} {Z : List gH} {ad : Nat → Nat} {z : Int32 × gS}  (C : gOk g T_X7_addFour RX7 3 none 1 Z ad z) (hZ : Lay Z) (l1 : Int32) : ∀ (n : Nat) (l2 : Int32) (σ : gS), F_X7_addFour_L3 Z l1 n l2 σ = some z → g 3 [(0, .ref (ad 34)), (1, .int l1), (2, .int l2)] [] σ := by
  intro n
  induction n with
  | zero => intro l2 σ h; cases h
  | succ n ih =>
    intro l2 σ h
    rw [F_X7_addFour_L3] at h
    refine g_iload_n C 2 2 rfl rfl ?_
    refine g_if_lt C 3 48 rfl rfl h (fun h => ?_) (fun h => ?_)
    · exact g_return C 26 rfl h
    · refine g_aload_n C 4 0 rfl rfl ?_
      refine g_geti C 5 rfl flX7_15 (hZ.at (i := 34) rfl) rfl ?_
      refine g_bipush (v := 96) C 6 rfl rfl ?_
      refine g_icmp_ge C 7 42 rfl rfl h (fun h => ?_) (fun h => ?_)
      · refine g_iinc C 24 2 (l2 + (-8)) [(2, .int (l2 + (-8))), (0, .ref (ad 34)), (1, .int l1)] rfl rfl (by decide) rfl rfl ?_
        refine g_goto C 25 3 rfl rfl ?_
        refine g_sub C [1, 2, 0] [(0, .ref (ad 34)), (1, .int l1), (2, .int (l2 + (-8)))] rfl ?_
        exact ih _ _ h
      · refine g_aload_n C 8 0 rfl rfl ?_
        refine g_getr (b := 35) C 9 rfl flX7_9 (hZ.at (i := 34) rfl) rfl ?_
        refine g_aload_n C 10 0 rfl rfl ?_
        refine g_geti C 11 rfl flX7_15 (hZ.at (i := 34) rfl) rfl ?_
        refine g_iload_n C 12 1 rfl rfl ?_
        refine g_iload_n C 13 2 rfl rfl ?_
        refine g_iushr C 14 rfl ?_
        refine g_sipush (v := 255) C 15 rfl rfl ?_
        refine g_iand C 16 rfl ?_
        refine g_iast C 17 rfl (hZ.at (i := 35) rfl) h (fun s1 h => ?_)
        refine g_aload_n C 18 0 rfl rfl ?_
        refine g_dup C 19 rfl rfl ?_
        refine g_geti C 20 rfl flX7_15 (hZ.at (i := 34) rfl) rfl ?_
        refine g_iconst (v := 1) C 21 rfl rfl ?_
        refine g_iadd C 22 rfl ?_
        refine g_put C 23 rfl fpX7_15 (hZ.at (i := 34) rfl) rfl rfl rfl h (fun s2 h => ?_)
        refine g_iinc C 24 2 (l2 + (-8)) [(2, .int (l2 + (-8))), (0, .ref (ad 34)), (1, .int l1)] rfl rfl (by decide) rfl rfl ?_
        refine g_goto C 25 3 rfl rfl ?_
        refine g_sub C [1, 2, 0] [(0, .ref (ad 34)), (1, .int l1), (2, .int (l2 + (-8)))] rfl ?_
        exact ih _ _ h
set_option maxRecDepth 20000 in
set_option maxHeartbeats 4000000 in
theorem M_X7_addFour {Z : List gH} (hZ : Lay Z) (l1 : Int32) : gMet yX7_addFour cX7_addFour 3 none 1 Z (fun ad => [.ref (ad 34), .int l1]) (F_X7_addFour Z l1) := by
  refine gMet_intro T_X7_addFour T_X7_addFour_ok rfl (fun _ => Nat.le_of_ble_eq_true rfl) (fun g ad σ z C h => ?_)
  show g 0 [(0, .ref (ad 34)), (1, .int l1)] [] σ
  rw [F_X7_addFour] at h
  refine g_bipush (v := 24) C 0 rfl rfl ?_
  refine g_istore_n C 1 [(2, .int 24), (0, .ref (ad 34)), (1, .int l1)] rfl (by decide) rfl ?_
  refine g_sub C [1, 2, 0] [(0, .ref (ad 34)), (1, .int l1), (2, .int 24)] rfl ?_
  exact C_F_X7_addFour_L3 C hZ _ _ _ _ h
def T_JS_coder : List (Nat × Instr × Nat) := [(0, .getstatic 38, 3), (3, .ifCond .eq (10), 3), (6, .aload_n 0, 1), (7, .getfield 15, 3), (10, .goto (4), 3), (13, .iconst 1, 1), (14, .ireturn, 1)]
theorem T_JS_coder_ok : gTb cJS_coder T_JS_coder = true := by decide +kernel
def F_JS_coder (Z : List gH) (l0 : Nat) (σ : gS) : Option (Int32 × gS) := if vp_nar .byte 0 = 0 then some (0, σ) else none
set_option maxRecDepth 20000 in
set_option maxHeartbeats 4000000 in
theorem M_JS_coder {Z : List gH} (hZ : Lay Z) (l0 : Nat) (hl0 : l0 < 6) : gMet yJS_coder cJS_coder 1 (some .byte) 1 Z (fun ad => [.ref (ad (100000 + l0))]) (F_JS_coder Z l0) := by
  refine gMet_intro T_JS_coder T_JS_coder_ok rfl (fun _ => Nat.le_of_ble_eq_true rfl) (fun g ad σ z C h => ?_)
  show g 0 [(0, .ref (ad (100000 + l0)))] [] σ
  rw [F_JS_coder] at h
  refine g_cst C 0 rfl kx_cst ?_
  refine g_if_eq_F C 1 13 rfl rfl (by decide) ?_
  refine g_aload_n C 2 0 rfl rfl ?_
  refine g_scod C 3 hl0 rfl kx_scod ?_
  refine g_goto C 4 14 rfl rfl ?_
  exact g_nreturn C 6 (Or.inr rfl) rfl h
def T_JS_length : List (Nat × Instr × Nat) := [(0, .aload_n 0, 1), (1, .getfield 9, 3), (4, .arraylength, 1), (5, .aload_n 0, 1), (6, .invokevirtual 335, 3), (9, .ishr, 1), (10, .ireturn, 1)]
theorem T_JS_length_ok : gTb cJS_length T_JS_length = true := by decide +kernel
def F_JS_length (Z : List gH) (l0 : Nat) (σ : gS) : Option (Int32 × gS) := mCall (F_JS_coder Z l0 σ) (fun r1 s2 => some (((Int32.ofNat (sLen.getD l0 0)) >>> (r1 &&& 31)), s2))
set_option maxRecDepth 20000 in
set_option maxHeartbeats 4000000 in
theorem M_JS_length {Z : List gH} (hZ : Lay Z) (l0 : Nat) (hl0 : l0 < 6) : gMet yJS_length cJS_length 1 (some .int) 2 Z (fun ad => [.ref (ad (100000 + l0))]) (F_JS_length Z l0) := by
  refine gMet_intro T_JS_length T_JS_length_ok rfl (fun _ => Nat.le_of_ble_eq_true rfl) (fun g ad σ z C h => ?_)
  show g 0 [(0, .ref (ad (100000 + l0)))] [] σ
  rw [F_JS_length] at h
  refine g_aload_n C 0 0 rfl rfl ?_
  refine g_sval C 1 hl0 rfl kx_sval ?_
  refine g_balen C 2 hl0 rfl ?_
  refine g_aload_n C 3 0 rfl rfl ?_
  refine g_callKi C 4 [] [.int (Int32.ofNat (sLen.getD l0 0))] hl0 rfl (M_JS_coder hZ l0 hl0) cnJS_335 cwJS_coder ciJS_coder rfl rfl rfl rfl (by simp [Value.category, *]) ⟨Nat.le_of_ble_eq_true rfl, Nat.le_of_ble_eq_true rfl⟩ h (fun r1 s2 h => ?_)
  refine g_ishr C 5 rfl ?_
  exact g_ireturn C 6 rfl h
def T_JS_isLatin1 : List (Nat × Instr × Nat) := [(0, .getstatic 38, 3), (3, .ifCond .eq (14), 3), (6, .aload_n 0, 1), (7, .getfield 15, 3), (10, .ifCond .ne (7), 3), (13, .iconst 1, 1), (14, .goto (4), 3), (17, .iconst 0, 1), (18, .ireturn, 1)]
theorem T_JS_isLatin1_ok : gTb cJS_isLatin1 T_JS_isLatin1 = true := by decide +kernel
def F_JS_isLatin1 (Z : List gH) (l0 : Nat) (σ : gS) : Option (Int32 × gS) := mZ 1 σ
set_option maxRecDepth 20000 in
set_option maxHeartbeats 4000000 in
theorem M_JS_isLatin1 {Z : List gH} (hZ : Lay Z) (l0 : Nat) (hl0 : l0 < 6) : gMet yJS_isLatin1 cJS_isLatin1 1 (some .boolean) 1 Z (fun ad => [.ref (ad (100000 + l0))]) (F_JS_isLatin1 Z l0) := by
  refine gMet_intro T_JS_isLatin1 T_JS_isLatin1_ok rfl (fun _ => Nat.le_of_ble_eq_true rfl) (fun g ad σ z C h => ?_)
  show g 0 [(0, .ref (ad (100000 + l0)))] [] σ
  rw [F_JS_isLatin1] at h
  refine g_cst C 0 rfl kx_cst ?_
  refine g_if_eq_F C 1 17 rfl rfl (by decide) ?_
  refine g_aload_n C 2 0 rfl rfl ?_
  refine g_scod C 3 hl0 rfl kx_scod ?_
  refine g_if_ne_F C 4 17 rfl rfl (by decide) ?_
  refine g_iconst (v := 1) C 5 rfl rfl ?_
  refine g_goto C 6 18 rfl rfl ?_
  exact g_zreturn C 8 rfl h
def T_JL_canEncode : List (Nat × Instr × Nat) := [(0, .iload_n 0, 1), (1, .ifCond .lt (14), 3), (4, .iload_n 0, 1), (5, .sipush 255, 3), (8, .if_icmp .gt (7), 3), (11, .iconst 1, 1), (12, .goto (4), 3), (15, .iconst 0, 1), (16, .ireturn, 1)]
theorem T_JL_canEncode_ok : gTb cJL_canEncode T_JL_canEncode = true := by decide +kernel
def F_JL_canEncode (Z : List gH) (l0 : Int32) (σ : gS) : Option (Int32 × gS) := if l0 < 0 then mZ 0 σ else if 255 < l0 then mZ 0 σ else mZ 1 σ
set_option maxRecDepth 20000 in
set_option maxHeartbeats 4000000 in
theorem M_JL_canEncode {Z : List gH} (hZ : Lay Z) (l0 : Int32) : gMet yJL_canEncode cJL_canEncode 1 (some .boolean) 1 Z (fun ad => [.int l0]) (F_JL_canEncode Z l0) := by
  refine gMet_intro T_JL_canEncode T_JL_canEncode_ok rfl (fun _ => Nat.le_of_ble_eq_true rfl) (fun g ad σ z C h => ?_)
  show g 0 [(0, .int l0)] [] σ
  rw [F_JL_canEncode] at h
  refine g_iload_n C 0 0 rfl rfl ?_
  refine g_if_lt C 1 15 rfl rfl h (fun h => ?_) (fun h => ?_)
  · refine g_iconst (v := 0) C 7 rfl rfl ?_
    exact g_zreturn C 8 rfl h
  · refine g_iload_n C 2 0 rfl rfl ?_
    refine g_sipush (v := 255) C 3 rfl rfl ?_
    refine g_icmp_gt C 4 15 rfl rfl h (fun h => ?_) (fun h => ?_)
    · refine g_iconst (v := 0) C 7 rfl rfl ?_
      exact g_zreturn C 8 rfl h
    · refine g_iconst (v := 1) C 5 rfl rfl ?_
      refine g_goto C 6 16 rfl rfl ?_
      exact g_zreturn C 8 rfl h
def T_JL_indexOfChar : List (Nat × Instr × Nat) := [(0, .iload_n 1, 1), (1, .i2b, 1), (2, .istore 4, 2), (4, .iload_n 2, 1), (5, .istore 5, 2), (7, .iload 5, 2), (9, .iload_n 3, 1), (10, .if_icmp .ge (21), 3), (13, .aload_n 0, 1), (14, .iload 5, 2), (16, .baload, 1), (17, .iload 4, 2), (19, .if_icmp .ne (6), 3), (22, .iload 5, 2), (24, .ireturn, 1), (25, .iinc 5 1, 3), (28, .goto (-21), 3), (31, .iconst (-1), 1), (32, .ireturn, 1)]
theorem T_JL_indexOfChar_ok : gTb cJL_indexOfChar T_JL_indexOfChar = true := by decide +kernel
def F_JL_indexOfChar_L7 (Z : List gH) (l0 : Nat) (l3 : Int32) : Nat → Int32 → Int32 → gS → Option (Int32 × gS)
  | 0, _, _, _ => none
  | n + 1, l4, l5, σ => if l3 ≤ l5 then some ((-1), σ) else mIn (sLen.getD l0 0) l5 (if ((sByt.getD l0 []).getD (nn l5) 0) = l4 then some (l5, σ) else F_JL_indexOfChar_L7 Z l0 l3 n l4 (l5 + 1) σ)
def F_JL_indexOfChar (Z : List gH) (l0 : Nat) (l1 : Int32) (l2 : Int32) (l3 : Int32) (σ : gS) : Option (Int32 × gS) := mLet ((l1.toInt8.toInt32)) (fun v1 => F_JL_indexOfChar_L7 Z l0 l3 mFuel v1 l2 σ)
set_option maxRecDepth 20000 in
set_option maxHeartbeats 4000000 in
theorem C_F_JL_indexOfChar_L7 {g : Nat → List (Nat × Value) → List Value → gS → Prop} {Z : List gH} {ad : Nat → Nat} {z : Int32 × gS}  (C : gOk g T_JL_indexOfChar RJL 6 (some .int) 1 Z ad z) (hZ : Lay Z) (l0 : Nat) (hl0 : l0 < 6) (l3 : Int32) : ∀ (n : Nat) (l4 : Int32) (l5 : Int32) (σ : gS), F_JL_indexOfChar_L7 Z l0 l3 n l4 l5 σ = some z → g 7 [(0, .ref (ad (200000 + l0))), (3, .int l3), (4, .int l4), (5, .int l5)] [] σ := by
  intro n
  induction n with
  | zero => intro l4 l5 σ h; cases h
  | succ n ih =>
    intro l4 l5 σ h
    rw [F_JL_indexOfChar_L7] at h
    refine g_iload C 5 3 rfl rfl ?_
    refine g_iload_n C 6 1 rfl rfl ?_
    refine g_icmp_ge C 7 31 rfl rfl h (fun h => ?_) (fun h => ?_)
    · refine g_iconst (v := (-1)) C 17 rfl rfl ?_
      exact g_ireturn C 18 rfl h
    · refine g_aload_n C 8 0 rfl rfl ?_
      refine g_iload C 9 3 rfl rfl ?_
      refine g_bald C 10 hl0 rfl h (fun h => ?_)
      refine g_iload C 11 2 rfl rfl ?_
      refine g_icmp_ne C 12 25 rfl rfl h (fun h => ?_) (fun h => ?_)
      · refine g_iinc C 15 3 (l5 + 1) [(5, .int (l5 + 1)), (0, .ref (ad (200000 + l0))), (3, .int l3), (4, .int l4)] rfl rfl (by decide) rfl rfl ?_
        refine g_goto C 16 7 rfl rfl ?_
        refine g_sub C [1, 2, 3, 0] [(0, .ref (ad (200000 + l0))), (3, .int l3), (4, .int l4), (5, .int (l5 + 1))] rfl ?_
        exact ih _ _ _ h
      · refine g_iload C 13 3 rfl rfl ?_
        exact g_ireturn C 14 rfl h
set_option maxRecDepth 20000 in
set_option maxHeartbeats 4000000 in
theorem M_JL_indexOfChar {Z : List gH} (hZ : Lay Z) (l0 : Nat) (hl0 : l0 < 6) (l1 : Int32) (l2 : Int32) (l3 : Int32) : gMet yJL_indexOfChar cJL_indexOfChar 6 (some .int) 1 Z (fun ad => [.ref (ad (200000 + l0)), .int l1, .int l2, .int l3]) (F_JL_indexOfChar Z l0 l1 l2 l3) := by
  refine gMet_intro T_JL_indexOfChar T_JL_indexOfChar_ok rfl (fun _ => Nat.le_of_ble_eq_true rfl) (fun g ad σ z C h => ?_)
  show g 0 [(0, .ref (ad (200000 + l0))), (1, .int l1), (2, .int l2), (3, .int l3)] [] σ
  rw [F_JL_indexOfChar] at h
  refine g_iload_n C 0 1 rfl rfl ?_
  refine g_i2b C 1 rfl ?_
  refine g_let h (fun v1 h => ?_)
  refine g_istore C 2 [(4, .int v1), (0, .ref (ad (200000 + l0))), (1, .int l1), (2, .int l2), (3, .int l3)] rfl (by decide) rfl ?_
  refine g_iload_n C 3 3 rfl rfl ?_
  refine g_istore C 4 [(5, .int l2), (4, .int v1), (0, .ref (ad (200000 + l0))), (1, .int l1), (2, .int l2), (3, .int l3)] rfl (by decide) rfl ?_
  refine g_sub C [2, 5, 1, 0] [(0, .ref (ad (200000 + l0))), (3, .int l3), (4, .int v1), (5, .int l2)] rfl ?_
  exact C_F_JL_indexOfChar_L7 C hZ _ hl0 _ _ _ _ _ h
def T_JL_indexOf : List (Nat × Instr × Nat) := [(0, .iload_n 1, 1), (1, .invokestatic 88, 3), (4, .ifCond .ne (5), 3), (7, .iconst (-1), 1), (8, .ireturn, 1), (9, .iload_n 2, 1), (10, .iconst 0, 1), (11, .invokestatic 92, 3), (14, .istore_n 2, 1), (15, .iload_n 3, 1), (16, .aload_n 0, 1), (17, .arraylength, 1), (18, .invokestatic 38, 3), (21, .istore_n 3, 1), (22, .iload_n 2, 1), (23, .iload_n 3, 1), (24, .if_icmp .lt (5), 3), (27, .iconst (-1), 1), (28, .ireturn, 1), (29, .aload_n 0, 1), (30, .iload_n 1, 1), (31, .iload_n 2, 1), (32, .iload_n 3, 1), (33, .invokestatic 95, 3), (36, .ireturn, 1)]
theorem T_JL_indexOf_ok : gTb cJL_indexOf T_JL_indexOf = true := by decide +kernel
def F_JL_indexOf (Z : List gH) (l0 : Nat) (l1 : Int32) (l2 : Int32) (l3 : Int32) (σ : gS) : Option (Int32 × gS) := mCall (F_JL_canEncode Z l1 σ) (fun r1 s2 => if r1 = 0 then some ((-1), s2) else mLet ((mMax l2 0)) (fun v3 => mLet ((mMin l3 (Int32.ofNat (sLen.getD l0 0)))) (fun v4 => if v3 < v4 then mCall (F_JL_indexOfChar Z l0 l1 v3 v4 s2) (fun r5 s6 => some (r5, s6)) else some ((-1), s2))))
set_option maxRecDepth 20000 in
set_option maxHeartbeats 4000000 in
theorem M_JL_indexOf {Z : List gH} (hZ : Lay Z) (l0 : Nat) (hl0 : l0 < 6) (l1 : Int32) (l2 : Int32) (l3 : Int32) : gMet yJL_indexOf cJL_indexOf 4 (some .int) 2 Z (fun ad => [.ref (ad (200000 + l0)), .int l1, .int l2, .int l3]) (F_JL_indexOf Z l0 l1 l2 l3) := by
  refine gMet_intro T_JL_indexOf T_JL_indexOf_ok rfl (fun _ => Nat.le_of_ble_eq_true rfl) (fun g ad σ z C h => ?_)
  show g 0 [(0, .ref (ad (200000 + l0))), (1, .int l1), (2, .int l2), (3, .int l3)] [] σ
  rw [F_JL_indexOf] at h
  refine g_iload_n C 0 1 rfl rfl ?_
  refine g_callSi C 1 [.int l1] [] rfl (M_JL_canEncode hZ l1) cnJL_88 cwJL_canEncode csJL_canEncode rfl rfl rfl (Nat.le_of_ble_eq_true rfl) ⟨Nat.le_of_ble_eq_true rfl, Nat.le_of_ble_eq_true rfl⟩ h (fun r1 s2 h => ?_)
  refine g_if_ne C 2 9 rfl rfl h (fun h => ?_) (fun h => ?_)
  · refine g_iload_n C 5 2 rfl rfl ?_
    refine g_iconst (v := 0) C 6 rfl rfl ?_
    refine g_mmax C 7 rfl cnJL_92 wm_max ⟨Nat.le_of_ble_eq_true rfl, Nat.le_of_ble_eq_true rfl⟩ ?_
    refine g_let h (fun v3 h => ?_)
    refine g_istore_n C 8 [(2, .int v3), (0, .ref (ad (200000 + l0))), (1, .int l1), (3, .int l3)] rfl (by decide) rfl ?_
    refine g_iload_n C 9 3 rfl rfl ?_
    refine g_aload_n C 10 1 rfl rfl ?_
    refine g_balen C 11 hl0 rfl ?_
    refine g_mmin C 12 rfl cnJL_38 wm_min ⟨Nat.le_of_ble_eq_true rfl, Nat.le_of_ble_eq_true rfl⟩ ?_
    refine g_let h (fun v4 h => ?_)
    refine g_istore_n C 13 [(3, .int v4), (2, .int v3), (0, .ref (ad (200000 + l0))), (1, .int l1)] rfl (by decide) rfl ?_
    refine g_iload_n C 14 1 rfl rfl ?_
    refine g_iload_n C 15 0 rfl rfl ?_
    refine g_icmp_lt C 16 29 rfl rfl h (fun h => ?_) (fun h => ?_)
    · refine g_aload_n C 19 2 rfl rfl ?_
      refine g_iload_n C 20 3 rfl rfl ?_
      refine g_iload_n C 21 1 rfl rfl ?_
      refine g_iload_n C 22 0 rfl rfl ?_
      refine g_callSi C 23 [.ref (ad (200000 + l0)), .int l1, .int v3, .int v4] [] rfl (M_JL_indexOfChar hZ l0 hl0 l1 v3 v4) cnJL_95 cwJL_indexOfChar csJL_indexOfChar rfl rfl rfl (Nat.le_of_ble_eq_true rfl) ⟨Nat.le_of_ble_eq_true rfl, Nat.le_of_ble_eq_true rfl⟩ h (fun r5 s6 h => ?_)
      exact g_ireturn C 24 rfl h
    · refine g_iconst (v := (-1)) C 17 rfl rfl ?_
      exact g_ireturn C 18 rfl h
  · refine g_iconst (v := (-1)) C 3 rfl rfl ?_
    exact g_ireturn C 4 rfl h
def T_JS_indexOf2 : List (Nat × Instr × Nat) := [(0, .aload_n 0, 1), (1, .invokevirtual 492, 3), (4, .ifCond .eq (19), 3), (7, .aload_n 0, 1), (8, .getfield 9, 3), (11, .iload_n 1, 1), (12, .iload_n 2, 1), (13, .aload_n 0, 1), (14, .invokevirtual 505, 3), (17, .invokestatic 637, 3), (20, .goto (16), 3), (23, .aload_n 0, 1), (24, .getfield 9, 3), (27, .iload_n 1, 1), (28, .iload_n 2, 1), (29, .aload_n 0, 1), (30, .invokevirtual 505, 3), (33, .invokestatic 640, 3), (36, .ireturn, 1)]
theorem T_JS_indexOf2_ok : gTb cJS_indexOf2 T_JS_indexOf2 = true := by decide +kernel
def F_JS_indexOf2 (Z : List gH) (l0 : Nat) (l1 : Int32) (l2 : Int32) (σ : gS) : Option (Int32 × gS) := mCall (F_JS_isLatin1 Z l0 σ) (fun r1 s2 => if r1 = 0 then none else mCall (F_JS_length Z l0 s2) (fun r5 s6 => mCall (F_JL_indexOf Z l0 l1 l2 r5 s6) (fun r7 s8 => some (r7, s8))))
set_option maxRecDepth 20000 in
set_option maxHeartbeats 4000000 in
theorem M_JS_indexOf2 {Z : List gH} (hZ : Lay Z) (l0 : Nat) (hl0 : l0 < 6) (l1 : Int32) (l2 : Int32) : gMet yJS_indexOf2 cJS_indexOf2 3 (some .int) 3 Z (fun ad => [.ref (ad (100000 + l0)), .int l1, .int l2]) (F_JS_indexOf2 Z l0 l1 l2) := by
  refine gMet_intro T_JS_indexOf2 T_JS_indexOf2_ok rfl (fun _ => Nat.le_of_ble_eq_true rfl) (fun g ad σ z C h => ?_)
  show g 0 [(0, .ref (ad (100000 + l0))), (1, .int l1), (2, .int l2)] [] σ
  rw [F_JS_indexOf2] at h
  refine g_aload_n C 0 0 rfl rfl ?_
  refine g_callKi C 1 [] [] hl0 rfl (M_JS_isLatin1 hZ l0 hl0) cnJS_492 cwJS_isLatin1 ciJS_isLatin1 rfl rfl rfl rfl (by simp [Value.category, *]) ⟨Nat.le_of_ble_eq_true rfl, Nat.le_of_ble_eq_true rfl⟩ h (fun r1 s2 h => ?_)
  refine g_if_eq C 2 23 rfl rfl h (fun h => ?_) (fun h => ?_)
  · cases h
  · refine g_aload_n C 3 0 rfl rfl ?_
    refine g_sval C 4 hl0 rfl kx_sval ?_
    refine g_iload_n C 5 1 rfl rfl ?_
    refine g_iload_n C 6 2 rfl rfl ?_
    refine g_aload_n C 7 0 rfl rfl ?_
    refine g_callKi C 8 [] [.int l2, .int l1, .ref (ad (200000 + l0))] hl0 rfl (M_JS_length hZ l0 hl0) cnJS_505 cwJS_length ciJS_length rfl rfl rfl rfl (by simp [Value.category, *]) ⟨Nat.le_of_ble_eq_true rfl, Nat.le_of_ble_eq_true rfl⟩ h (fun r5 s6 h => ?_)
    refine g_callSi C 9 [.ref (ad (200000 + l0)), .int l1, .int l2, .int r5] [] rfl (M_JL_indexOf hZ l0 hl0 l1 l2 r5) cnJS_637 cwJL_indexOf csJL_indexOf rfl rfl rfl (Nat.le_of_ble_eq_true rfl) ⟨Nat.le_of_ble_eq_true rfl, Nat.le_of_ble_eq_true rfl⟩ h (fun r7 s8 h => ?_)
    refine g_goto C 10 36 rfl rfl ?_
    exact g_ireturn C 18 rfl h
def T_JS_indexOf : List (Nat × Instr × Nat) := [(0, .aload_n 0, 1), (1, .iload_n 1, 1), (2, .iconst 0, 1), (3, .invokevirtual 633, 3), (6, .ireturn, 1)]
theorem T_JS_indexOf_ok : gTb cJS_indexOf T_JS_indexOf = true := by decide +kernel
def F_JS_indexOf (Z : List gH) (l0 : Nat) (l1 : Int32) (σ : gS) : Option (Int32 × gS) := mCall (F_JS_indexOf2 Z l0 l1 0 σ) (fun r1 s2 => some (r1, s2))
set_option maxRecDepth 20000 in
set_option maxHeartbeats 4000000 in
theorem M_JS_indexOf {Z : List gH} (hZ : Lay Z) (l0 : Nat) (hl0 : l0 < 6) (l1 : Int32) : gMet yJS_indexOf cJS_indexOf 2 (some .int) 4 Z (fun ad => [.ref (ad (100000 + l0)), .int l1]) (F_JS_indexOf Z l0 l1) := by
  refine gMet_intro T_JS_indexOf T_JS_indexOf_ok rfl (fun _ => Nat.le_of_ble_eq_true rfl) (fun g ad σ z C h => ?_)
  show g 0 [(0, .ref (ad (100000 + l0))), (1, .int l1)] [] σ
  rw [F_JS_indexOf] at h
  refine g_aload_n C 0 0 rfl rfl ?_
  refine g_iload_n C 1 1 rfl rfl ?_
  refine g_iconst (v := 0) C 2 rfl rfl ?_
  refine g_callKi C 3 [.int l1, .int 0] [] hl0 rfl (M_JS_indexOf2 hZ l0 hl0 l1 0) cnJS_633 cwJS_indexOf2 ciJS_indexOf2 rfl rfl rfl rfl (by simp [Value.category, *]) ⟨Nat.le_of_ble_eq_true rfl, Nat.le_of_ble_eq_true rfl⟩ h (fun r1 s2 h => ?_)
  exact g_ireturn C 4 rfl h
def T_JP_checkIndex : List (Nat × Instr × Nat) := [(0, .iload_n 0, 1), (1, .ifCond .lt (8), 3), (4, .iload_n 0, 1), (5, .iload_n 1, 1), (6, .if_icmp .lt (10), 3), (9, .aload_n 2, 1), (10, .iload_n 0, 1), (11, .iload_n 1, 1), (12, .invokestatic 95, 3), (15, .athrow, 1), (16, .iload_n 0, 1), (17, .ireturn, 1)]
theorem T_JP_checkIndex_ok : gTb cJP_checkIndex T_JP_checkIndex = true := by decide +kernel
def F_JP_checkIndex (Z : List gH) (l0 : Int32) (l1 : Int32) (σ : gS) : Option (Int32 × gS) := if l0 < 0 then none else if l0 < l1 then some (l0, σ) else none
set_option maxRecDepth 20000 in
set_option maxHeartbeats 4000000 in
theorem M_JP_checkIndex {Z : List gH} (hZ : Lay Z) (l0 : Int32) (l1 : Int32) (l2 : Value) (hl2 : l2.category = 1) : gMet yJP_checkIndex cJP_checkIndex 3 (some .int) 1 Z (fun ad => [.int l0, .int l1, l2]) (F_JP_checkIndex Z l0 l1) := by
  refine gMet_intro T_JP_checkIndex T_JP_checkIndex_ok rfl (fun _ => by simp [lg_sl, *, show ∀ x : Int32, (Value.int x).category = 1 from fun _ => rfl]) (fun g ad σ z C h => ?_)
  show g 0 [(0, .int l0), (1, .int l1), (2, l2)] [] σ
  rw [F_JP_checkIndex] at h
  refine g_iload_n C 0 0 rfl rfl ?_
  refine g_if_lt C 1 9 rfl rfl h (fun h => ?_) (fun h => ?_)
  · cases h
  · refine g_iload_n C 2 0 rfl rfl ?_
    refine g_iload_n C 3 1 rfl rfl ?_
    refine g_icmp_lt C 4 16 rfl rfl h (fun h => ?_) (fun h => ?_)
    · refine g_iload_n C 10 0 rfl rfl ?_
      exact g_ireturn C 11 rfl h
    · cases h
def T_JS_checkIndex : List (Nat × Instr × Nat) := [(0, .iload_n 0, 1), (1, .iload_n 1, 1), (2, .getstatic 1053, 3), (5, .invokestatic 1059, 3), (8, .pop, 1), (9, .return_, 1)]
theorem T_JS_checkIndex_ok : gTb cJS_checkIndex T_JS_checkIndex = true := by decide +kernel
def F_JS_checkIndex (Z : List gH) (l0 : Int32) (l1 : Int32) (σ : gS) : Option (Int32 × gS) := mCall (F_JP_checkIndex Z l0 l1 σ) (fun r2 s3 => some (0, s3))
set_option maxRecDepth 20000 in
set_option maxHeartbeats 4000000 in
theorem M_JS_checkIndex {Z : List gH} (hZ : Lay Z) (l0 : Int32) (l1 : Int32) : gMet yJS_checkIndex cJS_checkIndex 2 none 2 Z (fun ad => [.int l0, .int l1]) (F_JS_checkIndex Z l0 l1) := by
  refine gMet_intro T_JS_checkIndex T_JS_checkIndex_ok rfl (fun _ => Nat.le_of_ble_eq_true rfl) (fun g ad σ z C h => ?_)
  show g 0 [(0, .int l0), (1, .int l1)] [] σ
  rw [F_JS_checkIndex] at h
  refine g_iload_n C 0 0 rfl rfl ?_
  refine g_iload_n C 1 1 rfl rfl ?_
  refine g_siob C 2 rfl kx_siob (fun b1 hb1 => ?_)
  refine g_callSi C 3 [.int l0, .int l1, b1] [] rfl (M_JP_checkIndex hZ l0 l1 b1 hb1) cnJS_1059 cwJP_checkIndex csJP_checkIndex rfl rfl rfl (Nat.le_of_ble_eq_true rfl) ⟨Nat.le_of_ble_eq_true rfl, Nat.le_of_ble_eq_true rfl⟩ h (fun r2 s3 h => ?_)
  refine g_pop C 4 rfl rfl ?_
  exact g_return C 5 rfl h
def T_JL_charAt : List (Nat × Instr × Nat) := [(0, .iload_n 1, 1), (1, .aload_n 0, 1), (2, .arraylength, 1), (3, .invokestatic 9, 3), (6, .aload_n 0, 1), (7, .iload_n 1, 1), (8, .baload, 1), (9, .sipush 255, 3), (12, .iand, 1), (13, .i2c, 1), (14, .ireturn, 1)]
theorem T_JL_charAt_ok : gTb cJL_charAt T_JL_charAt = true := by decide +kernel
def F_JL_charAt (Z : List gH) (l0 : Nat) (l1 : Int32) (σ : gS) : Option (Int32 × gS) := mCall (F_JS_checkIndex Z l1 (Int32.ofNat (sLen.getD l0 0)) σ) (fun r1 s2 => mIn (sLen.getD l0 0) l1 (if vp_nar .char (((((sByt.getD l0 []).getD (nn l1) 0) &&& 255).toUInt32 % 65536).toInt32) = (((((sByt.getD l0 []).getD (nn l1) 0) &&& 255).toUInt32 % 65536).toInt32) then some ((((((sByt.getD l0 []).getD (nn l1) 0) &&& 255).toUInt32 % 65536).toInt32), s2) else none))
set_option maxRecDepth 20000 in
set_option maxHeartbeats 4000000 in
theorem M_JL_charAt {Z : List gH} (hZ : Lay Z) (l0 : Nat) (hl0 : l0 < 6) (l1 : Int32) : gMet yJL_charAt cJL_charAt 2 (some .char) 3 Z (fun ad => [.ref (ad (200000 + l0)), .int l1]) (F_JL_charAt Z l0 l1) := by
  refine gMet_intro T_JL_charAt T_JL_charAt_ok rfl (fun _ => Nat.le_of_ble_eq_true rfl) (fun g ad σ z C h => ?_)
  show g 0 [(0, .ref (ad (200000 + l0))), (1, .int l1)] [] σ
  rw [F_JL_charAt] at h
  refine g_iload_n C 0 1 rfl rfl ?_
  refine g_aload_n C 1 0 rfl rfl ?_
  refine g_balen C 2 hl0 rfl ?_
  refine g_callSv C 3 [.int l1, .int (Int32.ofNat (sLen.getD l0 0))] [] rfl (M_JS_checkIndex hZ l1 (Int32.ofNat (sLen.getD l0 0))) cnJL_9 cwJS_checkIndex csJS_checkIndex rfl rfl rfl (Nat.le_of_ble_eq_true rfl) ⟨Nat.le_of_ble_eq_true rfl, Nat.le_of_ble_eq_true rfl⟩ h (fun r1 s2 h => ?_)
  refine g_aload_n C 4 0 rfl rfl ?_
  refine g_iload_n C 5 1 rfl rfl ?_
  refine g_bald C 6 hl0 rfl h (fun h => ?_)
  refine g_sipush (v := 255) C 7 rfl rfl ?_
  refine g_iand C 8 rfl ?_
  refine g_i2c C 9 rfl ?_
  exact g_nreturn C 10 (Or.inl rfl) rfl h
def T_JS_charAt : List (Nat × Instr × Nat) := [(0, .aload_n 0, 1), (1, .invokevirtual 492, 3), (4, .ifCond .eq (12), 3), (7, .aload_n 0, 1), (8, .getfield 9, 3), (11, .iload_n 1, 1), (12, .invokestatic 495, 3), (15, .ireturn, 1), (16, .aload_n 0, 1), (17, .getfield 9, 3), (20, .iload_n 1, 1), (21, .invokestatic 498, 3), (24, .ireturn, 1)]
theorem T_JS_charAt_ok : gTb cJS_charAt T_JS_charAt = true := by decide +kernel
def F_JS_charAt (Z : List gH) (l0 : Nat) (l1 : Int32) (σ : gS) : Option (Int32 × gS) := mCall (F_JS_isLatin1 Z l0 σ) (fun r1 s2 => if r1 = 0 then none else mCall (F_JL_charAt Z l0 l1 s2) (fun r3 s4 => if vp_nar .char r3 = r3 then some (r3, s4) else none))
set_option maxRecDepth 20000 in
set_option maxHeartbeats 4000000 in
theorem M_JS_charAt {Z : List gH} (hZ : Lay Z) (l0 : Nat) (hl0 : l0 < 6) (l1 : Int32) : gMet yJS_charAt cJS_charAt 2 (some .char) 4 Z (fun ad => [.ref (ad (100000 + l0)), .int l1]) (F_JS_charAt Z l0 l1) := by
  refine gMet_intro T_JS_charAt T_JS_charAt_ok rfl (fun _ => Nat.le_of_ble_eq_true rfl) (fun g ad σ z C h => ?_)
  show g 0 [(0, .ref (ad (100000 + l0))), (1, .int l1)] [] σ
  rw [F_JS_charAt] at h
  refine g_aload_n C 0 0 rfl rfl ?_
  refine g_callKi C 1 [] [] hl0 rfl (M_JS_isLatin1 hZ l0 hl0) cnJS_492 cwJS_isLatin1 ciJS_isLatin1 rfl rfl rfl rfl (by simp [Value.category, *]) ⟨Nat.le_of_ble_eq_true rfl, Nat.le_of_ble_eq_true rfl⟩ h (fun r1 s2 h => ?_)
  refine g_if_eq C 2 16 rfl rfl h (fun h => ?_) (fun h => ?_)
  · cases h
  · refine g_aload_n C 3 0 rfl rfl ?_
    refine g_sval C 4 hl0 rfl kx_sval ?_
    refine g_iload_n C 5 1 rfl rfl ?_
    refine g_callSi C 6 [.ref (ad (200000 + l0)), .int l1] [] rfl (M_JL_charAt hZ l0 hl0 l1) cnJS_495 cwJL_charAt csJL_charAt rfl rfl rfl (Nat.le_of_ble_eq_true rfl) ⟨Nat.le_of_ble_eq_true rfl, Nat.le_of_ble_eq_true rfl⟩ h (fun r3 s4 h => ?_)
    exact g_nreturn C 7 (Or.inl rfl) rfl h
def T_X2_keyOf : List (Nat × Instr × Nat) := [(0, .aload_n 0, 1), (1, .iload_n 1, 1), (2, .invokevirtual 25, 3), (5, .ifCond .eq 15, 3), (8, .aload_n 0, 1), (9, .getfield 11, 3), (12, .iload_n 1, 1), (13, .aaload, 1), (14, .getfield 29, 3), (17, .goto 5, 3), (20, .ldc 33, 2), (22, .ireturn, 1)]
theorem T_X2_keyOf_ok : gTb cX2_keyOf T_X2_keyOf = true := by decide +kernel
def F_X2_keyOf (Z : List gH) (l1 : Int32) (σ : gS) : Option (Int32 × gS) := mCall (F_X2_has Z l1 σ) (fun r1 s2 => if r1 = 0 then some ((-1000000001), s2) else mIn 14 l1 (mSome (zr Z (nn l1)) (fun c3 => some ((s2 c3 0), s2))))
set_option maxRecDepth 20000 in
set_option maxHeartbeats 4000000 in
theorem M_X2_keyOf {Z : List gH} (hZ : Lay Z) (l1 : Int32) : gMet yX2_keyOf cX2_keyOf 2 (some .int) 3 Z (fun ad => [.ref (ad 1), .int l1]) (F_X2_keyOf Z l1) := by
  refine gMet_intro T_X2_keyOf T_X2_keyOf_ok rfl (fun _ => Nat.le_of_ble_eq_true rfl) (fun g ad σ z C h => ?_)
  show g 0 [(0, .ref (ad 1)), (1, .int l1)] [] σ
  rw [F_X2_keyOf] at h
  refine g_aload_n C 0 0 rfl rfl ?_
  refine g_iload_n C 1 1 rfl rfl ?_
  refine g_callVi C 2 [.int l1] [] rfl (M_X2_has hZ l1) cnX2_25 cwX2_has ciX2_has (hZ.at (i := 1) rfl) rfl rfl rfl rfl (Nat.le_of_ble_eq_true rfl) ⟨Nat.le_of_ble_eq_true rfl, Nat.le_of_ble_eq_true rfl⟩ h (fun r1 s2 h => ?_)
  refine g_if_eq C 3 20 rfl rfl h (fun h => ?_) (fun h => ?_)
  · refine g_ldc C 10 rfl kcX2_33 ?_
    exact g_ireturn C 11 rfl h
  · refine g_aload_n C 4 0 rfl rfl ?_
    refine g_getr (b := 2) C 5 rfl flX2_11 (hZ.at (i := 1) rfl) rfl ?_
    refine g_iload_n C 6 1 rfl rfl ?_
    refine g_aald C 7 rfl (Or.inr (Or.inr rfl)) hZ.2.1 h (fun hin h => ?_)
    refine g_getq h (fun c3 hqc3 h => ?_)
    have hc3 : TxB Z c3 := hZ.2.2 _ _ hqc3
    refine g_geti C 8 rfl flX2_29 (tx_obj hc3) rfl ?_
    refine g_goto C 9 22 rfl rfl ?_
    exact g_ireturn C 11 rfl h
def T_X2_operandsOf : List (Nat × Instr × Nat) := [(0, .aload_n 0, 1), (1, .iload_n 1, 1), (2, .invokevirtual 25, 3), (5, .ifCond .eq 15, 3), (8, .aload_n 0, 1), (9, .getfield 11, 3), (12, .iload_n 1, 1), (13, .aaload, 1), (14, .getfield 34, 3), (17, .goto 5, 3), (20, .ldc 33, 2), (22, .ireturn, 1)]
theorem T_X2_operandsOf_ok : gTb cX2_operandsOf T_X2_operandsOf = true := by decide +kernel
def F_X2_operandsOf (Z : List gH) (l1 : Int32) (σ : gS) : Option (Int32 × gS) := mCall (F_X2_has Z l1 σ) (fun r1 s2 => if r1 = 0 then some ((-1000000001), s2) else mIn 14 l1 (mSome (zr Z (nn l1)) (fun c3 => some ((s2 c3 1), s2))))
set_option maxRecDepth 20000 in
set_option maxHeartbeats 4000000 in
theorem M_X2_operandsOf {Z : List gH} (hZ : Lay Z) (l1 : Int32) : gMet yX2_operandsOf cX2_operandsOf 2 (some .int) 3 Z (fun ad => [.ref (ad 1), .int l1]) (F_X2_operandsOf Z l1) := by
  refine gMet_intro T_X2_operandsOf T_X2_operandsOf_ok rfl (fun _ => Nat.le_of_ble_eq_true rfl) (fun g ad σ z C h => ?_)
  show g 0 [(0, .ref (ad 1)), (1, .int l1)] [] σ
  rw [F_X2_operandsOf] at h
  refine g_aload_n C 0 0 rfl rfl ?_
  refine g_iload_n C 1 1 rfl rfl ?_
  refine g_callVi C 2 [.int l1] [] rfl (M_X2_has hZ l1) cnX2_25 cwX2_has ciX2_has (hZ.at (i := 1) rfl) rfl rfl rfl rfl (Nat.le_of_ble_eq_true rfl) ⟨Nat.le_of_ble_eq_true rfl, Nat.le_of_ble_eq_true rfl⟩ h (fun r1 s2 h => ?_)
  refine g_if_eq C 3 20 rfl rfl h (fun h => ?_) (fun h => ?_)
  · refine g_ldc C 10 rfl kcX2_33 ?_
    exact g_ireturn C 11 rfl h
  · refine g_aload_n C 4 0 rfl rfl ?_
    refine g_getr (b := 2) C 5 rfl flX2_11 (hZ.at (i := 1) rfl) rfl ?_
    refine g_iload_n C 6 1 rfl rfl ?_
    refine g_aald C 7 rfl (Or.inr (Or.inr rfl)) hZ.2.1 h (fun hin h => ?_)
    refine g_getq h (fun c3 hqc3 h => ?_)
    have hc3 : TxB Z c3 := hZ.2.2 _ _ hqc3
    refine g_geti C 8 rfl flX2_34 (tx_obj hc3) rfl ?_
    refine g_goto C 9 22 rfl rfl ?_
    exact g_ireturn C 11 rfl h
def T_X5_renew : List (Nat × Instr × Nat) := [(0, .aload_n 0, 1), (1, .getfield 9, 3), (4, .iconst 0, 1), (5, .invokestatic 22, 3), (8, .aload_n 0, 1), (9, .iload_n 1, 1), (10, .putfield 15, 3), (13, .aload_n 0, 1), (14, .iload_n 2, 1), (15, .putfield 19, 3), (18, .return_, 1)]
theorem T_X5_renew_ok : gTb cX5_renew T_X5_renew = true := by decide +kernel
def F_X5_renew (Z : List gH) (l0 : Nat) (l1 : Int32) (l2 : Int32) (σ : gS) : Option (Int32 × gS) := mCall (F_JA_fill Z (l0 + 1) 0 σ) (fun r1 s2 => mLet (gu s2 l0 1 l1) (fun s3 => mLet (gu s3 l0 2 l2) (fun s4 => some (0, s4))))
set_option maxRecDepth 20000 in
set_option maxHeartbeats 4000000 in
theorem M_X5_renew {Z : List gH} (hZ : Lay Z) (l0 : Nat) (hl0 : SB l0) (l1 : Int32) (l2 : Int32) : gMet yX5_renew cX5_renew 3 none 2 Z (fun ad => [.ref (ad l0), .int l1, .int l2]) (F_X5_renew Z l0 l1 l2) := by
  refine gMet_intro T_X5_renew T_X5_renew_ok rfl (fun _ => Nat.le_of_ble_eq_true rfl) (fun g ad σ z C h => ?_)
  show g 0 [(0, .ref (ad l0)), (1, .int l1), (2, .int l2)] [] σ
  rw [F_X5_renew] at h
  refine g_aload_n C 0 0 rfl rfl ?_
  refine g_getr (b := (l0 + 1)) C 1 rfl flX5_9 (sb_obj hZ hl0) rfl ?_
  refine g_iconst (v := 0) C 2 rfl rfl ?_
  refine g_callSv C 3 [.ref (ad (l0 + 1)), .int 0] [] rfl (M_JA_fill hZ (l0 + 1) (ia_of (sb_places hZ hl0)) 0) cnX5_22 cwJA_fill csJA_fill rfl rfl rfl (Nat.le_of_ble_eq_true rfl) ⟨Nat.le_of_ble_eq_true rfl, Nat.le_of_ble_eq_true rfl⟩ h (fun r1 s2 h => ?_)
  refine g_aload_n C 4 0 rfl rfl ?_
  refine g_iload_n C 5 1 rfl rfl ?_
  refine g_put C 6 rfl fpX5_15 (sb_obj hZ hl0) rfl rfl rfl h (fun s3 h => ?_)
  refine g_aload_n C 7 0 rfl rfl ?_
  refine g_iload_n C 8 2 rfl rfl ?_
  refine g_put C 9 rfl fpX5_19 (sb_obj hZ hl0) rfl rfl rfl h (fun s4 h => ?_)
  exact g_return C 10 rfl h
def T_X5_hasRow : List (Nat × Instr × Nat) := [(0, .iload_n 2, 1), (1, .iconst 0, 1), (2, .aload_n 0, 1), (3, .getfield 19, 3), (6, .invokestatic 34, 3), (9, .ifCond .eq 21, 3), (12, .iload_n 1, 1), (13, .iconst 0, 1), (14, .aload_n 0, 1), (15, .getfield 19, 3), (18, .iload_n 2, 1), (19, .isub, 1), (20, .invokestatic 34, 3), (23, .ifCond .eq 7, 3), (26, .iconst 1, 1), (27, .goto 4, 3), (30, .iconst 0, 1), (31, .ireturn, 1)]
theorem T_X5_hasRow_ok : gTb cX5_hasRow T_X5_hasRow = true := by decide +kernel
def F_X5_hasRow (Z : List gH) (l0 : Nat) (l1 : Int32) (l2 : Int32) (σ : gS) : Option (Int32 × gS) := mCall (F_X9_within Z l2 0 (σ l0 2) σ) (fun r1 s2 => if r1 = 0 then mZ 0 s2 else mCall (F_X9_within Z l1 0 ((s2 l0 2) - l2) s2) (fun r3 s4 => if r3 = 0 then mZ 0 s4 else mZ 1 s4))
set_option maxRecDepth 20000 in
set_option maxHeartbeats 4000000 in
theorem M_X5_hasRow {Z : List gH} (hZ : Lay Z) (l0 : Nat) (hl0 : SB l0) (l1 : Int32) (l2 : Int32) : gMet yX5_hasRow cX5_hasRow 3 (some .boolean) 2 Z (fun ad => [.ref (ad l0), .int l1, .int l2]) (F_X5_hasRow Z l0 l1 l2) := by
  refine gMet_intro T_X5_hasRow T_X5_hasRow_ok rfl (fun _ => Nat.le_of_ble_eq_true rfl) (fun g ad σ z C h => ?_)
  show g 0 [(0, .ref (ad l0)), (1, .int l1), (2, .int l2)] [] σ
  rw [F_X5_hasRow] at h
  refine g_iload_n C 0 2 rfl rfl ?_
  refine g_iconst (v := 0) C 1 rfl rfl ?_
  refine g_aload_n C 2 0 rfl rfl ?_
  refine g_geti C 3 rfl flX5_19 (sb_obj hZ hl0) rfl ?_
  refine g_callSi C 4 [.int l2, .int 0, .int (σ l0 2)] [] rfl (M_X9_within hZ l2 0 (σ l0 2)) cnX5_34 cwX9_within csX9_within rfl rfl rfl (Nat.le_of_ble_eq_true rfl) ⟨Nat.le_of_ble_eq_true rfl, Nat.le_of_ble_eq_true rfl⟩ h (fun r1 s2 h => ?_)
  refine g_if_eq C 5 30 rfl rfl h (fun h => ?_) (fun h => ?_)
  · refine g_iconst (v := 0) C 16 rfl rfl ?_
    exact g_zreturn C 17 rfl h
  · refine g_iload_n C 6 1 rfl rfl ?_
    refine g_iconst (v := 0) C 7 rfl rfl ?_
    refine g_aload_n C 8 0 rfl rfl ?_
    refine g_geti C 9 rfl flX5_19 (sb_obj hZ hl0) rfl ?_
    refine g_iload_n C 10 2 rfl rfl ?_
    refine g_isub C 11 rfl ?_
    refine g_callSi C 12 [.int l1, .int 0, .int ((s2 l0 2) - l2)] [] rfl (M_X9_within hZ l1 0 ((s2 l0 2) - l2)) cnX5_34 cwX9_within csX9_within rfl rfl rfl (Nat.le_of_ble_eq_true rfl) ⟨Nat.le_of_ble_eq_true rfl, Nat.le_of_ble_eq_true rfl⟩ h (fun r3 s4 h => ?_)
    refine g_if_eq C 13 30 rfl rfl h (fun h => ?_) (fun h => ?_)
    · refine g_iconst (v := 0) C 16 rfl rfl ?_
      exact g_zreturn C 17 rfl h
    · refine g_iconst (v := 1) C 14 rfl rfl ?_
      refine g_goto C 15 31 rfl rfl ?_
      exact g_zreturn C 17 rfl h
def T_X5_becomeAs : List (Nat × Instr × Nat) := [(0, .aload_n 1, 1), (1, .getfield 9, 3), (4, .iconst 0, 1), (5, .aload_n 0, 1), (6, .getfield 9, 3), (9, .iconst 0, 1), (10, .bipush 24, 2), (12, .invokestatic 28, 3), (15, .aload_n 0, 1), (16, .aload_n 1, 1), (17, .getfield 15, 3), (20, .putfield 15, 3), (23, .aload_n 0, 1), (24, .aload_n 1, 1), (25, .getfield 19, 3), (28, .putfield 19, 3), (31, .return_, 1)]
theorem T_X5_becomeAs_ok : gTb cX5_becomeAs T_X5_becomeAs = true := by decide +kernel
def F_X5_becomeAs (Z : List gH) (l0 : Nat) (l1 : Nat) (σ : gS) : Option (Int32 × gS) := mCopy 24 24 σ (l1 + 1) 0 (l0 + 1) 0 24 (fun s1 => mLet (gu s1 l0 1 (s1 l1 1)) (fun s2 => mLet (gu s2 l0 2 (s2 l1 2)) (fun s3 => some (0, s3))))
set_option maxRecDepth 20000 in
set_option maxHeartbeats 4000000 in
theorem M_X5_becomeAs {Z : List gH} (hZ : Lay Z) (l0 : Nat) (hl0 : SB l0) (l1 : Nat) (hl1 : SB l1) : gMet yX5_becomeAs cX5_becomeAs 2 none 1 Z (fun ad => [.ref (ad l0), .ref (ad l1)]) (F_X5_becomeAs Z l0 l1) := by
  refine gMet_intro T_X5_becomeAs T_X5_becomeAs_ok rfl (fun _ => Nat.le_of_ble_eq_true rfl) (fun g ad σ z C h => ?_)
  show g 0 [(0, .ref (ad l0)), (1, .ref (ad l1))] [] σ
  rw [F_X5_becomeAs] at h
  refine g_aload_n C 0 1 rfl rfl ?_
  refine g_getr (b := (l1 + 1)) C 1 rfl flX5_9 (sb_obj hZ hl1) rfl ?_
  refine g_iconst (v := 0) C 2 rfl rfl ?_
  refine g_aload_n C 3 0 rfl rfl ?_
  refine g_getr (b := (l0 + 1)) C 4 rfl flX5_9 (sb_obj hZ hl0) rfl ?_
  refine g_iconst (v := 0) C 5 rfl rfl ?_
  refine g_bipush (v := 24) C 6 rfl rfl ?_
  refine g_copy C 7 rfl cnX5_28 wm_copy ⟨Nat.le_of_ble_eq_true rfl, Nat.le_of_ble_eq_true rfl⟩ (sb_places hZ hl1) (sb_places hZ hl0) h (fun s1 h => ?_)
  refine g_aload_n C 8 0 rfl rfl ?_
  refine g_aload_n C 9 1 rfl rfl ?_
  refine g_geti C 10 rfl flX5_15 (sb_obj hZ hl1) rfl ?_
  refine g_put C 11 rfl fpX5_15 (sb_obj hZ hl0) rfl rfl rfl h (fun s2 h => ?_)
  refine g_aload_n C 12 0 rfl rfl ?_
  refine g_aload_n C 13 1 rfl rfl ?_
  refine g_geti C 14 rfl flX5_19 (sb_obj hZ hl1) rfl ?_
  refine g_put C 15 rfl fpX5_19 (sb_obj hZ hl0) rfl rfl rfl h (fun s3 h => ?_)
  exact g_return C 16 rfl h
