/-! ===== the abstract judgement: one world of all cells, states of numbers, one rule an instruction ===== -/
def TB : List Cond := lw_tbl.filter goodWord
theorem TBm {w : Cond} (h : w ∈ lw_tbl) (g : goodWord w = true) : w ∈ TB := List.mem_filter.mpr ⟨h, g⟩
theorem TBg {y : MethodName} {cc : ByteArray} {n : Nat} {r : Option FieldType} (h : Cond.code y cc n r ∈ TB) : GoodIn TB (Cond.code y cc n r :: TB) := by
  intro w hw
  have hw : w ∈ TB := by
    rcases List.mem_cons.mp hw with rfl | hw
    · exact h
    · exact hw
  exact ⟨hw, good_of_word (List.mem_filter.mp hw).2⟩
def gNst : Cond → Bool
  | .fieldLinkNest .. => true
  | .methodLinkNest .. => true
  | .arrayOver (.object _) => true
  | _ => false
def NW : List Cond := lw_tbl.filter gNst
theorem NWm {w : Cond} (h : w ∈ lw_tbl) (g : gNst w = true) : w ∈ NW := List.mem_filter.mpr ⟨h, g⟩
def gNw (U : State) : Prop := ∀ w ∈ NW, va_Nw w U
theorem gNw.warm {s U : State} (hW : s.WarmedH U.vm) (h : gNw s) : gNw U := by
  intro w hw
  have h1 := h w hw
  have h2 := (List.mem_filter.mp hw).2
  cases w <;> first | (rename_i ty; cases ty <;> first | exact va_AO.moved hW.alike h1 | (simp [gNst] at h2; done)) | exact va_Nw.warmF hW h1 | exact va_Nw.warmM hW h1 | (simp [gNst] at h2)
theorem gNw.same {s U : State} (hv : s.vm = U.vm) (h : gNw s) : gNw U := by
  intro w hw
  have h1 := h w hw
  have h2 := (List.mem_filter.mp hw).2
  cases w <;> first | (simp [gNst] at h2; done) | exact va_Nw.same rfl hv h1 | (rename_i ty; cases ty <;> first | exact va_AO.moved (hv ▸ Vm.Alike.refl s.vm) h1 | (simp [gNst] at h2; done))
theorem gNw.use {s : State} (h : gNw s) {w : Cond} (hw : w ∈ NW) (args : Array Value) : w.before args s = true := by
  have h1 := h w hw
  have h2 := (List.mem_filter.mp hw).2
  cases w <;> first | (simp [gNst] at h2; done) | exact va_Nw.use rfl h1 | (rename_i ty; cases ty <;> first | exact va_AO.use h1 | (simp [gNst] at h2; done))
/-- a state: cell, slot, number -/
abbrev gS : Type := Nat → Nat → Int32
def gu (σ : gS) (i k : Nat) (v : Int32) : gS := fun a => if a = i then upd (σ i) k v else σ a
/-- a shape: an object (its class's number, its slots: a number, or a reference to a cell or to none), or an array (its type's number, its length; references) -/
abbrev gH : Type := (Nat × List (Option (Option Nat))) ⊕ (Nat × Nat × Option (Nat → Option Nat))
def gV (ad : Nat → Nat) (f : Nat → Int32) (k : Nat) (o : Option (Option Nat)) : Value := match o with
  | none => .int (f k)
  | some r => va_rf (r.map ad)
def gE (cy : Nat → ClassId) (ad : Nat → Nat) (h : gH) (f : Nat → Int32) : va_E := match h with
  | .inl (ci, fs) => .inr (ci, fs.mapIdx (gV ad f))
  | .inr (t, n, none) => .inl (cy t, n, .inl f)
  | .inr (t, n, some rs) => .inl (cy t, n, .inr (.inr (.inr (.inr (fun k => (rs k).map ad)))))
def gCell (cy : Nat → ClassId) (ad : Nat → Nat) (σ : gS) (i : Nat) (h : gH) : Nat × va_E := (ad i, gE cy ad h (σ i))
def gW (cy : Nat → ClassId) (Z : List gH) (ad : Nat → Nat) (σ : gS) : va_W := Z.mapIdx (gCell cy ad σ)
theorem gW_at {cy : Nat → ClassId} {Z : List gH} {ad : Nat → Nat} {σ : gS} {i : Nat} {h : gH} (hl : Z[i]? = some h) : (gW cy Z ad σ)[i]? = some (ad i, gE cy ad h (σ i)) := by
  unfold gW
  rw [List.getElem?_mapIdx, hl]
  rfl
theorem gu_same (σ : gS) (i k : Nat) (v : Int32) : gu σ i k v i = upd (σ i) k v := by simp [gu]
theorem gu_ne (σ : gS) {i a : Nat} (k : Nat) (v : Int32) (h : a ≠ i) : gu σ i k v a = σ a := by simp [gu, h]
/-- one cell's numbers become others -/
def gp (σ : gS) (i : Nat) (f : Nat → Int32) : gS := fun a => if a = i then f else σ a
theorem gu_gp (σ : gS) (i k : Nat) (v : Int32) : gu σ i k v = gp σ i (upd (σ i) k v) := rfl
theorem gW_setp {cy : Nat → ClassId} {Z : List gH} {ad : Nat → Nat} {σ : gS} {i : Nat} {f : Nat → Int32} {h : gH} (hl : Z[i]? = some h) {e : Nat × va_E} (he : e = (ad i, gE cy ad h f)) : (gW cy Z ad σ).set i e = gW cy Z ad (gp σ i f) := by
  have hi : i < Z.length := (List.getElem?_eq_some_iff.mp hl).1
  unfold gW
  apply List.ext_getElem?
  intro j
  rw [List.getElem?_set, List.getElem?_mapIdx, List.getElem?_mapIdx]
  by_cases hj : i = j
  · subst hj
    rw [hl, if_pos rfl, if_pos (by simpa using hi), he]
    simp [gCell, gp]
  · simp only [hj, if_false]
    cases hq : Z[j]? with
    | none => rfl
    | some q => simp [gCell, gp, Ne.symm hj]
theorem gW_set {cy : Nat → ClassId} {Z : List gH} {ad : Nat → Nat} {σ : gS} {i k : Nat} {v : Int32} {h : gH} (hl : Z[i]? = some h) {e : Nat × va_E} (he : e = (ad i, gE cy ad h (upd (σ i) k v))) : (gW cy Z ad σ).set i e = gW cy Z ad (gu σ i k v) := gW_setp hl he
theorem gV_set {ad : Nat → Nat} {f : Nat → Int32} {fs : List (Option (Option Nat))} {k : Nat} {v : Int32} (h : fs[k]? = some none) : (fs.mapIdx (gV ad f)).set k (.int v) = fs.mapIdx (gV ad (upd f k v)) := by
  have hk : k < fs.length := (List.getElem?_eq_some_iff.mp h).1
  apply List.ext_getElem?
  intro j
  rw [List.getElem?_set, List.getElem?_mapIdx, List.getElem?_mapIdx]
  by_cases hj : k = j
  · subst hj
    rw [h, if_pos rfl, if_pos (by simpa using hk)]
    simp [gV, upd]
  · simp only [hj, if_false]
    cases hq : fs[j]? with
    | none => rfl
    | some q => cases q <;> simp [gV, upd, Ne.symm hj]
theorem gV_at {ad : Nat → Nat} {f : Nat → Int32} {fs : List (Option (Option Nat))} {k : Nat} {o : Option (Option Nat)} (h : fs[k]? = some o) : (fs.mapIdx (gV ad f))[k]? = some (gV ad f k o) := by
  rw [List.getElem?_mapIdx, h]; rfl
/-- the addresses of a world are its layout's -/
theorem gW_fst {cy : Nat → ClassId} {Z : List gH} {ad : Nat → Nat} {σ σ' : gS} : (gW cy Z ad σ).map (·.1) = (gW cy Z ad σ').map (·.1) := by
  unfold gW
  apply List.ext_getElem?
  intro j
  rw [List.getElem?_map, List.getElem?_map, List.getElem?_mapIdx, List.getElem?_mapIdx]
  cases Z[j]? <;> rfl
theorem gD_iff {A : Nat → Prop} {ws : va_W} : va_D A ws ↔ (ws.map (·.1)).Nodup ∧ ∀ a ∈ ws.map (·.1), A a := by
  constructor
  · intro h
    refine ⟨?_, fun a ha => ?_⟩
    · unfold List.Nodup
      rw [List.pairwise_iff_getElem]
      intro i j hi hj hij heq
      rw [List.length_map] at hi hj
      rw [List.getElem_map, List.getElem_map] at heq
      have := h.1 i j _ _ (List.getElem?_eq_getElem hi) (List.getElem?_eq_getElem hj) heq
      omega
    · obtain ⟨q, hq, rfl⟩ := List.mem_map.mp ha
      obtain ⟨k, hk⟩ := List.getElem?_of_mem hq
      exact h.2 k q hk
  · rintro ⟨h1, h2⟩
    refine ⟨fun i j p q hi hj e => ?_, fun k q hk => h2 _ (List.mem_map.mpr ⟨q, List.mem_of_getElem? hk, rfl⟩)⟩
    unfold List.Nodup at h1
    rw [List.pairwise_iff_getElem] at h1
    obtain ⟨li, ei⟩ := List.getElem?_eq_some_iff.mp hi
    obtain ⟨lj, ej⟩ := List.getElem?_eq_some_iff.mp hj
    rcases Nat.lt_trichotomy i j with h | h | h
    · exact absurd (by rw [List.getElem_map, List.getElem_map, ei, ej]; exact e) (h1 i j (by simpa using li) (by simpa using lj) h)
    · exact h
    · exact absurd (by rw [List.getElem_map, List.getElem_map, ei, ej]; exact e.symm) (h1 j i (by simpa using lj) (by simpa using li) h)
theorem gD_fst {A : Nat → Prop} {ws ws' : va_W} (h : ws.map (·.1) = ws'.map (·.1)) (hD : va_D A ws) : va_D A ws' := by
  rw [gD_iff] at hD ⊢
  rw [← h]
  exact hD
theorem gD_perm {A : Nat → Prop} {ws ws' : va_W} (h : ws.Perm ws') (hD : va_D A ws) : va_D A ws' := by
  rw [gD_iff] at hD ⊢
  have hp := h.map (fun q : Nat × va_E => q.1)
  exact ⟨hp.nodup_iff.mp hD.1, fun a ha => hD.2 a (hp.mem_iff.mpr ha)⟩
theorem gP_perm {D : va_G} {cl : List vw_C} {ws ws' : va_W} {H : Heap} (h : ws.Perm ws') (hP : va_P D cl ws H) : va_P D cl ws' H := by
  intro k q hk
  have hq : q ∈ ws := h.mem_iff.mpr (List.mem_of_getElem? hk)
  obtain ⟨j, hj⟩ := List.getElem?_of_mem hq
  exact hP j q hj
theorem gA_iff {ws : va_W} {sz q : Nat} : va_A ws sz q ↔ q ∈ ws.map (·.1) ∨ sz ≤ q := by
  unfold va_A
  constructor
  · rintro (⟨k, e, h⟩ | h)
    · exact Or.inl (List.mem_map.mpr ⟨(q, e), List.mem_of_getElem? h, rfl⟩)
    · exact Or.inr h
  · rintro (h | h)
    · obtain ⟨⟨a, e⟩, hm, rfl⟩ := List.mem_map.mp h
      obtain ⟨k, hk⟩ := List.getElem?_of_mem hm
      exact Or.inl ⟨k, e, hk⟩
    · exact Or.inr h
-- the judgement
def gTy (cy : Nat → ClassId) : List (ClassId × FieldType) := [(cy 0, .int), (cy 1, .char), (cy 2, .boolean), (cy 3, .object "CopiedFire$Sheet"), (cy 4, .object "CopiedFire$Slot"), (cy 5, .object "CopiedFire$Text")]
/-- what is kept beside the world: nest words, a static array, two statics, six text constants -/
def kab (j : Nat) : Int32 := ([0, 0, 0, 1, 2, 0] : List Int32).getD j 0
def sLen : List Nat := [4, 3, 4, 3, 2, 2]
def sByt : List (List Int32) := [[98, 117, 114, 110], [102, 101, 101], [102, 105, 110, 101], [102, 104, 110], [98, 97], [102, 114]]
def sIx : List Nat := [82, 88, 90, 100, 102, 104]
def sTx : List String := ["burn", "fee", "fine", "fhn", "ba", "fr"]
def gY (A : Nat → Prop) (ad : Nat → Nat) (U : State) : Prop := gNw U ∧ va_Z "CopiedFire" "KIND_ABOVE" "[I" (.ref (ad 300000)) A U U.heap ∧ va_T .int (ad 300000) 6 (fun j => .int (kab j)) A U U.heap ∧ va_Z "java/lang/String" "COMPACT_STRINGS" "Z" (.int 1) A U U.heap ∧ va_Zq "jdk/internal/util/Preconditions" "SIOOBE_FORMATTER" "Ljava/util/function/BiFunction;" A U U.heap ∧ vk_S 6 sLen sByt (fun i => ad (100000 + i)) (fun i => ad (200000 + i)) A U U.heap ∧ ∀ i, i < 6 → vk_R "CopiedFire$Reader" (sIx.getD i 0) (sTx.getD i "") (ad (100000 + i)) U
theorem gY.nw {A : Nat → Prop} {ad : Nat → Nat} {U : State} (h : gY A ad U) : gNw U := h.1
theorem gY.use {A : Nat → Prop} {ad : Nat → Nat} {U : State} (h : gY A ad U) {w : Cond} (hw : w ∈ NW) (args : Array Value) : w.before args U = true := h.nw.use hw args
theorem gY.weaken {A B : Nat → Prop} {ad : Nat → Nat} {U : State} (hAB : ∀ q, B q → A q) (h : gY A ad U) : gY B ad U := by
  obtain ⟨h1, h2, h3, h4, h5, h6, h7⟩ := h
  exact ⟨h1, h2.narrow hAB, h3.narrow hAB, h4.narrow hAB, h5.narrow hAB, h6.narrow hAB, h7⟩
theorem gY.moved {A : Nat → Prop} {ad : Nat → Nat} {U V : State} {H : Heap} {locs : List Loc} (hW : U.WarmedH V.vm) (hS : va_S A U.heap H locs) (hH : V.heap = H) (h : gY A ad U) : gY A ad V := by
  obtain ⟨h1, h2, h3, h4, h5, h6, h7⟩ := h
  subst hH
  exact ⟨gNw.warm hW h1, (h2.moved hW.alike).kept hS.2.1, (h3.moved hW.alike).kept hS.2.1, (h4.moved hW.alike).kept hS.2.1, (h5.moved hW.alike).kept hS.2.1, (h6.moved hW.alike).kept hS.2.1, fun i hi => (h7 i hi).warm hW⟩
theorem gY.same {A : Nat → Prop} {ad : Nat → Nat} {U V : State} (hv : U.vm = V.vm) (hH : U.heap = V.heap) (h : gY A ad U) : gY A ad V := by
  obtain ⟨h1, h2, h3, h4, h5, h6, h7⟩ := h
  have ha : U.vm.Alike V.vm := hv ▸ Vm.Alike.refl U.vm
  rw [hH] at h2 h3 h4 h5 h6
  exact ⟨gNw.same hv h1, h2.moved ha, h3.moved ha, h4.moved ha, h5.moved ha, h6.moved ha, fun i hi => (h7 i hi).same hv.symm⟩
def gPre (D : va_G) (cy : Nat → ClassId) (ad : Nat → Nat) (ws : va_W) (A : Nat → Prop) (U : State) : Prop := va_P D vwCl ws U.heap ∧ va_K D vwCl (gTy cy) U ∧ va_D (fun _ => True) ws ∧ gY A ad U
def gB (D : va_G) (cy : Nat → ClassId) (Z : List gH) (ad : Nat → Nat) (σ : gS) (t : State) : Prop := va_P D vwCl (gW cy Z ad σ) t.heap
def gQ (rt : Option FieldType) (B : gS → State → Prop) (A : Nat → Prop) (z : Int32 × gS) : Array Value → State → Outcome → State → Prop := match rt with
  | none => va_Qv (fun u : gS => u = z.2) B A
  | some _ => va_Qi (fun (r : Int32) (u : gS) => (r, u) = z) B A
/-- the room of a method of height L that makes nothing -/
def gR (L : Nat) : Room := { frames := L, cells := 0, slots := 0, locals := 64 * L }
/-- the contract of a method that makes nothing: what F gives, the bytecode does -/
def gMet (y : MethodName) (cc : ByteArray) (nL : Nat) (rt : Option FieldType) (L : Nat) (Z : List gH) (av : (Nat → Nat) → List Value) (F : gS → Option (Int32 × gS)) : Prop :=
  ∀ (l : Launch) (D : va_G) (cy : Nat → ClassId) (ad : Nat → Nat) (sz : Nat) (σ : gS) (z : Int32 × gS), F σ = some z →
    Met l y (Cond.code y cc nL rt :: TB) (gR L) (va_Pc (av ad) (fun U => U.heap.size = sz ∧ gPre D cy ad (gW cy Z ad σ) (va_A (gW cy Z ad σ) sz) U)) (gQ rt (gB D cy Z ad) (va_A (gW cy Z ad σ) sz) z) 0 0 (va_A (gW cy Z ad σ) sz)
def gJ (p : Program) (l : Launch) (e : Env) (R : Room) (s : State) (m : MethodId) (args : Array Value) (below : List Frame) (meth : Method) (c : Code) (Q : State → Prop) (A : Nat → Prop) (nL : Nat) (D : va_G) (cy : Nat → ClassId) (Z : List gH) (ad : Nat → Nat) (nc ns : Nat) (pc : Nat) (ls : List (Nat × Value)) (st : List Value) (σ : gS) : Prop :=
  ∀ (H : Heap) (locs : List Loc) (la : Array Slot), va_P D vwCl (gW cy Z ad σ) H → va_D A (gW cy Z ad σ) → va_S A s.heap H locs → lv_has la nL ls → W p l e R s m args below meth c H locs nc ns Q (F0 m pc la st)
/-- g is a good judgement of a method's body: its instructions, class, layout, room; Q is the end -/
def gOkQ (g : Nat → List (Nat × Value) → List Value → gS → Prop) (T : List (Nat × Instr × Nat)) (own : String) (nL : Nat) (rt : Option FieldType) (R : Room) (Z : List gH) (ad : Nat → Nat) (nc ns : Nat) (E : (p : Program) → (l : Launch) → (e : Env) → (s : State) → (m : MethodId) → (args : Array Value) → (below : List Frame) → (meth : Method) → (c : Code) → (A : Nat → Prop) → (D : va_G) → (cy : Nat → ClassId) → (Q : State → Prop) → Prop) : Prop :=
  ∃ (p : Program) (l : Launch) (e : Env) (s : State) (m : MethodId) (args : Array Value) (below : List Frame) (meth : Method) (c : Code) (A : Nat → Prop) (D : va_G) (cy : Nat → ClassId) (Q : State → Prop),
    p.tables.exec = Jvm.exec ∧ (∀ (j pc : Nat) (i : Instr) (n : Nat), T[j]? = some (pc, i, n) → decode c.code pc = .ok (i, n)) ∧ meth.sig.returnType = rt ∧ c.maxLocals = nL ∧ s.vm.findClass own = some m.cls ∧ (∀ w ∈ TB, w.before args s = true) ∧ meth.locks = false ∧ va_K D vwCl (gTy cy) s ∧ (∀ q, s.heap.size ≤ q → A q) ∧ gY A ad s ∧ E p l e s m args below meth c A D cy Q ∧ nc ≤ R.cells ∧ ns ≤ R.slots ∧
    g = gJ p l e R s m args below meth c Q A nL D cy Z ad nc ns
abbrev gOk (g : Nat → List (Nat × Value) → List Value → gS → Prop) (T : List (Nat × Instr × Nat)) (own : String) (nL : Nat) (rt : Option FieldType) (L : Nat) (Z : List gH) (ad : Nat → Nat) (z : Int32 × gS) : Prop :=
  gOkQ g T own nL rt (gR L) Z ad 0 0 (fun _ _ _ s _ args below _ _ A D cy Q => Q = MQ below (gQ rt (gB D cy Z ad) A z) args s 0 0 A)
def gTb (cc : ByteArray) (T : List (Nat × Instr × Nat)) : Bool := T.all (fun q => decide (decode cc q.1 = .ok q.2))
theorem gTb_ok {cc : ByteArray} {T : List (Nat × Instr × Nat)} (h : gTb cc T = true) (j pc : Nat) (i : Instr) (n : Nat) (hj : T[j]? = some (pc, i, n)) : decode cc pc = .ok (i, n) :=
  of_decide_eq_true (List.all_eq_true.mp h (pc, i, n) (List.mem_of_getElem? hj))
theorem gMet_intro {y : MethodName} {cc : ByteArray} {nL : Nat} {rt : Option FieldType} {L : Nat} {Z : List gH} {av : (Nat → Nat) → List Value} {F : gS → Option (Int32 × gS)} (T : List (Nat × Instr × Nat)) (hT : gTb cc T = true) (hy : plainName y.cls = true) (hn : ∀ ad, (lg_sl (av ad)).length ≤ nL)
    (body : ∀ (g : Nat → List (Nat × Value) → List Value → gS → Prop) (ad : Nat → Nat) (σ : gS) (z : Int32 × gS), gOk g T y.cls nL rt L Z ad z → F σ = some z → g 0 (lv_args 0 (av ad)) [] σ) : gMet y cc nL rt L Z av F := by
  intro l D cy ad sz σ z hF
  refine Met.ofW (cc := cc) (maxL := nL) (ret := rt) hy rfl ?_
  intro p e s m args below meth c s₁ B hml hv
  obtain ⟨rfl, hsz, hP, hK, hD0, hY⟩ := hv
  subst hsz
  have hts := atoms_spec (ws := Cond.code y cc nL rt :: TB) B.pre
  have hown : s.vm.findClass y.cls = some m.cls := findClass_of_methodNamed B.named
  have hD := hD0.self (sz := s.heap.size)
  have hl := lv_entry (av ad) (n := nL) (hn ad)
  rw [lg_entry_eq]
  have hTT : ∀ (j pc : Nat) (i : Instr) (n : Nat), T[j]? = some (pc, i, n) → decode c.code pc = .ok (i, n) := by
    rw [B.bytes]; exact gTb_ok hT
  exact body _ ad σ z ⟨p, l, e, s, m, _, below, meth, c, va_A (gW cy Z ad σ) s.heap.size, D, cy, _, B.exec, hTT, B.returns, hml, hown, fun w hw => hts w (List.mem_cons_of_mem _ hw), B.notSynchronized, hK, fun q h => Or.inr h, hY, rfl, Nat.le_refl _, Nat.le_refl _, rfl⟩ hF _ _ _ hP hD va_S.rf hl
