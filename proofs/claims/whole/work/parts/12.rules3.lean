/-! ===== making cells: the layout grows, the addresses of the old cells stay ===== -/
def gclH (n : Nat) (h : gH) : Prop := match h with
  | .inl (_, fs) => ∀ (k r : Nat), fs[k]? = some (some (some r)) → r < n
  | .inr (_, _, none) => True
  | .inr (_, _, some rs) => ∀ (k r : Nat), rs k = some r → r < n
/-- the references of the cells lead to cells -/
def gcl (Z : List gH) (n : Nat) : Prop := ∀ (i : Nat) (h : gH), Z[i]? = some h → gclH n h
theorem gclH.mono {n m : Nat} {h : gH} (hnm : n ≤ m) (hc : gclH n h) : gclH m h := by
  match h, hc with
  | .inl (_, fs), hc => exact fun k r e => Nat.lt_of_lt_of_le (hc k r e) hnm
  | .inr (_, _, none), _ => exact trivial
  | .inr (_, _, some rs), hc => exact fun k r e => Nat.lt_of_lt_of_le (hc k r e) hnm
theorem gcl.push {Z : List gH} {n : Nat} {h : gH} (hc : gcl Z n) (hh : gclH (n + 1) h) : gcl (Z ++ [h]) (n + 1) := by
  intro i q hq
  by_cases hi : i < Z.length
  · rw [List.getElem?_append_left hi] at hq
    exact (hc i q hq).mono (Nat.le_succ n)
  · rw [List.getElem?_append_right (by omega)] at hq
    have hm : q ∈ [h] := List.mem_of_getElem? hq
    rw [List.mem_singleton] at hm
    subst hm
    exact hh
theorem gcl.set {Z : List gH} {n c : Nat} {h : gH} (hc : gcl Z n) (hh : gclH n h) : gcl (Z.set c h) n := by
  intro i q hq
  rw [List.getElem?_set] at hq
  by_cases hi : c = i
  · rw [if_pos hi] at hq
    by_cases hl : c < Z.length
    · rw [if_pos hl] at hq
      obtain rfl := Option.some.inj hq
      exact hh
    · rw [if_neg hl] at hq
      cases hq
  · rw [if_neg hi] at hq
    exact hc i q hq
/-- the addresses agree on the first n cells and on the constants -/
def AG (n : Nat) (ad ad' : Nat → Nat) : Prop := ∀ i, (i < n ∨ 100000 ≤ i) → ad' i = ad i
theorem AG.rf {n : Nat} {ad : Nat → Nat} : AG n ad ad := fun _ _ => rfl
theorem AG.trans {n m : Nat} {a b c : Nat → Nat} (hnm : n ≤ m) (h1 : AG n a b) (h2 : AG m b c) : AG n a c := fun i hi => (h2 i (by omega)).trans (h1 i hi)
theorem gE_ag {cy : Nat → ClassId} {n : Nat} {ad ad' : Nat → Nat} {h : gH} {f : Nat → Int32} (ha : AG n ad ad') (hc : gclH n h) : gE cy ad' h f = gE cy ad h f := by
  match h, hc with
  | .inl (ci, fs), hc =>
    show Sum.inr (ci, fs.mapIdx (gV ad' f)) = Sum.inr (ci, fs.mapIdx (gV ad f))
    congr 2
    apply List.ext_getElem?
    intro k
    rw [List.getElem?_mapIdx, List.getElem?_mapIdx]
    cases hk : fs[k]? with
    | none => rfl
    | some o =>
      match o, hk with
      | none, _ => rfl
      | some none, _ => rfl
      | some (some r), hk =>
        show some (va_rf (some (ad' r))) = some (va_rf (some (ad r)))
        rw [ha r (Or.inl (hc k r hk))]
  | .inr (t, m, none), _ => rfl
  | .inr (t, m, some rs), hc =>
    show Sum.inl (cy t, m, Sum.inr (Sum.inr (Sum.inr (Sum.inr (fun k => (rs k).map ad'))))) = Sum.inl (cy t, m, Sum.inr (Sum.inr (Sum.inr (Sum.inr (fun k => (rs k).map ad)))))
    have e : (fun k => (rs k).map ad') = (fun k => (rs k).map ad) := by
      funext k
      cases hk : rs k with
      | none => rfl
      | some r => show some (ad' r) = some (ad r); rw [ha r (Or.inl (hc k r hk))]
    rw [e]
theorem gW_ag {cy : Nat → ClassId} {Z : List gH} {n : Nat} {ad ad' : Nat → Nat} {σ σ' : gS} (hn : Z.length ≤ n) (ha : AG n ad ad') (hc : gcl Z n) (hs : ∀ i, i < Z.length → σ' i = σ i) : gW cy Z ad' σ' = gW cy Z ad σ := by
  unfold gW
  apply List.ext_getElem?
  intro i
  rw [List.getElem?_mapIdx, List.getElem?_mapIdx]
  cases hi : Z[i]? with
  | none => rfl
  | some h =>
    have hl : i < Z.length := (List.getElem?_eq_some_iff.mp hi).1
    show some (ad' i, gE cy ad' h (σ' i)) = some (ad i, gE cy ad h (σ i))
    rw [ha i (Or.inl (by omega)), gE_ag ha (hc i h hi), hs i hl]
theorem gW_push {cy : Nat → ClassId} {Z : List gH} {n q : Nat} {ad : Nat → Nat} {σ : gS} {h : gH} {f : Nat → Int32} (hn : Z.length = n) (hc : gcl Z n) (hh : gclH n h) (hn2 : n < 100000) : gW cy (Z ++ [h]) (va_up ad n q) (gp σ n f) = gW cy Z ad σ ++ [(q, gE cy ad h f)] := by
  have ha : AG n ad (va_up ad n q) := fun i hi => if_neg (by omega)
  unfold gW
  rw [List.mapIdx_append]
  congr 1
  · exact gW_ag (by omega) ha hc (fun i hi => if_neg (by omega))
  · show [gCell cy (va_up ad n q) (gp σ n f) (0 + Z.length) h] = _
    rw [Nat.zero_add, hn]
    show [(va_up ad n q n, gE cy (va_up ad n q) h (gp σ n f n))] = _
    rw [gE_ag ha hh]
    simp [va_up, gp]
theorem AG.up {n q : Nat} {ad : Nat → Nat} (hn2 : n < 100000) : AG n ad (va_up ad n q) := fun i hi => if_neg (by omega)
theorem gY.ag {A : Nat → Prop} {n : Nat} {ad ad' : Nat → Nat} {U : State} (ha : AG n ad ad') (h : gY A ad U) : gY A ad' U := by
  obtain ⟨h1, h2, h3, h4, h5, h6, h7⟩ := h
  have e1 : ad' 300000 = ad 300000 := ha _ (Or.inr (by decide))
  have e2 : (fun i => ad' (100000 + i)) = (fun i => ad (100000 + i)) := by funext i; exact ha _ (Or.inr (by omega))
  have e3 : (fun i => ad' (200000 + i)) = (fun i => ad (200000 + i)) := by funext i; exact ha _ (Or.inr (by omega))
  refine ⟨h1, by rw [e1]; exact h2, by rw [e1]; exact h3, h4, h5, by rw [e2, e3]; exact h6, fun i hi => ?_⟩
  rw [ha _ (Or.inr (by omega))]
  exact h7 i hi
theorem gCy {U : State} {D : va_G} {cl : List vw_C} {cy : Nat → ClassId} {tys : List (ClassId × FieldType)} {cA : ClassId} {ty : FieldType} {t : Nat} (hK : va_K D cl tys U) (ht : tys[t]? = some (cy t, ty)) (hK2 : va_K D cl (tys ++ [(cA, ty)]) U) : cA = cy t := by
  have h1 := (hK.2 t _ ht).2
  have h2 := (hK2.2 tys.length (cA, ty) (by simp)).2
  have key : ∀ c : ClassId, va_RA U c ty → U.vm.findClass ("[" ++ ty.toString) = some c := by
    intro c hc
    cases ty with
    | object C => obtain ⟨kA, comp, q1, q2, q3, q4⟩ := hc; exact q4
    | _ => exact hc
  exact Option.some.inj ((key _ h2).symm.trans (key _ h1))
section
variable {g : Nat → List (Nat × Value) → List Value → gS → Prop} {T : List (Nat × Instr × Nat)} {own : String} {nL : Nat} {rt : Option FieldType} {R : Room} {Z : List gH} {ad : Nat → Nat} {nc ns : Nat} {E : (p : Program) → (l : Launch) → (e : Env) → (s : State) → (m : MethodId) → (args : Array Value) → (below : List Frame) → (meth : Method) → (c : Code) → (A : Nat → Prop) → (D : va_G) → (cy : Nat → ClassId) → (Q : State → Prop) → Prop} {pc : Nat} {ls : List (Nat × Value)} {st : List Value} {σ : gS} {α : Type} {z : α}
theorem g2_new (C : gOkQ g T own nL rt R Z ad nc ns E) (j : Nat) {index ci N n : Nat} {CN : String} {TN : u_T} (fs : List (Option (Option Nat))) (hd : T[j]? = some (pc, .new index, 3)) (hcl : vwCl[ci]? = some (CN, TN, N)) (hin : ∀ w ∈ u_ws CN TN N, w ∈ TB) (ty : Nat → FieldType) (hty : ∀ k, k < N → parseFieldDescriptor (TN k).2.2.1 = some (ty k)) (hlk0 : Cond.classLink own index CN ∈ TB) (hins : Cond.instantiable CN N ∈ TB ∧ Cond.initialized CN ∈ TB) (hfs : ∀ i, i < N → (fs[i]? = some none ∧ defaultValue (ty i) = .int 0) ∨ (fs[i]? = some (some none) ∧ defaultValue (ty i) = .null)) (hnr : ∀ (k r : Nat), fs[k]? ≠ some (some (some r))) (hn : Z.length = n) (hn2 : n < 100000) (hgc : gcl Z n) (hc1 : nc + 1 ≤ R.cells) (hs1 : ns + N ≤ R.slots) (lsf : (Nat → Nat) → List (Nat × Value)) (stf : (Nat → Nat) → List Value) (hls : lsf ad = ls) (hst : stf ad = st) (hag : ∀ ad2, AG n ad ad2 → lsf ad2 = lsf ad ∧ stf ad2 = stf ad) (Z2 : List gH) (hZ2 : Z ++ [.inl (ci, fs)] = Z2) (k : ∀ ad2 g2, AG n ad ad2 → gOkQ g2 T own nL rt R Z2 ad2 (nc + 1) (ns + N) E → gcl Z2 (n + 1) → g2 (pc + 3) (lsf ad2) (.ref (ad2 n) :: stf ad2) (gp σ n (fun _ => 0))) : g pc ls st σ := by
  obtain ⟨p, l, e, s, m, args, below, meth, c, A, D, cy, Q, hx, hT, hr, hml, hown, hts, hlk, hK, hA, hY, hE, hnc, hns, rfl⟩ := C
  intro H locs la hP hD hS hl
  have hh : gclH n (.inl (ci, fs)) := fun k r h => absurd h (hnr k r)
  have hdef : ∀ i, i < N → defaultValue (ty i) = vp_V (fs.mapIdx (gV ad (fun _ => 0))) i := by
    intro i hi
    have e0 : (fs.mapIdx (gV ad (fun _ => 0)))[i]? = fs[i]?.map (gV ad (fun _ => 0) i) := List.getElem?_mapIdx
    rcases hfs i hi with ⟨h1, h2⟩ | ⟨h1, h2⟩
    · rw [h2]; unfold vp_V; rw [List.getD_eq_getElem?_getD, e0, h1]; rfl
    · rw [h2]; unfold vp_V; rw [List.getD_eq_getElem?_getD, e0, h1]; rfl
  refine va_new hx rfl hts hin ty hty hown (hts _ hlk0) (hts _ hins.1) (hts _ hins.2) hK hP hD hS hA hcl hdef hc1 hs1 (hT j _ _ _ hd) (fun q H1 hP1 hD1 hS1 => ?_)
  subst hZ2
  have ew : gW cy (Z ++ [.inl (ci, fs)]) (va_up ad n q) (gp σ n (fun _ => 0)) = gW cy Z ad σ ++ [(q, .inr (ci, fs.mapIdx (gV ad (fun _ => 0))))] := gW_push hn hgc hh hn2
  rw [← ew] at hP1 hD1
  obtain ⟨e1, e2⟩ := hag _ (AG.up (q := q) hn2)
  have kk := k (va_up ad n q) _ (AG.up hn2) ⟨p, l, e, s, m, args, below, meth, c, A, D, cy, Q, hx, hT, hr, hml, hown, hts, hlk, hK, hA, gY.ag (AG.up hn2) hY, hE, hc1, hs1, rfl⟩ (hgc.push (hh.mono (Nat.le_succ n)))
  have eq : va_up ad n q n = q := by simp [va_up]
  rw [e1, e2, hls, hst, eq] at kk
  exact kk H1 locs la hP1 hD1 hS1 hl
theorem g2_newi (C : gOkQ g T own nL rt R Z ad nc ns E) (j : Nat) {x : Int32} {N n : Nat} (hd : T[j]? = some (pc, .newarray .int, 2)) (hw : Cond.arrayClass .int ∈ TB) (hx0 : ¬ x < 0) (hN : nn x = N) (hb : N * componentBytes .int ≤ 536870912) (hn : Z.length = n) (hn2 : n < 100000) (hgc : gcl Z n) (hc1 : nc + 1 ≤ R.cells) (hs1 : ns + N ≤ R.slots) (lsf : (Nat → Nat) → List (Nat × Value)) (stf : (Nat → Nat) → List Value) (hls : lsf ad = ls) (hst : stf ad = st) (hag : ∀ ad2, AG n ad ad2 → lsf ad2 = lsf ad ∧ stf ad2 = stf ad) (Z2 : List gH) (hZ2 : Z ++ [.inr (0, N, none)] = Z2) (k : ∀ ad2 g2, AG n ad ad2 → gOkQ g2 T own nL rt R Z2 ad2 (nc + 1) (ns + N) E → gcl Z2 (n + 1) → g2 (pc + 2) (lsf ad2) (.ref (ad2 n) :: stf ad2) (gp σ n (fun _ => 0))) : g pc ls (.int x :: st) σ := by
  obtain ⟨p, l, e, s, m, args, below, meth, c, A, D, cy, Q, hx, hT, hr, hml, hown, hts, hlk, hK, hA, hY, hE, hnc, hns, rfl⟩ := C
  intro H locs la hP hD hS hl
  refine va_newa (atype := .int) (ty := .int) (a0 := (N, .inl (fun _ => 0))) hx rfl (hts _ hw) rfl hK hP hD hS hA (fun _ => rfl) hx0 hN hb hc1 hs1 (hT j _ _ _ hd) (fun q cA H1 hK1 hP1 hD1 hS1 => ?_)
  obtain rfl : cA = cy 0 := gCy (t := 0) hK rfl hK1
  subst hZ2
  have ew : gW cy (Z ++ [.inr (0, N, none)]) (va_up ad n q) (gp σ n (fun _ => 0)) = gW cy Z ad σ ++ [(q, .inl (cy 0, N, .inl (fun _ => 0)))] := gW_push hn hgc trivial hn2
  rw [← ew] at hP1 hD1
  obtain ⟨e1, e2⟩ := hag _ (AG.up (q := q) hn2)
  have kk := k (va_up ad n q) _ (AG.up hn2) ⟨p, l, e, s, m, args, below, meth, c, A, D, cy, Q, hx, hT, hr, hml, hown, hts, hlk, hK, hA, gY.ag (AG.up hn2) hY, hE, hc1, hs1, rfl⟩ (hgc.push trivial)
  have eq : va_up ad n q n = q := by simp [va_up]
  rw [e1, e2, hls, hst, eq] at kk
  exact kk H1 locs la hP1 hD1 hS1 hl
theorem g2_newc (C : gOkQ g T own nL rt R Z ad nc ns E) (j : Nat) {x : Int32} {N n : Nat} (hd : T[j]? = some (pc, .newarray .char, 2)) (hw : Cond.arrayClass .char ∈ TB) (hx0 : ¬ x < 0) (hN : nn x = N) (hb : N * componentBytes .char ≤ 536870912) (hn : Z.length = n) (hn2 : n < 100000) (hgc : gcl Z n) (hc1 : nc + 1 ≤ R.cells) (hs1 : ns + N ≤ R.slots) (lsf : (Nat → Nat) → List (Nat × Value)) (stf : (Nat → Nat) → List Value) (hls : lsf ad = ls) (hst : stf ad = st) (hag : ∀ ad2, AG n ad ad2 → lsf ad2 = lsf ad ∧ stf ad2 = stf ad) (Z2 : List gH) (hZ2 : Z ++ [.inr (1, N, none)] = Z2) (k : ∀ ad2 g2, AG n ad ad2 → gOkQ g2 T own nL rt R Z2 ad2 (nc + 1) (ns + N) E → gcl Z2 (n + 1) → g2 (pc + 2) (lsf ad2) (.ref (ad2 n) :: stf ad2) (gp σ n (fun _ => 0))) : g pc ls (.int x :: st) σ := by
  obtain ⟨p, l, e, s, m, args, below, meth, c, A, D, cy, Q, hx, hT, hr, hml, hown, hts, hlk, hK, hA, hY, hE, hnc, hns, rfl⟩ := C
  intro H locs la hP hD hS hl
  refine va_newa (atype := .char) (ty := .char) (a0 := (N, .inl (fun _ => 0))) hx rfl (hts _ hw) rfl hK hP hD hS hA (fun _ => rfl) hx0 hN hb hc1 hs1 (hT j _ _ _ hd) (fun q cA H1 hK1 hP1 hD1 hS1 => ?_)
  obtain rfl : cA = cy 1 := gCy (t := 1) hK rfl hK1
  subst hZ2
  have ew : gW cy (Z ++ [.inr (1, N, none)]) (va_up ad n q) (gp σ n (fun _ => 0)) = gW cy Z ad σ ++ [(q, .inl (cy 1, N, .inl (fun _ => 0)))] := gW_push hn hgc trivial hn2
  rw [← ew] at hP1 hD1
  obtain ⟨e1, e2⟩ := hag _ (AG.up (q := q) hn2)
  have kk := k (va_up ad n q) _ (AG.up hn2) ⟨p, l, e, s, m, args, below, meth, c, A, D, cy, Q, hx, hT, hr, hml, hown, hts, hlk, hK, hA, gY.ag (AG.up hn2) hY, hE, hc1, hs1, rfl⟩ (hgc.push trivial)
  have eq : va_up ad n q n = q := by simp [va_up]
  rw [e1, e2, hls, hst, eq] at kk
  exact kk H1 locs la hP1 hD1 hS1 hl
theorem g2_newz (C : gOkQ g T own nL rt R Z ad nc ns E) (j : Nat) {x : Int32} {N n : Nat} (hd : T[j]? = some (pc, .newarray .boolean, 2)) (hw : Cond.arrayClass .boolean ∈ TB) (hx0 : ¬ x < 0) (hN : nn x = N) (hb : N * componentBytes .boolean ≤ 536870912) (hn : Z.length = n) (hn2 : n < 100000) (hgc : gcl Z n) (hc1 : nc + 1 ≤ R.cells) (hs1 : ns + N ≤ R.slots) (lsf : (Nat → Nat) → List (Nat × Value)) (stf : (Nat → Nat) → List Value) (hls : lsf ad = ls) (hst : stf ad = st) (hag : ∀ ad2, AG n ad ad2 → lsf ad2 = lsf ad ∧ stf ad2 = stf ad) (Z2 : List gH) (hZ2 : Z ++ [.inr (2, N, none)] = Z2) (k : ∀ ad2 g2, AG n ad ad2 → gOkQ g2 T own nL rt R Z2 ad2 (nc + 1) (ns + N) E → gcl Z2 (n + 1) → g2 (pc + 2) (lsf ad2) (.ref (ad2 n) :: stf ad2) (gp σ n (fun _ => 0))) : g pc ls (.int x :: st) σ := by
  obtain ⟨p, l, e, s, m, args, below, meth, c, A, D, cy, Q, hx, hT, hr, hml, hown, hts, hlk, hK, hA, hY, hE, hnc, hns, rfl⟩ := C
  intro H locs la hP hD hS hl
  refine va_newa (atype := .boolean) (ty := .boolean) (a0 := (N, .inl (fun _ => 0))) hx rfl (hts _ hw) rfl hK hP hD hS hA (fun _ => rfl) hx0 hN hb hc1 hs1 (hT j _ _ _ hd) (fun q cA H1 hK1 hP1 hD1 hS1 => ?_)
  obtain rfl : cA = cy 2 := gCy (t := 2) hK rfl hK1
  subst hZ2
  have ew : gW cy (Z ++ [.inr (2, N, none)]) (va_up ad n q) (gp σ n (fun _ => 0)) = gW cy Z ad σ ++ [(q, .inl (cy 2, N, .inl (fun _ => 0)))] := gW_push hn hgc trivial hn2
  rw [← ew] at hP1 hD1
  obtain ⟨e1, e2⟩ := hag _ (AG.up (q := q) hn2)
  have kk := k (va_up ad n q) _ (AG.up hn2) ⟨p, l, e, s, m, args, below, meth, c, A, D, cy, Q, hx, hT, hr, hml, hown, hts, hlk, hK, hA, gY.ag (AG.up hn2) hY, hE, hc1, hs1, rfl⟩ (hgc.push trivial)
  have eq : va_up ad n q n = q := by simp [va_up]
  rw [e1, e2, hls, hst, eq] at kk
  exact kk H1 locs la hP1 hD1 hS1 hl
theorem g2_newq (C : gOkQ g T own nL rt R Z ad nc ns E) (j : Nat) {index N n t : Nat} {x : Int32} {CN : String} (hd : T[j]? = some (pc, .anewarray index, 3)) (ht : ∀ cy, (gTy cy)[t]? = some (cy t, .object CN)) (hlk0 : Cond.classLink own index CN ∈ TB) (hov : Cond.arrayOver (.object CN) ∈ NW) (hx0 : ¬ x < 0) (hN : nn x = N) (hb : N * 4 ≤ 536870912) (hn : Z.length = n) (hn2 : n < 100000) (hgc : gcl Z n) (hc1 : nc + 1 ≤ R.cells) (hs1 : ns + N ≤ R.slots) (lsf : (Nat → Nat) → List (Nat × Value)) (stf : (Nat → Nat) → List Value) (hls : lsf ad = ls) (hst : stf ad = st) (hag : ∀ ad2, AG n ad ad2 → lsf ad2 = lsf ad ∧ stf ad2 = stf ad) (Z2 : List gH) (hZ2 : Z ++ [.inr (t, N, some (fun _ => none))] = Z2) (k : ∀ ad2 g2, AG n ad ad2 → gOkQ g2 T own nL rt R Z2 ad2 (nc + 1) (ns + N) E → gcl Z2 (n + 1) → g2 (pc + 3) (lsf ad2) (.ref (ad2 n) :: stf ad2) (gp σ n (fun _ => 0))) : g pc ls (.int x :: st) σ := by
  obtain ⟨p, l, e, s, m, args, below, meth, c, A, D, cy, Q, hx, hT, hr, hml, hown, hts, hlk, hK, hA, hY, hE, hnc, hns, rfl⟩ := C
  intro H locs la hP hD hS hl
  have hh : gclH n (.inr (t, N, some (fun _ => none))) := fun k r h => by cases h
  refine va_newq hx rfl hown (hts _ hlk0) (va_AO.of (hY.use hov args)) hK hP hD hS hA hx0 hN hb hc1 hs1 (hT j _ _ _ hd) (fun q cA H1 hK1 hP1 hD1 hS1 => ?_)
  obtain rfl : cA = cy t := gCy (t := t) hK (ht cy) hK1
  subst hZ2
  have ew : gW cy (Z ++ [.inr (t, N, some (fun _ => none))]) (va_up ad n q) (gp σ n (fun _ => 0)) = gW cy Z ad σ ++ [(q, .inl (cy t, N, .inr (.inr (.inr (.inr (fun _ => none))))))] := gW_push hn hgc hh hn2
  rw [← ew] at hP1 hD1
  obtain ⟨e1, e2⟩ := hag _ (AG.up (q := q) hn2)
  have kk := k (va_up ad n q) _ (AG.up hn2) ⟨p, l, e, s, m, args, below, meth, c, A, D, cy, Q, hx, hT, hr, hml, hown, hts, hlk, hK, hA, gY.ag (AG.up hn2) hY, hE, hc1, hs1, rfl⟩ (hgc.push (hh.mono (Nat.le_succ n)))
  have eq : va_up ad n q n = q := by simp [va_up]
  rw [e1, e2, hls, hst, eq] at kk
  exact kk H1 locs la hP1 hD1 hS1 hl
theorem g2_oi (C : gOkQ g T own nL rt R Z ad nc ns E) (j : Nat) {index a : Nat} (hd : T[j]? = some (pc, .invokespecial index, 3)) (hw : Cond.methodLink own index Lib.objectInit ∈ TB) (hw2 : Cond.instanceMethod Lib.objectInit ∈ TB ∧ Cond.code Lib.objectInit ⟨#[0xb1]⟩ 1 none ∈ TB) (hR : 1 ≤ R.frames ∧ (st.map fun v => v.category).sum + 12 ≤ R.locals) (k : g (pc + 3) ls st σ) : g pc ls (.ref (ad a) :: st) σ := by
  obtain ⟨p, l, e, s, m, args, below, meth, c, A, D, cy, Q, hx, hT, hr, hml, hown, hts, hlk, hK, hA, hY, hE, hnc, hns, rfl⟩ := C
  intro H locs la hP hD hS hl
  exact W.objInit hx rfl hown (hts _ hw) (hts _ hw2.1) (hts _ hw2.2) rfl (hl.1.trans hml.symm) rfl (hT j _ _ _ hd) hR.1 (by show 2 * 0 + _ + 12 ≤ _; omega) (k H locs la hP hD hS hl)
/-- a final field, written in its constructor -/
def gFf (own : String) (index ci k : Nat) (ty : FieldType) : Prop := ∃ (T : u_T) (N : Nat), vwCl[ci]? = some (own, T, N) ∧ k < N ∧ (∀ w ∈ u_ws own T N, w ∈ TB) ∧ (∃ ty0 : Nat → FieldType, ∀ k, k < N → parseFieldDescriptor (T k).2.2.1 = some (ty0 k)) ∧ (∀ a, a < N → ∀ b, b < N → a ≠ b → (T a).2.1 ≠ (T b).2.1) ∧ (T k).2.2.2 = true ∧ (T k).1 = own ∧ parseFieldDescriptor (T k).2.2.1 = some ty ∧ Cond.fieldLink own index (T k).1 (T k).2.1 (T k).2.2.1 ∈ TB
theorem gV_setr {ad : Nat → Nat} {f : Nat → Int32} {fs : List (Option (Option Nat))} {k b : Nat} (hk : k < fs.length) : (fs.mapIdx (gV ad f)).set k (.ref (ad b)) = (fs.set k (some (some b))).mapIdx (gV ad f) := by
  apply List.ext_getElem?
  intro j
  rw [List.getElem?_set, List.getElem?_mapIdx, List.getElem?_mapIdx, List.getElem?_set]
  by_cases hj : k = j
  · subst hj
    rw [if_pos rfl, if_pos (by simpa using hk), if_pos rfl, if_pos hk]
    rfl
  · rw [if_neg hj, if_neg hj]
theorem gW_setZ {cy : Nat → ClassId} {Z : List gH} {ad : Nat → Nat} {σ : gS} {i : Nat} {h : gH} (hi : i < Z.length) : (gW cy Z ad σ).set i (ad i, gE cy ad h (σ i)) = gW cy (Z.set i h) ad σ := by
  unfold gW
  apply List.ext_getElem?
  intro j
  rw [List.getElem?_set, List.getElem?_mapIdx, List.getElem?_mapIdx, List.getElem?_set]
  by_cases hj : i = j
  · subst hj
    rw [if_pos rfl, if_pos (by simpa using hi), if_pos rfl, if_pos hi]
    rfl
  · rw [if_neg hj, if_neg hj]
theorem g2_putr (C : gOkQ g T own nL rt R Z ad nc ns E) (j : Nat) {index i k ci b n : Nat} {fs : List (Option (Option Nat))} {ty : FieldType} (hd : T[j]? = some (pc, .putfield index, 3)) (hin0 : ∀ p l e s m args below meth c A D cy Q, E p l e s m args below meth c A D cy Q → meth.name = "<init>") (hw : gFf own index ci k ty) (hn0 : ∀ a, narrow ty (.ref a) = .ref a ∧ fits ty (.ref a) = true) (hc : Z[i]? = some (.inl (ci, fs))) (hkf : k < fs.length) (hn : Z.length = n) (hb : b < n) (hgc : gcl Z n) (Z2 : List gH) (hZ2 : Z.set i (.inl (ci, fs.set k (some (some b)))) = Z2) (k2 : ∀ g2, gOkQ g2 T own nL rt R Z2 ad nc ns E → gcl Z2 n → g2 (pc + 3) ls st σ) : g pc ls (.ref (ad b) :: .ref (ad i) :: st) σ := by
  obtain ⟨p, l, e, s, m, args, below, meth, c, A, D, cy, Q, hx, hT, hr, hml, hown, hts, hlk, hK, hA, hY, hE, hnc, hns, rfl⟩ := C
  intro H locs la hP hD hS hl
  obtain ⟨TN, N, hcl, hk, hin, ⟨ty0, hty⟩, hnm, hfin, hdcl, hpd, hw⟩ := hw
  have he := gW_at (cy := cy) (ad := ad) (σ := σ) hc
  have hi : i < Z.length := (List.getElem?_eq_some_iff.mp hc).1
  have hset : (gW cy Z ad σ).set i (ad i, .inr (ci, (fs.mapIdx (gV ad (σ i))).set k (.ref (ad b)))) = gW cy (Z.set i (.inl (ci, fs.set k (some (some b))))) ad σ := by
    rw [gV_setr hkf]
    exact gW_setZ (h := .inl (ci, fs.set k (some (some b)))) hi
  have hcc : gclH n (.inl (ci, fs.set k (some (some b)))) := by
    intro k3 r hr
    rw [List.getElem?_set] at hr
    by_cases hkk : k = k3
    · rw [if_pos hkk] at hr
      by_cases hl3 : k < fs.length
      · rw [if_pos hl3] at hr
        have := Option.some.inj (Option.some.inj (Option.some.inj hr))
        omega
      · rw [if_neg hl3] at hr; cases hr
    · rw [if_neg hkk] at hr
      exact hgc i _ hc k3 r hr
  subst hZ2
  exact va_putF hx rfl hts hin ty0 hty hnm hown hK hP hD hS i he hcl k hk (hts _ hw) (fun _ h => h) hfin (hin0 _ _ _ _ _ _ _ _ _ _ _ _ _ hE) hdcl hpd (hn0 _).1 (hn0 _).2 (by simpa using hkf) (hT j _ _ _ hd) (fun H1 l1 hP1 hD1 hS1 => k2 _ ⟨p, l, e, s, m, args, below, meth, c, A, D, cy, Q, hx, hT, hr, hml, hown, hts, hlk, hK, hA, hY, hE, hnc, hns, rfl⟩ (hgc.set hcc) H1 l1 la (hset ▸ hP1) (hset ▸ hD1) hS1 hl)
theorem g2_puti (C : gOkQ g T own nL rt R Z ad nc ns E) (j : Nat) {index i k ci : Nat} {fs : List (Option (Option Nat))} {ty : FieldType} {v : Int32} (hd : T[j]? = some (pc, .putfield index, 3)) (hin0 : ∀ p l e s m args below meth c A D cy Q, E p l e s m args below meth c A D cy Q → meth.name = "<init>") (hw : gFf own index ci k ty) (hn0 : narrow ty (.int v) = .int v ∧ fits ty (.int v) = true) (hc : Z[i]? = some (.inl (ci, fs))) (hf : fs[k]? = some none) (k2 : g (pc + 3) ls st (gu σ i k v)) : g pc ls (.int v :: .ref (ad i) :: st) σ := by
  obtain ⟨p, l, e, s, m, args, below, meth, c, A, D, cy, Q, hx, hT, hr, hml, hown, hts, hlk, hK, hA, hY, hE, hnc, hns, rfl⟩ := C
  intro H locs la hP hD hS hl
  obtain ⟨TN, N, hcl, hk, hin, ⟨ty0, hty⟩, hnm, hfin, hdcl, hpd, hw⟩ := hw
  have he := gW_at (cy := cy) (ad := ad) (σ := σ) hc
  have hkf : k < (fs.mapIdx (gV ad (σ i))).length := by simpa using (List.getElem?_eq_some_iff.mp hf).1
  have hset : (gW cy Z ad σ).set i (ad i, .inr (ci, (fs.mapIdx (gV ad (σ i))).set k (.int v))) = gW cy Z ad (gu σ i k v) := gW_set hc (by rw [gV_set hf]; rfl)
  exact va_putF hx rfl hts hin ty0 hty hnm hown hK hP hD hS i he hcl k hk (hts _ hw) (fun _ h => h) hfin (hin0 _ _ _ _ _ _ _ _ _ _ _ _ _ hE) hdcl hpd hn0.1 hn0.2 hkf (hT j _ _ _ hd) (fun H1 l1 hP1 hD1 hS1 => k2 H1 l1 la (hset ▸ hP1) (hset ▸ hD1) hS1 hl)
theorem g2_aast (C : gOkQ g T own nL rt R Z ad nc ns E) (j : Nat) {i b n m0 t ci N : Nat} {CN : String} {TN : u_T} {rs : Nat → Option Nat} {fs : List (Option (Option Nat))} {x : Int32} (hd : T[j]? = some (pc, .aastore, 1)) (ht : ∀ cy, (gTy cy)[t]? = some (cy t, .object CN)) (hc : Z[i]? = some (.inr (t, m0, some rs))) (hb : Z[b]? = some (.inl (ci, fs))) (hcl : vwCl[ci]? = some (CN, TN, N)) (hin : vp_in x m0) (hn : Z.length = n) (hgc : gcl Z n) (Z2 : List gH) (hZ2 : Z.set i (.inr (t, m0, some (va_up rs (nn x) (some b)))) = Z2) (k2 : ∀ g2, gOkQ g2 T own nL rt R Z2 ad nc ns E → gcl Z2 n → g2 (pc + 1) ls st σ) : g pc ls (.ref (ad b) :: .int x :: .ref (ad i) :: st) σ := by
  obtain ⟨p, l, e, s, m, args, below, meth, c, A, D, cy, Q, hx, hT, hr, hml, hown, hts, hlk, hK, hA, hY, hE, hnc, hns, rfl⟩ := C
  intro H locs la hP hD hS hl
  have hi : i < Z.length := (List.getElem?_eq_some_iff.mp hc).1
  have hbl : b < Z.length := (List.getElem?_eq_some_iff.mp hb).1
  have hset : (gW cy Z ad σ).set i (ad i, .inl (cy t, m0, .inr (.inr (.inr (.inr (va_up (fun k => (rs k).map ad) (nn x) (some (ad b)))))))) = gW cy (Z.set i (.inr (t, m0, some (va_up rs (nn x) (some b))))) ad σ := by
    rw [← gW_setZ hi]
    congr 2
    show Sum.inl (cy t, m0, Sum.inr (Sum.inr (Sum.inr (Sum.inr (va_up (fun k => (rs k).map ad) (nn x) (some (ad b))))))) = Sum.inl (cy t, m0, Sum.inr (Sum.inr (Sum.inr (Sum.inr (fun k => (va_up rs (nn x) (some b) k).map ad)))))
    have ef : va_up (fun k => (rs k).map ad) (nn x) (some (ad b)) = (fun k => (va_up rs (nn x) (some b) k).map ad) := by
      funext k
      unfold va_up
      by_cases hk : k = nn x
      · rw [if_pos hk, if_pos hk]; rfl
      · rw [if_neg hk, if_neg hk]
    rw [ef]
  have hcc : gclH n (.inr (t, m0, some (va_up rs (nn x) (some b)))) := by
    intro k r hr
    unfold va_up at hr
    by_cases hk : k = nn x
    · rw [if_pos hk] at hr
      have := Option.some.inj hr
      omega
    · rw [if_neg hk] at hr
      exact hgc i _ hc k r hr
  subst hZ2
  exact va_astq hx rfl hK hP hD hS i t b ci (gW_at hc) (ht cy) (gW_at hb) hcl hin (hT j _ _ _ hd) (fun H1 l1 hP1 hD1 hS1 => k2 _ ⟨p, l, e, s, m, args, below, meth, c, A, D, cy, Q, hx, hT, hr, hml, hown, hts, hlk, hK, hA, hY, hE, hnc, hns, rfl⟩ (hgc.set hcc) H1 l1 la (hset ▸ hP1) (hset ▸ hD1) hS1 hl)
end
/-! ===== contracts of methods that make cells ===== -/
def gR2 (L mc ms : Nat) : Room := { frames := L, cells := mc, slots := ms, locals := 64 * L }
def gQ2 (res : Option (Int32 ⊕ Nat)) (D : va_G) (cy : Nat → ClassId) (n : Nat) (ad : Nat → Nat) (A : Nat → Prop) (Z2 : List gH) (σ2 : gS) : Array Value → State → Outcome → State → Prop := match res with
  | none => va_Qv (fun ad2 => AG n ad ad2) (fun ad2 t => va_P D vwCl (gW cy Z2 ad2 σ2) t.heap ∧ va_D A (gW cy Z2 ad2 σ2)) A
  | some (.inl r) => va_Qi (fun (x : Int32) ad2 => x = r ∧ AG n ad ad2) (fun ad2 t => va_P D vwCl (gW cy Z2 ad2 σ2) t.heap ∧ va_D A (gW cy Z2 ad2 σ2)) A
  | some (.inr b) => va_Qr (fun ad2 => AG n ad ad2) (fun ad2 a t => a = ad2 b ∧ va_P D vwCl (gW cy Z2 ad2 σ2) t.heap ∧ va_D A (gW cy Z2 ad2 σ2)) A
def gMet2 (y : MethodName) (cc : ByteArray) (nL : Nat) (rt : Option FieldType) (L mc ms : Nat) (Z : List gH) (σ : gS) (av : (Nat → Nat) → List Value) (Z2 : List gH) (σ2 : gS) (res : Option (Int32 ⊕ Nat)) : Prop :=
  ∀ (l : Launch) (D : va_G) (cy : Nat → ClassId) (ad : Nat → Nat) (sz : Nat),
    Met l y (Cond.code y cc nL rt :: TB) (gR2 L mc ms) (va_Pc (av ad) (fun U => U.heap.size = sz ∧ gPre D cy ad (gW cy Z ad σ) (va_A (gW cy Z ad σ) sz) U)) (gQ2 res D cy Z.length ad (va_A (gW cy Z ad σ) sz) Z2 σ2) mc ms (va_A (gW cy Z ad σ) sz)
/-- what stands at the end of such a body -/
def gE2 (nm : String) (res : Option (Int32 ⊕ Nat)) (n : Nat) (ad : Nat → Nat) (Z2 : List gH) (σ2 : gS) (mc ms : Nat) : (p : Program) → (l : Launch) → (e : Env) → (s : State) → (m : MethodId) → (args : Array Value) → (below : List Frame) → (meth : Method) → (c : Code) → (A : Nat → Prop) → (D : va_G) → (cy : Nat → ClassId) → (Q : State → Prop) → Prop :=
  fun _ _ _ s _ args below meth _ A D cy Q => meth.name = nm ∧ Q = MQ below (gQ2 res D cy n ad A Z2 σ2) args s mc ms A
theorem gE2_in {res : Option (Int32 ⊕ Nat)} {n : Nat} {ad : Nat → Nat} {Z2 : List gH} {σ2 : gS} {mc ms : Nat} : ∀ p l e s m args below meth c A D cy Q, gE2 "<init>" res n ad Z2 σ2 mc ms p l e s m args below meth c A D cy Q → meth.name = "<init>" := fun _ _ _ _ _ _ _ _ _ _ _ _ _ h => h.1
theorem gMet2_intro {y : MethodName} {cc : ByteArray} {nL : Nat} {rt : Option FieldType} {L mc ms : Nat} {Z : List gH} {σ : gS} {av : (Nat → Nat) → List Value} {Z2 : List gH} {σ2 : gS} {res : Option (Int32 ⊕ Nat)} (T : List (Nat × Instr × Nat)) (hT : gTb cc T = true) (hy : plainName y.cls = true) (hn : ∀ ad, (lg_sl (av ad)).length ≤ nL)
    (body : ∀ (g : Nat → List (Nat × Value) → List Value → gS → Prop) (ad : Nat → Nat), gOkQ g T y.cls nL rt (gR2 L mc ms) Z ad 0 0 (gE2 y.name res Z.length ad Z2 σ2 mc ms) → g 0 (lv_args 0 (av ad)) [] σ) : gMet2 y cc nL rt L mc ms Z σ av Z2 σ2 res := by
  intro l D cy ad sz
  refine Met.ofW (cc := cc) (maxL := nL) (ret := rt) hy rfl ?_
  intro p e s m args below meth c s₁ B hml hv
  obtain ⟨rfl, hsz, hP, hK, hD0, hY⟩ := hv
  subst hsz
  have hts := atoms_spec (ws := Cond.code y cc nL rt :: TB) B.pre
  have hown : s.vm.findClass y.cls = some m.cls := findClass_of_methodNamed B.named
  have hD := hD0.self (sz := s.heap.size)
  have hl := lv_entry (av ad) (n := nL) (hn ad)
  have hin : meth.name = y.name := (name_of_methodNamed B.named B.method).1
  rw [lg_entry_eq]
  have hTT : ∀ (j pc : Nat) (i : Instr) (n : Nat), T[j]? = some (pc, i, n) → decode c.code pc = .ok (i, n) := by
    rw [B.bytes]; exact gTb_ok hT
  exact body _ ad ⟨p, l, e, s, m, _, below, meth, c, va_A (gW cy Z ad σ) s.heap.size, D, cy, _, B.exec, hTT, B.returns, hml, hown, fun w hw => hts w (List.mem_cons_of_mem _ hw), B.notSynchronized, hK, fun q h => Or.inr h, hY, ⟨hin, rfl⟩, Nat.zero_le _, Nat.zero_le _, rfl⟩ _ _ _ hP hD va_S.rf hl
theorem g2_return {g : Nat → List (Nat × Value) → List Value → gS → Prop} {T : List (Nat × Instr × Nat)} {own nm : String} {nL : Nat} {R : Room} {Z : List gH} {ad ad0 : Nat → Nat} {nc ns n mc ms : Nat} {pc : Nat} {ls : List (Nat × Value)} {σ : gS} {Z2 : List gH} {σ2 : gS} (C : gOkQ g T own nL none R Z ad nc ns (gE2 nm none n ad0 Z2 σ2 mc ms)) (j : Nat) (hd : T[j]? = some (pc, .return_, 1)) (hag : AG n ad0 ad) (hZ : Z = Z2) (hs : σ = σ2) (hc1 : nc ≤ mc) (hs1 : ns ≤ ms) : g pc ls [] σ := by
  obtain ⟨p, l, e, s, m, args, below, meth, c, A, D, cy, Q, hx, hT, hr, hml, hown, hts, hlk, hK, hA, hY, hE, hnc, hns, rfl⟩ := C
  obtain ⟨hE0, rfl⟩ := hE
  intro H locs la hP hD hS hl
  subst hZ; subst hs
  refine W.widen hc1 hs1 ?_
  exact W.vret hx rfl hr (fun t ht hW => ⟨⟨ad, rfl, hag, by rw [ht]; exact hP, hD⟩, hS.F ht⟩) hS.2.2 (hT j _ _ _ hd) hlk
theorem g2_ireturn {g : Nat → List (Nat × Value) → List Value → gS → Prop} {T : List (Nat × Instr × Nat)} {own nm : String} {nL : Nat} {R : Room} {Z : List gH} {ad ad0 : Nat → Nat} {nc ns n mc ms : Nat} {pc : Nat} {ls : List (Nat × Value)} {σ : gS} {Z2 : List gH} {σ2 : gS} {r : Int32} (C : gOkQ g T own nL (some .int) R Z ad nc ns (gE2 nm (some (.inl r)) n ad0 Z2 σ2 mc ms)) (j : Nat) (hd : T[j]? = some (pc, .ireturn, 1)) (hag : AG n ad0 ad) (hZ : Z = Z2) (hs : σ = σ2) (hc1 : nc ≤ mc) (hs1 : ns ≤ ms) : g pc ls [.int r] σ := by
  obtain ⟨p, l, e, s, m, args, below, meth, c, A, D, cy, Q, hx, hT, hr, hml, hown, hts, hlk, hK, hA, hY, hE, hnc, hns, rfl⟩ := C
  obtain ⟨hE0, rfl⟩ := hE
  intro H locs la hP hD hS hl
  subst hZ; subst hs
  refine W.widen hc1 hs1 ?_
  exact W.zret hx rfl hr rfl (fun t ht hW => ⟨⟨r, ad, rfl, ⟨rfl, hag⟩, by rw [ht]; exact hP, hD⟩, hS.F ht⟩) hS.2.2 (hT j _ _ _ hd) hlk
theorem g2_areturn {g : Nat → List (Nat × Value) → List Value → gS → Prop} {T : List (Nat × Instr × Nat)} {own nm : String} {nL : Nat} {R : Room} {Z : List gH} {ad ad0 : Nat → Nat} {nc ns n mc ms : Nat} {pc : Nat} {ls : List (Nat × Value)} {σ : gS} {Z2 : List gH} {σ2 : gS} {b : Nat} {rt : FieldType} (hrt : (∃ n, rt = .object n) ∨ ∃ t, rt = .array t) (C : gOkQ g T own nL (some rt) R Z ad nc ns (gE2 nm (some (.inr b)) n ad0 Z2 σ2 mc ms)) (j : Nat) (hd : T[j]? = some (pc, .areturn, 1)) (hag : AG n ad0 ad) (hZ : Z = Z2) (hs : σ = σ2) (hc1 : nc ≤ mc) (hs1 : ns ≤ ms) : g pc ls [.ref (ad b)] σ := by
  obtain ⟨p, l, e, s, m, args, below, meth, c, A, D, cy, Q, hx, hT, hr, hml, hown, hts, hlk, hK, hA, hY, hE, hnc, hns, rfl⟩ := C
  obtain ⟨hE0, rfl⟩ := hE
  intro H locs la hP hD hS hl
  subst hZ; subst hs
  refine W.widen hc1 hs1 ?_
  exact W.aret hx rfl hr hrt (Or.inr ⟨_, rfl⟩) (fun t ht hW => ⟨⟨ad, ad b, rfl, hag, rfl, by rw [ht]; exact hP, hD⟩, hS.F ht⟩) hS.2.2 (hT j _ _ _ hd) hlk
section
variable {g : Nat → List (Nat × Value) → List Value → gS → Prop} {T : List (Nat × Instr × Nat)} {own : String} {nL : Nat} {rt : Option FieldType} {R : Room} {Z : List gH} {ad : Nat → Nat} {nc ns : Nat} {E : (p : Program) → (l : Launch) → (e : Env) → (s : State) → (m : MethodId) → (args : Array Value) → (below : List Frame) → (meth : Method) → (c : Code) → (A : Nat → Prop) → (D : va_G) → (cy : Nat → ClassId) → (Q : State → Prop) → Prop} {pc : Nat} {ls : List (Nat × Value)} {st : List Value} {σ : gS} {α : Type} {z : α}
theorem g2_callIv (C : gOkQ g T own nL rt R Z ad nc ns E) (j : Nat) {index n : Nat} {y : MethodName} {cc2 : ByteArray} {nL2 L2 mc ms np : Nat} {av : (Nat → Nat) → List Value} {Z2 : List gH} {σ2 : gS} (As rest : List Value) {i : Nat} (hd : T[j]? = some (pc, .invokespecial index, 3)) (hM : gMet2 y cc2 nL2 none L2 mc ms Z σ av Z2 σ2 none) (hln : gCn own index y) (hcw : gCw y cc2 nL2 none np) (hci : Cond.instanceMethod y ∈ TB) (hyn : y.name = "<init>") (hav : av ad = .ref (ad i) :: As) (hstk : st = As.reverse ++ .ref (ad i) :: rest) (hn : Z.length = n) (lsf : (Nat → Nat) → List (Nat × Value)) (stf : (Nat → Nat) → List Value) (hls : lsf ad = ls) (hst : stf ad = rest) (hag : ∀ ad2, AG n ad ad2 → lsf ad2 = lsf ad ∧ stf ad2 = stf ad) (hnp : As.length = np) (hro : (rest.map fun v => v.category).sum ≤ 8) (hR : L2 + 1 ≤ R.frames ∧ 8 + (nL2 + 11) + 64 * L2 ≤ R.locals) (hc1 : nc + mc ≤ R.cells) (hs1 : ns + ms ≤ R.slots) (k : ∀ ad2 g2, AG n ad ad2 → gOkQ g2 T own nL rt R Z2 ad2 (nc + mc) (ns + ms) E → g2 (pc + 3) (lsf ad2) (stf ad2) σ2) : g pc ls st σ := by
  obtain ⟨p, l, e, s, m, args, below, meth, c, A, D, cy, Q, hx, hT, hr, hml, hown, hts, hlk, hK, hA, hY, hE, hnc, hns, rfl⟩ := C
  intro H locs la hP hD hS hl
  have hA1 : ∀ q, va_A (gW cy Z ad σ) H.size q → A q := fun q hq => by
    rcases hq with ⟨k, e, hk⟩ | hq
    · exact hD.2 k (q, e) hk
    · exact hA q (Nat.le_trans hS.1 hq)
  have hpre : ∀ U : State, U.heap = H → s.WarmedH U.vm → U.heap.size = H.size ∧ gPre D cy ad (gW cy Z ad σ) (va_A (gW cy Z ad σ) H.size) U := fun U hU hW => ⟨by rw [hU], by rw [hU]; exact hP, va_K.moved hW.alike hK, hD.weaken (fun _ _ _ _ => trivial), gY.weaken hA1 (gY.moved hW hS hU hY)⟩
  have hbl : FrameBlind (va_Pc (av ad) (fun U => U.heap.size = H.size ∧ gPre D cy ad (gW cy Z ad σ) (va_A (gW cy Z ad σ) H.size) U)) := fun a U g mk q => by
    obtain ⟨q0, q1, qP, qK, qD, qY⟩ := q
    exact ⟨q0, q1, qP, va_K.moved (u := U) (U := U.calling g mk a) (Vm.Alike.refl U.vm) qK, qD, gY.same (U := U) (V := U.calling g mk a) rfl rfl qY⟩
  have hG : GoodIn TB (Cond.code y cc2 nL2 none :: TB) := TBg hcw.1
  have hM2 := hM l D cy ad H.size
  have hPS : PreS s H (va_Pc (av ad) (fun U => U.heap.size = H.size ∧ gPre D cy ad (gW cy Z ad σ) (va_A (gW cy Z ad σ) H.size) U)) (.ref (ad i) :: As) := ⟨hbl, fun U hU hW => ⟨by rw [hav], hpre U hU hW⟩⟩
  rcases hln with hln | ⟨host, hln⟩
  · exact va_callv (va_runI (As := As) (rest := rest) ⟨hx, rfl, hml, hown, hts⟩ hM2 ⟨callB_of np hts hG rfl rfl rfl (hts _ hcw.2.1) (hts _ hln) hcw.2.2 hR, hyn, hts _ hci⟩ hPS rfl hnp hl.1 hstk (lv_room hro) (hT j _ _ _ hd) ⟨hc1, hs1⟩) hS (fun q _ h => hA1 q h) hA1 (fun ad2 t H1 l1 ht hvm hag2 hB hz1 hk1 hS1 => by
    obtain ⟨hP1, hD1⟩ := hB
    rw [ht] at hP1
    rw [hn] at hag2
    obtain ⟨e1, e2⟩ := hag _ hag2
    have kk := k ad2 _ hag2 ⟨p, l, e, s, m, args, below, meth, c, A, D, cy, Q, hx, hT, hr, hml, hown, hts, hlk, hK, hA, gY.ag hag2 hY, hE, hc1, hs1, rfl⟩
    rw [e1, e2, hls, hst] at kk
    exact kk H1 l1 la hP1 (hD1.weaken (fun _ q _ h => hA1 _ h)) hS1 hl)
  · exact va_callv (va_runIN (As := As) (rest := rest) ⟨hx, rfl, hml, hown, hts⟩ hM2 ⟨va_cnB np hts hG rfl rfl rfl (hY.nw _ hln) (hts _ hcw.2.1) hcw.2.2 hR, hyn, hts _ hci⟩ hPS rfl hnp hl.1 hstk (lv_room hro) (hT j _ _ _ hd) ⟨hc1, hs1⟩) hS (fun q _ h => hA1 q h) hA1 (fun ad2 t H1 l1 ht hvm hag2 hB hz1 hk1 hS1 => by
    obtain ⟨hP1, hD1⟩ := hB
    rw [ht] at hP1
    rw [hn] at hag2
    obtain ⟨e1, e2⟩ := hag _ hag2
    have kk := k ad2 _ hag2 ⟨p, l, e, s, m, args, below, meth, c, A, D, cy, Q, hx, hT, hr, hml, hown, hts, hlk, hK, hA, gY.ag hag2 hY, hE, hc1, hs1, rfl⟩
    rw [e1, e2, hls, hst] at kk
    exact kk H1 l1 la hP1 (hD1.weaken (fun _ q _ h => hA1 _ h)) hS1 hl)
theorem g2_callVv (C : gOkQ g T own nL rt R Z ad nc ns E) (j : Nat) {index n : Nat} {y : MethodName} {cc2 : ByteArray} {nL2 L2 mc ms np : Nat} {av : (Nat → Nat) → List Value} {Z2 : List gH} {σ2 : gS} (As rest : List Value) {i ci N : Nat} {TT : u_T} {fs : List (Option (Option Nat))} (hd : T[j]? = some (pc, .invokevirtual index, 3)) (hM : gMet2 y cc2 nL2 none L2 mc ms Z σ av Z2 σ2 none) (hln : Cond.methodLink own index y ∈ TB) (hcw : gCw y cc2 nL2 none np) (hci : gCi y) (hc : Z[i]? = some (.inl (ci, fs))) (hcl : vwCl[ci]? = some (y.cls, TT, N)) (hav : av ad = .ref (ad i) :: As) (hstk : st = As.reverse ++ .ref (ad i) :: rest) (hn : Z.length = n) (lsf : (Nat → Nat) → List (Nat × Value)) (stf : (Nat → Nat) → List Value) (hls : lsf ad = ls) (hst : stf ad = rest) (hag : ∀ ad2, AG n ad ad2 → lsf ad2 = lsf ad ∧ stf ad2 = stf ad) (hnp : As.length = np) (hro : (rest.map fun v => v.category).sum ≤ 8) (hR : L2 + 1 ≤ R.frames ∧ 8 + (nL2 + 11) + 64 * L2 ≤ R.locals) (hc1 : nc + mc ≤ R.cells) (hs1 : ns + ms ≤ R.slots) (k : ∀ ad2 g2, AG n ad ad2 → gOkQ g2 T own nL rt R Z2 ad2 (nc + mc) (ns + ms) E → g2 (pc + 3) (lsf ad2) (stf ad2) σ2) : g pc ls st σ := by
  obtain ⟨p, l, e, s, m, args, below, meth, c, A, D, cy, Q, hx, hT, hr, hml, hown, hts, hlk, hK, hA, hY, hE, hnc, hns, rfl⟩ := C
  intro H locs la hP hD hS hl
  have hA1 : ∀ q, va_A (gW cy Z ad σ) H.size q → A q := fun q hq => by
    rcases hq with ⟨k, e, hk⟩ | hq
    · exact hD.2 k (q, e) hk
    · exact hA q (Nat.le_trans hS.1 hq)
  have hpre : ∀ U : State, U.heap = H → s.WarmedH U.vm → U.heap.size = H.size ∧ gPre D cy ad (gW cy Z ad σ) (va_A (gW cy Z ad σ) H.size) U := fun U hU hW => ⟨by rw [hU], by rw [hU]; exact hP, va_K.moved hW.alike hK, hD.weaken (fun _ _ _ _ => trivial), gY.weaken hA1 (gY.moved hW hS hU hY)⟩
  have hbl : FrameBlind (va_Pc (av ad) (fun U => U.heap.size = H.size ∧ gPre D cy ad (gW cy Z ad σ) (va_A (gW cy Z ad σ) H.size) U)) := fun a U g mk q => by
    obtain ⟨q0, q1, qP, qK, qD, qY⟩ := q
    exact ⟨q0, q1, qP, va_K.moved (u := U) (U := U.calling g mk a) (Vm.Alike.refl U.vm) qK, qD, gY.same (U := U) (V := U.calling g mk a) rfl rfl qY⟩
  have hG : GoodIn TB (Cond.code y cc2 nL2 none :: TB) := TBg hcw.1
  have hM2 := hM l D cy ad H.size
  have hPV : PreV s H y.cls (ad i) (va_Pc (av ad) (fun U => U.heap.size = H.size ∧ gPre D cy ad (gW cy Z ad σ) (va_A (gW cy Z ad σ) H.size) U)) As := ⟨hbl, va_recv hK hP hcl (gW_at hc), fun U hU hW => ⟨by rw [hav], hpre U hU hW⟩⟩
  exact va_callv (va_runV (As := As) (rest := rest) ⟨hx, rfl, hml, hown, hts⟩ hM2 ⟨callB_of np hts hG rfl rfl rfl (hts _ hcw.2.1) (hts _ hln) hcw.2.2 hR, hts _ hci.1, hts _ hci.2⟩ hPV rfl hnp hl.1 hstk (lv_room hro) (hT j _ _ _ hd) ⟨hc1, hs1⟩) hS (fun q _ h => hA1 q h) hA1 (fun ad2 t H1 l1 ht hvm hag2 hB hz1 hk1 hS1 => by
    obtain ⟨hP1, hD1⟩ := hB
    rw [ht] at hP1
    rw [hn] at hag2
    obtain ⟨e1, e2⟩ := hag _ hag2
    have kk := k ad2 _ hag2 ⟨p, l, e, s, m, args, below, meth, c, A, D, cy, Q, hx, hT, hr, hml, hown, hts, hlk, hK, hA, gY.ag hag2 hY, hE, hc1, hs1, rfl⟩
    rw [e1, e2, hls, hst] at kk
    exact kk H1 l1 la hP1 (hD1.weaken (fun _ q _ h => hA1 _ h)) hS1 hl)
theorem g2_callVi (C : gOkQ g T own nL rt R Z ad nc ns E) (j : Nat) {index n : Nat} {y : MethodName} {cc2 : ByteArray} {nL2 L2 mc ms np : Nat} {rv : Int32} {av : (Nat → Nat) → List Value} {Z2 : List gH} {σ2 : gS} (As rest : List Value) {i ci N : Nat} {TT : u_T} {fs : List (Option (Option Nat))} (hd : T[j]? = some (pc, .invokevirtual index, 3)) (hM : gMet2 y cc2 nL2 (some .int) L2 mc ms Z σ av Z2 σ2 (some (.inl rv))) (hln : Cond.methodLink own index y ∈ TB) (hcw : gCw y cc2 nL2 (some .int) np) (hci : gCi y) (hc : Z[i]? = some (.inl (ci, fs))) (hcl : vwCl[ci]? = some (y.cls, TT, N)) (hav : av ad = .ref (ad i) :: As) (hstk : st = As.reverse ++ .ref (ad i) :: rest) (hn : Z.length = n) (lsf : (Nat → Nat) → List (Nat × Value)) (stf : (Nat → Nat) → List Value) (hls : lsf ad = ls) (hst : stf ad = rest) (hag : ∀ ad2, AG n ad ad2 → lsf ad2 = lsf ad ∧ stf ad2 = stf ad) (hnp : As.length = np) (hro : (rest.map fun v => v.category).sum ≤ 8) (hR : L2 + 1 ≤ R.frames ∧ 8 + (nL2 + 11) + 64 * L2 ≤ R.locals) (hc1 : nc + mc ≤ R.cells) (hs1 : ns + ms ≤ R.slots) (k : ∀ ad2 g2, AG n ad ad2 → gOkQ g2 T own nL rt R Z2 ad2 (nc + mc) (ns + ms) E → g2 (pc + 3) (lsf ad2) (.int rv :: stf ad2) σ2) : g pc ls st σ := by
  obtain ⟨p, l, e, s, m, args, below, meth, c, A, D, cy, Q, hx, hT, hr, hml, hown, hts, hlk, hK, hA, hY, hE, hnc, hns, rfl⟩ := C
  intro H locs la hP hD hS hl
  have hA1 : ∀ q, va_A (gW cy Z ad σ) H.size q → A q := fun q hq => by
    rcases hq with ⟨k, e, hk⟩ | hq
    · exact hD.2 k (q, e) hk
    · exact hA q (Nat.le_trans hS.1 hq)
  have hpre : ∀ U : State, U.heap = H → s.WarmedH U.vm → U.heap.size = H.size ∧ gPre D cy ad (gW cy Z ad σ) (va_A (gW cy Z ad σ) H.size) U := fun U hU hW => ⟨by rw [hU], by rw [hU]; exact hP, va_K.moved hW.alike hK, hD.weaken (fun _ _ _ _ => trivial), gY.weaken hA1 (gY.moved hW hS hU hY)⟩
  have hbl : FrameBlind (va_Pc (av ad) (fun U => U.heap.size = H.size ∧ gPre D cy ad (gW cy Z ad σ) (va_A (gW cy Z ad σ) H.size) U)) := fun a U g mk q => by
    obtain ⟨q0, q1, qP, qK, qD, qY⟩ := q
    exact ⟨q0, q1, qP, va_K.moved (u := U) (U := U.calling g mk a) (Vm.Alike.refl U.vm) qK, qD, gY.same (U := U) (V := U.calling g mk a) rfl rfl qY⟩
  have hG : GoodIn TB (Cond.code y cc2 nL2 (some .int) :: TB) := TBg hcw.1
  have hM2 := hM l D cy ad H.size
  have hPV : PreV s H y.cls (ad i) (va_Pc (av ad) (fun U => U.heap.size = H.size ∧ gPre D cy ad (gW cy Z ad σ) (va_A (gW cy Z ad σ) H.size) U)) As := ⟨hbl, va_recv hK hP hcl (gW_at hc), fun U hU hW => ⟨by rw [hav], hpre U hU hW⟩⟩
  exact va_calli (va_runV (As := As) (rest := rest) ⟨hx, rfl, hml, hown, hts⟩ hM2 ⟨callB_of np hts hG rfl rfl rfl (hts _ hcw.2.1) (hts _ hln) hcw.2.2 hR, hts _ hci.1, hts _ hci.2⟩ hPV rfl hnp hl.1 hstk (lv_room hro) (hT j _ _ _ hd) ⟨hc1, hs1⟩) hS (fun q _ h => hA1 q h) hA1 (fun x ad2 t H1 l1 ht hvm hw hB hz1 hk1 hS1 => by
    obtain ⟨rfl, hag2⟩ := hw
    obtain ⟨hP1, hD1⟩ := hB
    rw [ht] at hP1
    rw [hn] at hag2
    obtain ⟨e1, e2⟩ := hag _ hag2
    have kk := k ad2 _ hag2 ⟨p, l, e, s, m, args, below, meth, c, A, D, cy, Q, hx, hT, hr, hml, hown, hts, hlk, hK, hA, gY.ag hag2 hY, hE, hc1, hs1, rfl⟩
    rw [e1, e2, hls, hst] at kk
    exact kk H1 l1 la hP1 (hD1.weaken (fun _ q _ h => hA1 _ h)) hS1 hl)
theorem g2_callVr (C : gOkQ g T own nL rt R Z ad nc ns E) (j : Nat) {index n : Nat} {y : MethodName} {cc2 : ByteArray} {nL2 L2 mc ms np : Nat} {ty : FieldType} {bv : Nat} {av : (Nat → Nat) → List Value} {Z2 : List gH} {σ2 : gS} (As rest : List Value) {i ci N : Nat} {TT : u_T} {fs : List (Option (Option Nat))} (hd : T[j]? = some (pc, .invokevirtual index, 3)) (hM : gMet2 y cc2 nL2 (some ty) L2 mc ms Z σ av Z2 σ2 (some (.inr bv))) (hln : Cond.methodLink own index y ∈ TB) (hcw : gCw y cc2 nL2 (some ty) np) (hci : gCi y) (hc : Z[i]? = some (.inl (ci, fs))) (hcl : vwCl[ci]? = some (y.cls, TT, N)) (hav : av ad = .ref (ad i) :: As) (hstk : st = As.reverse ++ .ref (ad i) :: rest) (hn : Z.length = n) (lsf : (Nat → Nat) → List (Nat × Value)) (stf : (Nat → Nat) → List Value) (hls : lsf ad = ls) (hst : stf ad = rest) (hag : ∀ ad2, AG n ad ad2 → lsf ad2 = lsf ad ∧ stf ad2 = stf ad) (hnp : As.length = np) (hro : (rest.map fun v => v.category).sum ≤ 8) (hR : L2 + 1 ≤ R.frames ∧ 8 + (nL2 + 11) + 64 * L2 ≤ R.locals) (hc1 : nc + mc ≤ R.cells) (hs1 : ns + ms ≤ R.slots) (k : ∀ ad2 g2, AG n ad ad2 → gOkQ g2 T own nL rt R Z2 ad2 (nc + mc) (ns + ms) E → g2 (pc + 3) (lsf ad2) (.ref (ad2 bv) :: stf ad2) σ2) : g pc ls st σ := by
  obtain ⟨p, l, e, s, m, args, below, meth, c, A, D, cy, Q, hx, hT, hr, hml, hown, hts, hlk, hK, hA, hY, hE, hnc, hns, rfl⟩ := C
  intro H locs la hP hD hS hl
  have hA1 : ∀ q, va_A (gW cy Z ad σ) H.size q → A q := fun q hq => by
    rcases hq with ⟨k, e, hk⟩ | hq
    · exact hD.2 k (q, e) hk
    · exact hA q (Nat.le_trans hS.1 hq)
  have hpre : ∀ U : State, U.heap = H → s.WarmedH U.vm → U.heap.size = H.size ∧ gPre D cy ad (gW cy Z ad σ) (va_A (gW cy Z ad σ) H.size) U := fun U hU hW => ⟨by rw [hU], by rw [hU]; exact hP, va_K.moved hW.alike hK, hD.weaken (fun _ _ _ _ => trivial), gY.weaken hA1 (gY.moved hW hS hU hY)⟩
  have hbl : FrameBlind (va_Pc (av ad) (fun U => U.heap.size = H.size ∧ gPre D cy ad (gW cy Z ad σ) (va_A (gW cy Z ad σ) H.size) U)) := fun a U g mk q => by
    obtain ⟨q0, q1, qP, qK, qD, qY⟩ := q
    exact ⟨q0, q1, qP, va_K.moved (u := U) (U := U.calling g mk a) (Vm.Alike.refl U.vm) qK, qD, gY.same (U := U) (V := U.calling g mk a) rfl rfl qY⟩
  have hG : GoodIn TB (Cond.code y cc2 nL2 (some ty) :: TB) := TBg hcw.1
  have hM2 := hM l D cy ad H.size
  have hPV : PreV s H y.cls (ad i) (va_Pc (av ad) (fun U => U.heap.size = H.size ∧ gPre D cy ad (gW cy Z ad σ) (va_A (gW cy Z ad σ) H.size) U)) As := ⟨hbl, va_recv hK hP hcl (gW_at hc), fun U hU hW => ⟨by rw [hav], hpre U hU hW⟩⟩
  exact va_callr (va_runV (As := As) (rest := rest) ⟨hx, rfl, hml, hown, hts⟩ hM2 ⟨callB_of np hts hG rfl rfl rfl (hts _ hcw.2.1) (hts _ hln) hcw.2.2 hR, hts _ hci.1, hts _ hci.2⟩ hPV rfl hnp hl.1 hstk (lv_room hro) (hT j _ _ _ hd) ⟨hc1, hs1⟩) hS (fun q _ h => hA1 q h) hA1 (fun ad2 a2 t H1 l1 ht hvm hag2 hB hz1 hk1 hS1 => by
    obtain ⟨rfl, hB⟩ := hB
    obtain ⟨hP1, hD1⟩ := hB
    rw [ht] at hP1
    rw [hn] at hag2
    obtain ⟨e1, e2⟩ := hag _ hag2
    have kk := k ad2 _ hag2 ⟨p, l, e, s, m, args, below, meth, c, A, D, cy, Q, hx, hT, hr, hml, hown, hts, hlk, hK, hA, gY.ag hag2 hY, hE, hc1, hs1, rfl⟩
    rw [e1, e2, hls, hst] at kk
    exact kk H1 l1 la hP1 (hD1.weaken (fun _ q _ h => hA1 _ h)) hS1 hl)
theorem g2_callSr (C : gOkQ g T own nL rt R Z ad nc ns E) (j : Nat) {index n : Nat} {y : MethodName} {cc2 : ByteArray} {nL2 L2 mc ms np : Nat} {ty : FieldType} {bv : Nat} {av : (Nat → Nat) → List Value} {Z2 : List gH} {σ2 : gS} (As rest : List Value) (hd : T[j]? = some (pc, .invokestatic index, 3)) (hM : gMet2 y cc2 nL2 (some ty) L2 mc ms Z σ av Z2 σ2 (some (.inr bv))) (hln : Cond.methodLink own index y ∈ TB) (hcw : gCw y cc2 nL2 (some ty) np) (hcs : gCs y) (hav : av ad = As) (hstk : st = As.reverse ++ rest) (hn : Z.length = n) (lsf : (Nat → Nat) → List (Nat × Value)) (stf : (Nat → Nat) → List Value) (hls : lsf ad = ls) (hst : stf ad = rest) (hag : ∀ ad2, AG n ad ad2 → lsf ad2 = lsf ad ∧ stf ad2 = stf ad) (hnp : As.length = np) (hro : (rest.map fun v => v.category).sum ≤ 8) (hR : L2 + 1 ≤ R.frames ∧ 8 + (nL2 + 11) + 64 * L2 ≤ R.locals) (hc1 : nc + mc ≤ R.cells) (hs1 : ns + ms ≤ R.slots) (k : ∀ ad2 g2, AG n ad ad2 → gOkQ g2 T own nL rt R Z2 ad2 (nc + mc) (ns + ms) E → g2 (pc + 3) (lsf ad2) (.ref (ad2 bv) :: stf ad2) σ2) : g pc ls st σ := by
  obtain ⟨p, l, e, s, m, args, below, meth, c, A, D, cy, Q, hx, hT, hr, hml, hown, hts, hlk, hK, hA, hY, hE, hnc, hns, rfl⟩ := C
  intro H locs la hP hD hS hl
  have hA1 : ∀ q, va_A (gW cy Z ad σ) H.size q → A q := fun q hq => by
    rcases hq with ⟨k, e, hk⟩ | hq
    · exact hD.2 k (q, e) hk
    · exact hA q (Nat.le_trans hS.1 hq)
  have hpre : ∀ U : State, U.heap = H → s.WarmedH U.vm → U.heap.size = H.size ∧ gPre D cy ad (gW cy Z ad σ) (va_A (gW cy Z ad σ) H.size) U := fun U hU hW => ⟨by rw [hU], by rw [hU]; exact hP, va_K.moved hW.alike hK, hD.weaken (fun _ _ _ _ => trivial), gY.weaken hA1 (gY.moved hW hS hU hY)⟩
  have hbl : FrameBlind (va_Pc (av ad) (fun U => U.heap.size = H.size ∧ gPre D cy ad (gW cy Z ad σ) (va_A (gW cy Z ad σ) H.size) U)) := fun a U g mk q => by
    obtain ⟨q0, q1, qP, qK, qD, qY⟩ := q
    exact ⟨q0, q1, qP, va_K.moved (u := U) (U := U.calling g mk a) (Vm.Alike.refl U.vm) qK, qD, gY.same (U := U) (V := U.calling g mk a) rfl rfl qY⟩
  have hG : GoodIn TB (Cond.code y cc2 nL2 (some ty) :: TB) := TBg hcw.1
  have hM2 := hM l D cy ad H.size
  have hPS : PreS s H (va_Pc (av ad) (fun U => U.heap.size = H.size ∧ gPre D cy ad (gW cy Z ad σ) (va_A (gW cy Z ad σ) H.size) U)) As := ⟨hbl, fun U hU hW => ⟨by rw [hav], hpre U hU hW⟩⟩
  exact va_callr (va_runS (As := As) (rest := rest) ⟨hx, rfl, hml, hown, hts⟩ hM2 ⟨callB_of np hts hG rfl rfl rfl (hts _ hcw.2.1) (hts _ hln) hcw.2.2 hR, hts _ hcs⟩ hPS rfl hnp hl.1 hstk (lv_room hro) (hT j _ _ _ hd) ⟨hc1, hs1⟩) hS (fun q _ h => hA1 q h) hA1 (fun ad2 a2 t H1 l1 ht hvm hag2 hB hz1 hk1 hS1 => by
    obtain ⟨rfl, hB⟩ := hB
    obtain ⟨hP1, hD1⟩ := hB
    rw [ht] at hP1
    rw [hn] at hag2
    obtain ⟨e1, e2⟩ := hag _ hag2
    have kk := k ad2 _ hag2 ⟨p, l, e, s, m, args, below, meth, c, A, D, cy, Q, hx, hT, hr, hml, hown, hts, hlk, hK, hA, gY.ag hag2 hY, hE, hc1, hs1, rfl⟩
    rw [e1, e2, hls, hst] at kk
    exact kk H1 l1 la hP1 (hD1.weaken (fun _ q _ h => hA1 _ h)) hS1 hl)
end
