/-! ===== every operation keeps the relation ===== -/
section
variable {Z : List gH}
def OKO (Z : List gH) (R : Option (Int32 × Int32 × gS × List gH)) : Prop := ∃ r σ2 Z2, R = some (r, r, σ2, Z2) ∧ Lay Z2 ∧ gcl Z2 Z2.length ∧ Z2.length ≤ Z.length + 2 ∧ RR Z2 σ2 σ2
theorem Sim.ok {Fc Fm : gS → Option (Int32 × gS)} (h : Sim Z Fc Fm) (hZ : Lay Z) (hgc : gcl Z Z.length) {σ : gS} (hr : RR Z σ σ) : OKO Z (mCall (Fc σ) (fun r1 s1 => mCall (Fm s1) (fun r2 s2 => some (r1, r2, s2, Z)))) := by
  obtain ⟨r, s2, h1, h2⟩ := h.op hr
  exact ⟨r, s2, Z, h1, hZ, hgc, by omega, h2⟩
theorem step_ok (hZ : Lay Z) (hgc : gcl Z Z.length) {σ : gS} (hr : RR Z σ σ) (o a b c d e : Int32) : OKO Z (F_step o a b c d e Z σ) := by
  unfold F_step
  by_cases o0 : o = 0
  · rw [if_pos o0]; exact (sim_thing a b c d : Sim Z _ _).ok hZ hgc hr
  rw [if_neg o0]
  by_cases o1 : o = 1
  · rw [if_pos o1]; exact (sim_told a b : Sim Z _ _).ok hZ hgc hr
  rw [if_neg o1]
  by_cases o2 : o = 2
  · rw [if_pos o2]; exact (sim_as a b : Sim Z _ _).ok hZ hgc hr
  rw [if_neg o2]
  by_cases o3 : o = 3
  · rw [if_pos o3]; exact (sim_turns a b : Sim Z _ _).ok hZ hgc hr
  rw [if_neg o3]
  by_cases o4 : o = 4
  · rw [if_pos o4]; exact (sim_set hZ a b c : Sim Z _ _).ok hZ hgc hr
  rw [if_neg o4]
  by_cases o5 : o = 5
  · rw [if_pos o5]; exact (sim_deal a : Sim Z _ _).ok hZ hgc hr
  rw [if_neg o5]
  by_cases o6 : o = 6
  · rw [if_pos o6]; exact (sim_seed a : Sim Z _ _).ok hZ hgc hr
  rw [if_neg o6]
  by_cases o7 : o = 7
  · rw [if_pos o7]; exact (sim_heat a : Sim Z _ _).ok hZ hgc hr
  rw [if_neg o7]
  by_cases o8 : o = 8
  · rw [if_pos o8]; exact (sim_heats hZ a b : Sim Z _ _).ok hZ hgc hr
  rw [if_neg o8]
  by_cases o9 : o = 9
  · rw [if_pos o9]; exact (sim_door a b c : Sim Z _ _).ok hZ hgc hr
  rw [if_neg o9]
  by_cases o10 : o = 10
  · rw [if_pos o10]; exact (sim_doorTold a b : Sim Z _ _).ok hZ hgc hr
  rw [if_neg o10]
  by_cases o11 : o = 11
  · rw [if_pos o11]; exact (sim_rule a b : Sim Z _ _).ok hZ hgc hr
  rw [if_neg o11]
  by_cases o12 : o = 12
  · rw [if_pos o12]; exact (sim_visitor a : Sim Z _ _).ok hZ hgc hr
  rw [if_neg o12]
  by_cases o13 : o = 13
  · rw [if_pos o13]; exact (sim_likes hZ a b : Sim Z _ _).ok hZ hgc hr
  rw [if_neg o13]
  by_cases o14 : o = 14
  · rw [if_pos o14]; exact (sim_seats a : Sim Z _ _).ok hZ hgc hr
  rw [if_neg o14]
  by_cases o15 : o = 15
  · rw [if_pos o15]; exact (sim_way a b : Sim Z _ _).ok hZ hgc hr
  rw [if_neg o15]
  by_cases o16 : o = 16
  · rw [if_pos o16]; exact (sim_minutes a : Sim Z _ _).ok hZ hgc hr
  rw [if_neg o16]
  by_cases o17 : o = 17
  · rw [if_pos o17]; exact (sim_house a : Sim Z _ _).ok hZ hgc hr
  rw [if_neg o17]
  by_cases o18 : o = 18
  · rw [if_pos o18]; exact (sim_behind hZ a b : Sim Z _ _).ok hZ hgc hr
  rw [if_neg o18]
  by_cases o19 : o = 19
  · rw [if_pos o19]; exact (sim_out hZ : Sim Z _ _).ok hZ hgc hr
  rw [if_neg o19]
  by_cases o20 : o = 20
  · rw [if_pos o20]; exact (sim_hot hZ a : Sim Z _ _).ok hZ hgc hr
  rw [if_neg o20]
  by_cases o21 : o = 21
  · rw [if_pos o21]; exact (sim_shut hZ a b : Sim Z _ _).ok hZ hgc hr
  rw [if_neg o21]
  by_cases o22 : o = 22
  · rw [if_pos o22]; exact (sim_hired hZ a b : Sim Z _ _).ok hZ hgc hr
  rw [if_neg o22]
  by_cases o23 : o = 23
  · rw [if_pos o23]; exact (sim_becomes hZ a b c : Sim Z _ _).ok hZ hgc hr
  rw [if_neg o23]
  by_cases o24 : o = 24
  · rw [if_pos o24]; exact (sim_began hZ a : Sim Z _ _).ok hZ hgc hr
  rw [if_neg o24]
  by_cases o25 : o = 25
  · rw [if_pos o25]; exact (sim_like hZ a b : Sim Z _ _).ok hZ hgc hr
  rw [if_neg o25]
  by_cases o26 : o = 26
  · rw [if_pos o26]; exact (sim_fee : Sim Z _ _).ok hZ hgc hr
  rw [if_neg o26]
  by_cases o27 : o = 27
  · rw [if_pos o27]; exact (sim_fine a : Sim Z _ _).ok hZ hgc hr
  rw [if_neg o27]
  by_cases o28 : o = 28
  · rw [if_pos o28]; exact (sim_feed a b c : Sim Z _ _).ok hZ hgc hr
  rw [if_neg o28]
  by_cases o29 : o = 29
  · rw [if_pos o29]; exact (sim_trim a : Sim Z _ _).ok hZ hgc hr
  rw [if_neg o29]
  by_cases o30 : o = 30
  · rw [if_pos o30]; exact op_text hZ hgc hr a b c d e
  rw [if_neg o30]
  by_cases o31 : o = 31
  · rw [if_pos o31]; exact (sim_textTold a b : Sim Z _ _).ok hZ hgc hr
  rw [if_neg o31]
  by_cases o32 : o = 32
  · rw [if_pos o32]; exact (sim_why a : Sim Z _ _).ok hZ hgc hr
  rw [if_neg o32]
  by_cases o33 : o = 33
  · rw [if_pos o33]; exact (sim_sheet hZ a b c : Sim Z _ _).ok hZ hgc hr
  rw [if_neg o33]
  by_cases o34 : o = 34
  · rw [if_pos o34]; exact (sim_mark a b c : Sim Z _ _).ok hZ hgc hr
  rw [if_neg o34]
  by_cases o35 : o = 35
  · rw [if_pos o35]; exact (sim_pour a : Sim Z _ _).ok hZ hgc hr
  rw [if_neg o35]
  by_cases o36 : o = 36
  · rw [if_pos o36]; exact (sim_reads a : Sim Z _ _).ok hZ hgc hr
  rw [if_neg o36]
  by_cases o37 : o = 37
  · rw [if_pos o37]; exact (sim_copy a b c d e : Sim Z _ _).ok hZ hgc hr
  rw [if_neg o37]
  by_cases o38 : o = 38
  · rw [if_pos o38]; exact (sim_lay a b c : Sim Z _ _).ok hZ hgc hr
  rw [if_neg o38]
  by_cases o39 : o = 39
  · rw [if_pos o39]; exact (sim_ask a b : Sim Z _ _).ok hZ hgc hr
  rw [if_neg o39]
  by_cases o40 : o = 40
  · rw [if_pos o40]; exact (sim_item a b : Sim Z _ _).ok hZ hgc hr
  rw [if_neg o40]
  by_cases o41 : o = 41
  · rw [if_pos o41]; exact (sim_rest a b : Sim Z _ _).ok hZ hgc hr
  rw [if_neg o41]
  by_cases o42 : o = 42
  · rw [if_pos o42]; exact (sim_tell a : Sim Z _ _).ok hZ hgc hr
  rw [if_neg o42]
  by_cases o43 : o = 43
  · rw [if_pos o43]; exact (sim_check hZ a : Sim Z _ _).ok hZ hgc hr
  rw [if_neg o43]
  by_cases o44 : o = 44
  · rw [if_pos o44]; exact (sim_keep hZ : Sim Z _ _).ok hZ hgc hr
  rw [if_neg o44]
  by_cases o45 : o = 45
  · rw [if_pos o45]; exact (sim_back hZ : Sim Z _ _).ok hZ hgc hr
  rw [if_neg o45]
  by_cases o46 : o = 46
  · rw [if_pos o46]; exact (sim_count a : Sim Z _ _).ok hZ hgc hr
  rw [if_neg o46]
  exact ⟨0, σ, Z, rfl, hZ, hgc, by omega, hr⟩
end
theorem pure_main : ∃ Inv : Nat → gS → List gH → Prop, (∀ n σ Z, Inv n σ Z → Lay Z ∧ gcl Z Z.length ∧ Z.length + 2 < 100000) ∧ (∀ n o a b c d e σ Z, Inv (n + 1) σ Z → ∃ r σ2 Z2, F_step o a b c d e Z σ = some (r, r, σ2, Z2) ∧ Inv n σ2 Z2) ∧ (∀ σ, Inv 512 (S_start σ) Zs182) := by
  refine ⟨fun n σ Z => Lay Z ∧ gcl Z Z.length ∧ Z.length + 2 * n ≤ 1114 ∧ RR Z σ σ, fun n σ Z h => ⟨h.1, h.2.1, by have := h.2.2.1; omega⟩, fun n o a b c d e σ Z h => ?_, fun σ => ⟨lay182, gc182, by decide, rr182 σ⟩⟩
  obtain ⟨h1, h2, h3, h4⟩ := h
  obtain ⟨r, σ2, Z2, k1, k2, k3, k4, k5⟩ := step_ok h1 h2 h4 o a b c d e
  exact ⟨r, σ2, Z2, k1, k2, k3, by omega, k5⟩
