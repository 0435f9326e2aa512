/-! ===== the model's text() does not look at the layout ===== -/
theorem zi_isLetter (Z : List gH) : F_X10_isLetter Z = F_X10_isLetter [] := rfl
theorem zi_isFigure (Z : List gH) : F_X10_isFigure Z = F_X10_isFigure [] := rfl
theorem zi_go_L170 (Z : List gH) : F_X10_go_L170 Z = F_X10_go_L170 [] := by
  funext m
  induction m with
  | zero => rfl
  | succ m ih =>
    funext l1 σ
    rw [F_X10_go_L170, F_X10_go_L170, zi_isFigure Z, ih]
theorem zi_go_L93 (Z : List gH) : F_X10_go_L93 Z = F_X10_go_L93 [] := by
  funext m
  induction m with
  | zero => rfl
  | succ m ih =>
    funext l1 σ
    rw [F_X10_go_L93, F_X10_go_L93, zi_isLetter Z, ih]
theorem zi_go_J62 (Z : List gH) : F_X10_go_J62 Z = F_X10_go_J62 [] := by
  funext t0 σ
  unfold F_X10_go_J62
  rw [zi_isLetter Z, zi_isFigure Z, zi_go_L170 Z, zi_go_L93 Z]
theorem zi_go_J38 (Z : List gH) : F_X10_go_J38 Z = F_X10_go_J38 [] := by
  funext σ
  unfold F_X10_go_J38
  rw [zi_go_J62 Z]
theorem zi_go_L0 (Z : List gH) : F_X10_go_L0 Z = F_X10_go_L0 [] := by
  funext m
  induction m with
  | zero => rfl
  | succ m ih =>
    funext σ
    rw [F_X10_go_L0, F_X10_go_L0, zi_go_J38 Z, ih]
theorem zi_go (Z : List gH) : F_X10_go Z = F_X10_go [] := by
  funext σ
  unfold F_X10_go
  rw [zi_go_J38 Z, zi_go_L0 Z]
theorem zi_takesKey_L55 (Z : List gH) : F_X10_takesKey_L55 Z = F_X10_takesKey_L55 [] := by
  funext k12 m
  induction m with
  | zero => rfl
  | succ m ih =>
    funext l1 l2 l3 l4 σ
    rw [F_X10_takesKey_L55, F_X10_takesKey_L55, zi_go Z, ih]
theorem zi_takesKey_L12 (Z : List gH) : F_X10_takesKey_L12 Z = F_X10_takesKey_L12 [] := by
  funext m
  induction m with
  | zero => rfl
  | succ m ih =>
    funext l1 σ
    rw [F_X10_takesKey_L12, F_X10_takesKey_L12, zi_takesKey_L55 Z, ih]
theorem zi_takesKey (Z : List gH) : F_X10_takesKey Z = F_X10_takesKey [] := by
  funext σ
  unfold F_X10_takesKey
  rw [zi_takesKey_L12 Z]
theorem zi_text_L119 (Z : List gH) : F_X10_text_L119 Z = F_X10_text_L119 [] := by
  funext m
  induction m with
  | zero => rfl
  | succ m ih =>
    funext l2 l3 σ
    rw [F_X10_text_L119, F_X10_text_L119, ih]
theorem zi_text_J33 (Z : List gH) : F_X10_text_J33 Z = F_X10_text_J33 [] := by
  funext t0 σ
  unfold F_X10_text_J33
  rw [zi_text_L119 Z]
theorem zi_rank (Z : List gH) : F_X10_rank Z = F_X10_rank [] := rfl
theorem zi_settle_L0 (Z : List gH) : F_X10_settle_L0 Z = F_X10_settle_L0 [] := by
  funext l1 m
  induction m with
  | zero => rfl
  | succ m ih =>
    funext σ
    rw [F_X10_settle_L0, F_X10_settle_L0, zi_rank Z, ih]
theorem zi_settle (Z : List gH) : F_X10_settle Z = F_X10_settle [] := by
  funext l1 σ
  unfold F_X10_settle
  rw [zi_rank Z, zi_settle_L0 Z]
theorem zi_signHere (Z : List gH) : F_X10_signHere Z = F_X10_signHere [] := rfl
theorem zi_takesE_J305 (Z : List gH) : F_X10_takesE_J305 Z = F_X10_takesE_J305 [] := by
  funext k28 l1 l2 l4 t0 t1 σ
  unfold F_X10_takesE_J305
  rw [zi_rank Z, zi_settle Z, zi_go Z]
theorem zi_takesE_J268 (Z : List gH) : F_X10_takesE_J268 Z = F_X10_takesE_J268 [] := by
  funext k28 l1 l2 l4 σ
  unfold F_X10_takesE_J268
  rw [zi_rank Z, zi_takesE_J305 Z]
theorem zi_takesE_J237 (Z : List gH) : F_X10_takesE_J237 Z = F_X10_takesE_J237 [] := by
  funext k28 l1 l2 σ
  unfold F_X10_takesE_J237
  rw [zi_signHere Z, zi_rank Z, zi_takesE_J268 Z]
theorem zi_notsOpen_L4 (Z : List gH) : F_X10_notsOpen_L4 Z = F_X10_notsOpen_L4 [] := by
  funext m
  induction m with
  | zero => rfl
  | succ m ih =>
    funext l1 l2 σ
    rw [F_X10_notsOpen_L4, F_X10_notsOpen_L4, ih]
theorem zi_notsOpen (Z : List gH) : F_X10_notsOpen Z = F_X10_notsOpen [] := by
  funext σ
  unfold F_X10_notsOpen
  rw [zi_notsOpen_L4 Z]
theorem zi_nameOf (Z : List gH) : F_X10_nameOf Z = F_X10_nameOf [] := rfl
theorem zi_takesPart_J87 (Z : List gH) : F_X10_takesPart_J87 Z = F_X10_takesPart_J87 [] := by
  funext t0 t1 σ
  unfold F_X10_takesPart_J87
  rw [zi_settle Z, zi_go Z]
theorem zi_takesPart_J52 (Z : List gH) : F_X10_takesPart_J52 Z = F_X10_takesPart_J52 [] := by
  funext σ
  unfold F_X10_takesPart_J52
  rw [zi_takesPart_J87 Z, zi_nameOf Z]
theorem zi_takesPart_J36 (Z : List gH) : F_X10_takesPart_J36 Z = F_X10_takesPart_J36 [] := by
  funext σ
  unfold F_X10_takesPart_J36
  rw [zi_takesPart_J52 Z]
theorem zi_takesPart (Z : List gH) : F_X10_takesPart Z = F_X10_takesPart [] := by
  funext σ
  unfold F_X10_takesPart
  rw [zi_nameOf Z, zi_takesPart_J36 Z, zi_takesPart_J52 Z]
theorem zi_takesE_J158 (Z : List gH) : F_X10_takesE_J158 Z = F_X10_takesE_J158 [] := by
  funext k28 l1 σ
  unfold F_X10_takesE_J158
  rw [zi_takesPart Z, zi_notsOpen Z]
theorem zi_takesE_J97 (Z : List gH) : F_X10_takesE_J97 Z = F_X10_takesE_J97 [] := by
  funext k28 l1 l3 σ
  unfold F_X10_takesE_J97
  rw [zi_takesE_J158 Z, zi_go Z, zi_notsOpen Z]
theorem zi_takesE_J39 (Z : List gH) : F_X10_takesE_J39 Z = F_X10_takesE_J39 [] := by
  funext k28 l1 l2 l3 σ
  unfold F_X10_takesE_J39
  rw [zi_takesE_J237 Z, zi_settle Z, zi_notsOpen Z, zi_go Z, zi_takesE_J97 Z]
theorem zi_takesE_L28 (Z : List gH) : F_X10_takesE_L28 Z = F_X10_takesE_L28 [] := by
  funext m
  induction m with
  | zero => rfl
  | succ m ih =>
    funext l1 l2 l3 σ
    rw [F_X10_takesE_L28, F_X10_takesE_L28, zi_settle Z, zi_takesE_J39 Z, ih]
theorem zi_takesE (Z : List gH) : F_X10_takesE Z = F_X10_takesE [] := by
  funext σ
  unfold F_X10_takesE
  rw [zi_takesE_L28 Z]
theorem zi_text (Z : List gH) : F_X10_text Z = F_X10_text [] := by
  funext σ
  unfold F_X10_text
  rw [zi_go Z, zi_takesKey Z, zi_text_J33 Z, zi_takesE Z]
