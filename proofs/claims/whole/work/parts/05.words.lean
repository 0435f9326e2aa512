/-! ===== words by their places ===== -/
theorem tk1 {w : Cond} (h : w ∈ tables_1_1) : w ∈ lw_tbl := List.mem_append_right _ (show w ∈ tables_1_1 ++ (tables_1_2 ++ (tables_1_3 ++ (tables_1_4 ++ (tables_1_5 ++ tables_1_6)))) from (List.mem_append_left _ h))
theorem tk2 {w : Cond} (h : w ∈ tables_1_2) : w ∈ lw_tbl := List.mem_append_right _ (show w ∈ tables_1_1 ++ (tables_1_2 ++ (tables_1_3 ++ (tables_1_4 ++ (tables_1_5 ++ tables_1_6)))) from (List.mem_append_right _ (List.mem_append_left _ h)))
theorem tk3 {w : Cond} (h : w ∈ tables_1_3) : w ∈ lw_tbl := List.mem_append_right _ (show w ∈ tables_1_1 ++ (tables_1_2 ++ (tables_1_3 ++ (tables_1_4 ++ (tables_1_5 ++ tables_1_6)))) from (List.mem_append_right _ (List.mem_append_right _ (List.mem_append_left _ h))))
theorem tk4 {w : Cond} (h : w ∈ tables_1_4) : w ∈ lw_tbl := List.mem_append_right _ (show w ∈ tables_1_1 ++ (tables_1_2 ++ (tables_1_3 ++ (tables_1_4 ++ (tables_1_5 ++ tables_1_6)))) from (List.mem_append_right _ (List.mem_append_right _ (List.mem_append_right _ (List.mem_append_left _ h)))))
theorem tk5 {w : Cond} (h : w ∈ tables_1_5) : w ∈ lw_tbl := List.mem_append_right _ (show w ∈ tables_1_1 ++ (tables_1_2 ++ (tables_1_3 ++ (tables_1_4 ++ (tables_1_5 ++ tables_1_6)))) from (List.mem_append_right _ (List.mem_append_right _ (List.mem_append_right _ (List.mem_append_right _ (List.mem_append_left _ h))))))
theorem tk6 {w : Cond} (h : w ∈ tables_1_6) : w ∈ lw_tbl := List.mem_append_right _ (show w ∈ tables_1_1 ++ (tables_1_2 ++ (tables_1_3 ++ (tables_1_4 ++ (tables_1_5 ++ tables_1_6)))) from (List.mem_append_right _ (List.mem_append_right _ (List.mem_append_right _ (List.mem_append_right _ (List.mem_append_right _ h))))))
def RJS : String := "java/lang/String"
def RJL : String := "java/lang/StringLatin1"
def RJP : String := "jdk/internal/util/Preconditions"
def RJI : String := "java/lang/Integer"
def RJA : String := "java/util/Arrays"
theorem wd0 : Cond.laysFinal "CopiedFire$House" "CopiedFire$House" "laws" "LCopiedFire$Laws;" ∈ TB := TBm (tk1 (List.mem_of_getElem? (i := 93) (by decide +kernel))) rfl
theorem wd1 : Cond.laysFinal "CopiedFire$House" "CopiedFire$House" "kinds" "[I" ∈ TB := TBm (tk1 (List.mem_of_getElem? (i := 95) (by decide +kernel))) rfl
theorem wd2 : Cond.laysFinal "CopiedFire$House" "CopiedFire$House" "rooms" "[I" ∈ TB := TBm (tk1 (List.mem_of_getElem? (i := 97) (by decide +kernel))) rfl
theorem wd3 : Cond.laysFinal "CopiedFire$House" "CopiedFire$House" "fuels" "[I" ∈ TB := TBm (tk1 (List.mem_of_getElem? (i := 99) (by decide +kernel))) rfl
theorem wd4 : Cond.laysFinal "CopiedFire$House" "CopiedFire$House" "lits" "[I" ∈ TB := TBm (tk1 (List.mem_of_getElem? (i := 101) (by decide +kernel))) rfl
theorem wd5 : Cond.laysFinal "CopiedFire$House" "CopiedFire$House" "heats" "[I" ∈ TB := TBm (tk1 (List.mem_of_getElem? (i := 103) (by decide +kernel))) rfl
theorem wd6 : Cond.laysFinal "CopiedFire$House" "CopiedFire$House" "doors" "[I" ∈ TB := TBm (tk1 (List.mem_of_getElem? (i := 105) (by decide +kernel))) rfl
theorem wd7 : Cond.laysFinal "CopiedFire$House" "CopiedFire$House" "liked" "[I" ∈ TB := TBm (tk1 (List.mem_of_getElem? (i := 107) (by decide +kernel))) rfl
theorem wd8 : Cond.laysFinal "CopiedFire$House" "CopiedFire$House" "counting" "[I" ∈ TB := TBm (tk1 (List.mem_of_getElem? (i := 109) (by decide +kernel))) rfl
theorem wd9 : Cond.lays "CopiedFire$House" "CopiedFire$House" "things" "I" ∈ TB := TBm (tk1 (List.mem_of_getElem? (i := 111) (by decide +kernel))) rfl
theorem wd10 : Cond.lays "CopiedFire$House" "CopiedFire$House" "visitors" "I" ∈ TB := TBm (tk1 (List.mem_of_getElem? (i := 113) (by decide +kernel))) rfl
theorem wd11 : Cond.lays "CopiedFire$House" "CopiedFire$House" "texts" "I" ∈ TB := TBm (tk1 (List.mem_of_getElem? (i := 115) (by decide +kernel))) rfl
theorem wd12 : Cond.lays "CopiedFire$House" "CopiedFire$House" "wind" "I" ∈ TB := TBm (tk1 (List.mem_of_getElem? (i := 117) (by decide +kernel))) rfl
theorem wd13 : Cond.lays "CopiedFire$House" "CopiedFire$House" "cool" "I" ∈ TB := TBm (tk1 (List.mem_of_getElem? (i := 119) (by decide +kernel))) rfl
theorem wd14 : Cond.lays "CopiedFire$House" "CopiedFire$House" "burnt" "I" ∈ TB := TBm (tk1 (List.mem_of_getElem? (i := 121) (by decide +kernel))) rfl
theorem wd15 : Cond.lays "CopiedFire$House" "CopiedFire$House" "ashes" "I" ∈ TB := TBm (tk1 (List.mem_of_getElem? (i := 123) (by decide +kernel))) rfl
theorem wd16 : Cond.lays "CopiedFire$House" "CopiedFire$House" "slams" "I" ∈ TB := TBm (tk1 (List.mem_of_getElem? (i := 125) (by decide +kernel))) rfl
theorem wd17 : Cond.lays "CopiedFire$House" "CopiedFire$House" "minute" "I" ∈ TB := TBm (tk1 (List.mem_of_getElem? (i := 127) (by decide +kernel))) rfl
theorem wd18 : Cond.lays "CopiedFire$House" "CopiedFire$House" "z" "I" ∈ TB := TBm (tk1 (List.mem_of_getElem? (i := 129) (by decide +kernel))) rfl
theorem itX0 : ∀ w ∈ u_ws RX0 TX0 19, w ∈ TB := (List.forall_mem_cons.mpr ⟨wd0, (List.forall_mem_cons.mpr ⟨wd1, (List.forall_mem_cons.mpr ⟨wd2, (List.forall_mem_cons.mpr ⟨wd3, (List.forall_mem_cons.mpr ⟨wd4, (List.forall_mem_cons.mpr ⟨wd5, (List.forall_mem_cons.mpr ⟨wd6, (List.forall_mem_cons.mpr ⟨wd7, (List.forall_mem_cons.mpr ⟨wd8, (List.forall_mem_cons.mpr ⟨wd9, (List.forall_mem_cons.mpr ⟨wd10, (List.forall_mem_cons.mpr ⟨wd11, (List.forall_mem_cons.mpr ⟨wd12, (List.forall_mem_cons.mpr ⟨wd13, (List.forall_mem_cons.mpr ⟨wd14, (List.forall_mem_cons.mpr ⟨wd15, (List.forall_mem_cons.mpr ⟨wd16, (List.forall_mem_cons.mpr ⟨wd17, (List.forall_mem_cons.mpr ⟨wd18, (fun _ h => absurd h List.not_mem_nil)⟩)⟩)⟩)⟩)⟩)⟩)⟩)⟩)⟩)⟩)⟩)⟩)⟩)⟩)⟩)⟩)⟩)⟩)⟩)
theorem wd19 : Cond.laysFinal "CopiedFire$Laws" "CopiedFire$Laws" "rows" "[LCopiedFire$Text;" ∈ TB := TBm (tk1 (List.mem_of_getElem? (i := 39) (by decide +kernel))) rfl
theorem wd20 : Cond.laysFinal "CopiedFire$Laws" "CopiedFire$Laws" "stack" "[I" ∈ TB := TBm (tk1 (List.mem_of_getElem? (i := 41) (by decide +kernel))) rfl
theorem itX2 : ∀ w ∈ u_ws RX2 TX2 2, w ∈ TB := (List.forall_mem_cons.mpr ⟨wd19, (List.forall_mem_cons.mpr ⟨wd20, (fun _ h => absurd h List.not_mem_nil)⟩)⟩)
theorem wd21 : Cond.laysFinal "CopiedFire$Reader" "CopiedFire$Reader" "tape" "LCopiedFire$Tape;" ∈ TB := TBm (tk1 (List.mem_of_getElem? (i := 179) (by decide +kernel))) rfl
theorem wd22 : Cond.laysFinal "CopiedFire$Reader" "CopiedFire$Reader" "steps" "[I" ∈ TB := TBm (tk1 (List.mem_of_getElem? (i := 181) (by decide +kernel))) rfl
theorem wd23 : Cond.lays "CopiedFire$Reader" "CopiedFire$Reader" "made" "I" ∈ TB := TBm (tk1 (List.mem_of_getElem? (i := 183) (by decide +kernel))) rfl
theorem wd24 : Cond.lays "CopiedFire$Reader" "CopiedFire$Reader" "operands" "I" ∈ TB := TBm (tk1 (List.mem_of_getElem? (i := 185) (by decide +kernel))) rfl
theorem wd25 : Cond.lays "CopiedFire$Reader" "CopiedFire$Reader" "key" "I" ∈ TB := TBm (tk1 (List.mem_of_getElem? (i := 187) (by decide +kernel))) rfl
theorem wd26 : Cond.lays "CopiedFire$Reader" "CopiedFire$Reader" "token" "I" ∈ TB := TBm (tk1 (List.mem_of_getElem? (i := 189) (by decide +kernel))) rfl
theorem wd27 : Cond.lays "CopiedFire$Reader" "CopiedFire$Reader" "start" "I" ∈ TB := TBm (tk1 (List.mem_of_getElem? (i := 191) (by decide +kernel))) rfl
theorem wd28 : Cond.lays "CopiedFire$Reader" "CopiedFire$Reader" "next" "I" ∈ TB := TBm (tk1 (List.mem_of_getElem? (i := 193) (by decide +kernel))) rfl
theorem wd29 : Cond.lays "CopiedFire$Reader" "CopiedFire$Reader" "fault" "I" ∈ TB := TBm (tk1 (List.mem_of_getElem? (i := 195) (by decide +kernel))) rfl
theorem itX3 : ∀ w ∈ u_ws RX3 TX3 9, w ∈ TB := (List.forall_mem_cons.mpr ⟨wd21, (List.forall_mem_cons.mpr ⟨wd22, (List.forall_mem_cons.mpr ⟨wd23, (List.forall_mem_cons.mpr ⟨wd24, (List.forall_mem_cons.mpr ⟨wd25, (List.forall_mem_cons.mpr ⟨wd26, (List.forall_mem_cons.mpr ⟨wd27, (List.forall_mem_cons.mpr ⟨wd28, (List.forall_mem_cons.mpr ⟨wd29, (fun _ h => absurd h List.not_mem_nil)⟩)⟩)⟩)⟩)⟩)⟩)⟩)⟩)⟩)
theorem wd30 : Cond.laysFinal "CopiedFire$Seating" "CopiedFire$Seating" "likedByGroup" "[I" ∈ TB := TBm (tk1 (List.mem_of_getElem? (i := 141) (by decide +kernel))) rfl
theorem wd31 : Cond.laysFinal "CopiedFire$Seating" "CopiedFire$Seating" "given" "[I" ∈ TB := TBm (tk1 (List.mem_of_getElem? (i := 143) (by decide +kernel))) rfl
theorem itX4 : ∀ w ∈ u_ws RX4 TX4 2, w ∈ TB := (List.forall_mem_cons.mpr ⟨wd30, (List.forall_mem_cons.mpr ⟨wd31, (fun _ h => absurd h List.not_mem_nil)⟩)⟩)
theorem wd32 : Cond.laysFinal "CopiedFire$Sheet" "CopiedFire$Sheet" "places" "[I" ∈ TB := TBm (tk1 (List.mem_of_getElem? (i := 211) (by decide +kernel))) rfl
theorem wd33 : Cond.lays "CopiedFire$Sheet" "CopiedFire$Sheet" "sort" "I" ∈ TB := TBm (tk1 (List.mem_of_getElem? (i := 213) (by decide +kernel))) rfl
theorem wd34 : Cond.lays "CopiedFire$Sheet" "CopiedFire$Sheet" "length" "I" ∈ TB := TBm (tk1 (List.mem_of_getElem? (i := 215) (by decide +kernel))) rfl
theorem itX5 : ∀ w ∈ u_ws RX5 TX5 3, w ∈ TB := (List.forall_mem_cons.mpr ⟨wd32, (List.forall_mem_cons.mpr ⟨wd33, (List.forall_mem_cons.mpr ⟨wd34, (fun _ h => absurd h List.not_mem_nil)⟩)⟩)⟩)
theorem wd35 : Cond.laysFinal "CopiedFire$Slot" "CopiedFire$Slot" "row" "LCopiedFire$Sheet;" ∈ TB := TBm (tk1 (List.mem_of_getElem? (i := 234) (by decide +kernel))) rfl
theorem wd36 : Cond.lays "CopiedFire$Slot" "CopiedFire$Slot" "holds" "I" ∈ TB := TBm (tk1 (List.mem_of_getElem? (i := 236) (by decide +kernel))) rfl
theorem wd37 : Cond.lays "CopiedFire$Slot" "CopiedFire$Slot" "kind" "I" ∈ TB := TBm (tk1 (List.mem_of_getElem? (i := 238) (by decide +kernel))) rfl
theorem wd38 : Cond.lays "CopiedFire$Slot" "CopiedFire$Slot" "fuel" "I" ∈ TB := TBm (tk2 (List.mem_of_getElem? (i := 0) (by decide +kernel))) rfl
theorem wd39 : Cond.lays "CopiedFire$Slot" "CopiedFire$Slot" "number" "I" ∈ TB := TBm (tk2 (List.mem_of_getElem? (i := 2) (by decide +kernel))) rfl
theorem itX6 : ∀ w ∈ u_ws RX6 TX6 5, w ∈ TB := (List.forall_mem_cons.mpr ⟨wd35, (List.forall_mem_cons.mpr ⟨wd36, (List.forall_mem_cons.mpr ⟨wd37, (List.forall_mem_cons.mpr ⟨wd38, (List.forall_mem_cons.mpr ⟨wd39, (fun _ h => absurd h List.not_mem_nil)⟩)⟩)⟩)⟩)⟩)
theorem wd40 : Cond.laysFinal "CopiedFire$Tape" "CopiedFire$Tape" "bytes" "[I" ∈ TB := TBm (tk1 (List.mem_of_getElem? (i := 157) (by decide +kernel))) rfl
theorem wd41 : Cond.lays "CopiedFire$Tape" "CopiedFire$Tape" "length" "I" ∈ TB := TBm (tk1 (List.mem_of_getElem? (i := 159) (by decide +kernel))) rfl
theorem itX7 : ∀ w ∈ u_ws RX7 TX7 2, w ∈ TB := (List.forall_mem_cons.mpr ⟨wd40, (List.forall_mem_cons.mpr ⟨wd41, (fun _ h => absurd h List.not_mem_nil)⟩)⟩)
theorem wd42 : Cond.laysFinal "CopiedFire$Text" "CopiedFire$Text" "key" "I" ∈ TB := TBm (tk4 (List.mem_of_getElem? (i := 86) (by decide +kernel))) rfl
theorem wd43 : Cond.laysFinal "CopiedFire$Text" "CopiedFire$Text" "operands" "I" ∈ TB := TBm (tk4 (List.mem_of_getElem? (i := 88) (by decide +kernel))) rfl
theorem wd44 : Cond.laysFinal "CopiedFire$Text" "CopiedFire$Text" "steps" "[I" ∈ TB := TBm (tk4 (List.mem_of_getElem? (i := 90) (by decide +kernel))) rfl
theorem itX8 : ∀ w ∈ u_ws RX8 TX8 3, w ∈ TB := (List.forall_mem_cons.mpr ⟨wd42, (List.forall_mem_cons.mpr ⟨wd43, (List.forall_mem_cons.mpr ⟨wd44, (fun _ h => absurd h List.not_mem_nil)⟩)⟩)⟩)
theorem wd45 : Cond.laysFinal "CopiedFire" "CopiedFire" "laws" "LCopiedFire$Laws;" ∈ TB := TBm (tk2 (List.mem_of_getElem? (i := 18) (by decide +kernel))) rfl
theorem wd46 : Cond.laysFinal "CopiedFire" "CopiedFire" "now" "LCopiedFire$House;" ∈ TB := TBm (tk2 (List.mem_of_getElem? (i := 20) (by decide +kernel))) rfl
theorem wd47 : Cond.laysFinal "CopiedFire" "CopiedFire" "image" "LCopiedFire$House;" ∈ TB := TBm (tk2 (List.mem_of_getElem? (i := 22) (by decide +kernel))) rfl
theorem wd48 : Cond.laysFinal "CopiedFire" "CopiedFire" "thought" "LCopiedFire$House;" ∈ TB := TBm (tk2 (List.mem_of_getElem? (i := 24) (by decide +kernel))) rfl
theorem wd49 : Cond.laysFinal "CopiedFire" "CopiedFire" "seating" "LCopiedFire$Seating;" ∈ TB := TBm (tk2 (List.mem_of_getElem? (i := 26) (by decide +kernel))) rfl
theorem wd50 : Cond.laysFinal "CopiedFire" "CopiedFire" "tape" "LCopiedFire$Tape;" ∈ TB := TBm (tk2 (List.mem_of_getElem? (i := 28) (by decide +kernel))) rfl
theorem wd51 : Cond.laysFinal "CopiedFire" "CopiedFire" "reader" "LCopiedFire$Reader;" ∈ TB := TBm (tk2 (List.mem_of_getElem? (i := 30) (by decide +kernel))) rfl
theorem wd52 : Cond.laysFinal "CopiedFire" "CopiedFire" "sheets" "[LCopiedFire$Sheet;" ∈ TB := TBm (tk2 (List.mem_of_getElem? (i := 32) (by decide +kernel))) rfl
theorem wd53 : Cond.laysFinal "CopiedFire" "CopiedFire" "slots" "[LCopiedFire$Slot;" ∈ TB := TBm (tk2 (List.mem_of_getElem? (i := 34) (by decide +kernel))) rfl
theorem wd54 : Cond.laysFinal "CopiedFire" "CopiedFire" "sums" "[I" ∈ TB := TBm (tk2 (List.mem_of_getElem? (i := 36) (by decide +kernel))) rfl
theorem wd55 : Cond.laysFinal "CopiedFire" "CopiedFire" "waiting" "[I" ∈ TB := TBm (tk2 (List.mem_of_getElem? (i := 38) (by decide +kernel))) rfl
theorem wd56 : Cond.lays "CopiedFire" "CopiedFire" "waits" "I" ∈ TB := TBm (tk2 (List.mem_of_getElem? (i := 40) (by decide +kernel))) rfl
theorem wd57 : Cond.lays "CopiedFire" "CopiedFire" "kept" "Z" ∈ TB := TBm (tk2 (List.mem_of_getElem? (i := 42) (by decide +kernel))) rfl
theorem itX9 : ∀ w ∈ u_ws RX9 TX9 13, w ∈ TB := (List.forall_mem_cons.mpr ⟨wd45, (List.forall_mem_cons.mpr ⟨wd46, (List.forall_mem_cons.mpr ⟨wd47, (List.forall_mem_cons.mpr ⟨wd48, (List.forall_mem_cons.mpr ⟨wd49, (List.forall_mem_cons.mpr ⟨wd50, (List.forall_mem_cons.mpr ⟨wd51, (List.forall_mem_cons.mpr ⟨wd52, (List.forall_mem_cons.mpr ⟨wd53, (List.forall_mem_cons.mpr ⟨wd54, (List.forall_mem_cons.mpr ⟨wd55, (List.forall_mem_cons.mpr ⟨wd56, (List.forall_mem_cons.mpr ⟨wd57, (fun _ h => absurd h List.not_mem_nil)⟩)⟩)⟩)⟩)⟩)⟩)⟩)⟩)⟩)⟩)⟩)⟩)⟩)
theorem wd58 : Cond.laysFinal "CopiedFireModel" "CopiedFireModel" "now" "[I" ∈ TB := TBm (tk5 (List.mem_of_getElem? (i := 3) (by decide +kernel))) rfl
theorem wd59 : Cond.laysFinal "CopiedFireModel" "CopiedFireModel" "image" "[I" ∈ TB := TBm (tk5 (List.mem_of_getElem? (i := 5) (by decide +kernel))) rfl
theorem wd60 : Cond.laysFinal "CopiedFireModel" "CopiedFireModel" "aside" "[I" ∈ TB := TBm (tk5 (List.mem_of_getElem? (i := 7) (by decide +kernel))) rfl
theorem wd61 : Cond.lays "CopiedFireModel" "CopiedFireModel" "hasImage" "Z" ∈ TB := TBm (tk5 (List.mem_of_getElem? (i := 9) (by decide +kernel))) rfl
theorem wd62 : Cond.laysFinal "CopiedFireModel" "CopiedFireModel" "seat" "[I" ∈ TB := TBm (tk5 (List.mem_of_getElem? (i := 11) (by decide +kernel))) rfl
theorem wd63 : Cond.laysFinal "CopiedFireModel" "CopiedFireModel" "bestSeat" "[I" ∈ TB := TBm (tk5 (List.mem_of_getElem? (i := 13) (by decide +kernel))) rfl
theorem wd64 : Cond.lays "CopiedFireModel" "CopiedFireModel" "mostSeats" "I" ∈ TB := TBm (tk5 (List.mem_of_getElem? (i := 15) (by decide +kernel))) rfl
theorem wd65 : Cond.laysFinal "CopiedFireModel" "CopiedFireModel" "before" "[I" ∈ TB := TBm (tk5 (List.mem_of_getElem? (i := 17) (by decide +kernel))) rfl
theorem wd66 : Cond.laysFinal "CopiedFireModel" "CopiedFireModel" "off" "[I" ∈ TB := TBm (tk5 (List.mem_of_getElem? (i := 19) (by decide +kernel))) rfl
theorem wd67 : Cond.laysFinal "CopiedFireModel" "CopiedFireModel" "tape" "[I" ∈ TB := TBm (tk5 (List.mem_of_getElem? (i := 21) (by decide +kernel))) rfl
theorem wd68 : Cond.lays "CopiedFireModel" "CopiedFireModel" "taped" "I" ∈ TB := TBm (tk5 (List.mem_of_getElem? (i := 23) (by decide +kernel))) rfl
theorem wd69 : Cond.lays "CopiedFireModel" "CopiedFireModel" "next" "I" ∈ TB := TBm (tk5 (List.mem_of_getElem? (i := 25) (by decide +kernel))) rfl
theorem wd70 : Cond.lays "CopiedFireModel" "CopiedFireModel" "from" "I" ∈ TB := TBm (tk5 (List.mem_of_getElem? (i := 27) (by decide +kernel))) rfl
theorem wd71 : Cond.lays "CopiedFireModel" "CopiedFireModel" "token" "I" ∈ TB := TBm (tk5 (List.mem_of_getElem? (i := 29) (by decide +kernel))) rfl
theorem wd72 : Cond.lays "CopiedFireModel" "CopiedFireModel" "value" "I" ∈ TB := TBm (tk5 (List.mem_of_getElem? (i := 31) (by decide +kernel))) rfl
theorem wd73 : Cond.lays "CopiedFireModel" "CopiedFireModel" "ended" "I" ∈ TB := TBm (tk5 (List.mem_of_getElem? (i := 33) (by decide +kernel))) rfl
theorem wd74 : Cond.lays "CopiedFireModel" "CopiedFireModel" "key" "I" ∈ TB := TBm (tk5 (List.mem_of_getElem? (i := 35) (by decide +kernel))) rfl
theorem wd75 : Cond.laysFinal "CopiedFireModel" "CopiedFireModel" "keys" "[C" ∈ TB := TBm (tk5 (List.mem_of_getElem? (i := 37) (by decide +kernel))) rfl
theorem wd76 : Cond.laysFinal "CopiedFireModel" "CopiedFireModel" "keyAt" "[I" ∈ TB := TBm (tk5 (List.mem_of_getElem? (i := 39) (by decide +kernel))) rfl
theorem wd77 : Cond.laysFinal "CopiedFireModel" "CopiedFireModel" "code" "[I" ∈ TB := TBm (tk5 (List.mem_of_getElem? (i := 41) (by decide +kernel))) rfl
theorem wd78 : Cond.lays "CopiedFireModel" "CopiedFireModel" "codes" "I" ∈ TB := TBm (tk5 (List.mem_of_getElem? (i := 43) (by decide +kernel))) rfl
theorem wd79 : Cond.lays "CopiedFireModel" "CopiedFireModel" "atoms" "I" ∈ TB := TBm (tk5 (List.mem_of_getElem? (i := 45) (by decide +kernel))) rfl
theorem wd80 : Cond.laysFinal "CopiedFireModel" "CopiedFireModel" "waits" "[I" ∈ TB := TBm (tk5 (List.mem_of_getElem? (i := 47) (by decide +kernel))) rfl
theorem wd81 : Cond.lays "CopiedFireModel" "CopiedFireModel" "held" "I" ∈ TB := TBm (tk5 (List.mem_of_getElem? (i := 49) (by decide +kernel))) rfl
theorem wd82 : Cond.laysFinal "CopiedFireModel" "CopiedFireModel" "tested" "[Z" ∈ TB := TBm (tk5 (List.mem_of_getElem? (i := 51) (by decide +kernel))) rfl
theorem wd83 : Cond.laysFinal "CopiedFireModel" "CopiedFireModel" "stack" "[I" ∈ TB := TBm (tk5 (List.mem_of_getElem? (i := 53) (by decide +kernel))) rfl
theorem wd84 : Cond.laysFinal "CopiedFireModel" "CopiedFireModel" "facts" "[I" ∈ TB := TBm (tk5 (List.mem_of_getElem? (i := 55) (by decide +kernel))) rfl
theorem wd85 : Cond.laysFinal "CopiedFireModel" "CopiedFireModel" "sorts" "[I" ∈ TB := TBm (tk5 (List.mem_of_getElem? (i := 57) (by decide +kernel))) rfl
theorem wd86 : Cond.laysFinal "CopiedFireModel" "CopiedFireModel" "sizes" "[I" ∈ TB := TBm (tk5 (List.mem_of_getElem? (i := 59) (by decide +kernel))) rfl
theorem wd87 : Cond.laysFinal "CopiedFireModel" "CopiedFireModel" "cells" "[I" ∈ TB := TBm (tk5 (List.mem_of_getElem? (i := 61) (by decide +kernel))) rfl
theorem wd88 : Cond.laysFinal "CopiedFireModel" "CopiedFireModel" "holds" "[I" ∈ TB := TBm (tk5 (List.mem_of_getElem? (i := 63) (by decide +kernel))) rfl
theorem wd89 : Cond.laysFinal "CopiedFireModel" "CopiedFireModel" "holdsA" "[I" ∈ TB := TBm (tk5 (List.mem_of_getElem? (i := 65) (by decide +kernel))) rfl
theorem wd90 : Cond.laysFinal "CopiedFireModel" "CopiedFireModel" "holdsB" "[I" ∈ TB := TBm (tk5 (List.mem_of_getElem? (i := 67) (by decide +kernel))) rfl
theorem wd91 : Cond.laysFinal "CopiedFireModel" "CopiedFireModel" "heldCells" "[I" ∈ TB := TBm (tk5 (List.mem_of_getElem? (i := 69) (by decide +kernel))) rfl
theorem wd92 : Cond.laysFinal "CopiedFireModel" "CopiedFireModel" "moved" "[I" ∈ TB := TBm (tk5 (List.mem_of_getElem? (i := 71) (by decide +kernel))) rfl
theorem wd93 : Cond.laysFinal "CopiedFireModel" "CopiedFireModel" "tells" "[I" ∈ TB := TBm (tk5 (List.mem_of_getElem? (i := 73) (by decide +kernel))) rfl
theorem wd94 : Cond.lays "CopiedFireModel" "CopiedFireModel" "waiting" "I" ∈ TB := TBm (tk5 (List.mem_of_getElem? (i := 75) (by decide +kernel))) rfl
theorem itX10 : ∀ w ∈ u_ws RX10 TX10 37, w ∈ TB := (List.forall_mem_cons.mpr ⟨wd58, (List.forall_mem_cons.mpr ⟨wd59, (List.forall_mem_cons.mpr ⟨wd60, (List.forall_mem_cons.mpr ⟨wd61, (List.forall_mem_cons.mpr ⟨wd62, (List.forall_mem_cons.mpr ⟨wd63, (List.forall_mem_cons.mpr ⟨wd64, (List.forall_mem_cons.mpr ⟨wd65, (List.forall_mem_cons.mpr ⟨wd66, (List.forall_mem_cons.mpr ⟨wd67, (List.forall_mem_cons.mpr ⟨wd68, (List.forall_mem_cons.mpr ⟨wd69, (List.forall_mem_cons.mpr ⟨wd70, (List.forall_mem_cons.mpr ⟨wd71, (List.forall_mem_cons.mpr ⟨wd72, (List.forall_mem_cons.mpr ⟨wd73, (List.forall_mem_cons.mpr ⟨wd74, (List.forall_mem_cons.mpr ⟨wd75, (List.forall_mem_cons.mpr ⟨wd76, (List.forall_mem_cons.mpr ⟨wd77, (List.forall_mem_cons.mpr ⟨wd78, (List.forall_mem_cons.mpr ⟨wd79, (List.forall_mem_cons.mpr ⟨wd80, (List.forall_mem_cons.mpr ⟨wd81, (List.forall_mem_cons.mpr ⟨wd82, (List.forall_mem_cons.mpr ⟨wd83, (List.forall_mem_cons.mpr ⟨wd84, (List.forall_mem_cons.mpr ⟨wd85, (List.forall_mem_cons.mpr ⟨wd86, (List.forall_mem_cons.mpr ⟨wd87, (List.forall_mem_cons.mpr ⟨wd88, (List.forall_mem_cons.mpr ⟨wd89, (List.forall_mem_cons.mpr ⟨wd90, (List.forall_mem_cons.mpr ⟨wd91, (List.forall_mem_cons.mpr ⟨wd92, (List.forall_mem_cons.mpr ⟨wd93, (List.forall_mem_cons.mpr ⟨wd94, (fun _ h => absurd h List.not_mem_nil)⟩)⟩)⟩)⟩)⟩)⟩)⟩)⟩)⟩)⟩)⟩)⟩)⟩)⟩)⟩)⟩)⟩)⟩)⟩)⟩)⟩)⟩)⟩)⟩)⟩)⟩)⟩)⟩)⟩)⟩)⟩)⟩)⟩)⟩)⟩)⟩)⟩)
theorem wd95 : Cond.fieldLink "CopiedFire$Laws" 11 "CopiedFire$Laws" "rows" "[LCopiedFire$Text;" ∈ TB := TBm (tk1 (List.mem_of_getElem? (i := 37) (by decide +kernel))) rfl
theorem flX2_11 : gFl RX2 11 1 0 := ⟨RX2, TX2, 2, rfl, by decide, itX2, Or.inl wd95⟩
theorem wd96 : Cond.fieldLink "CopiedFire$Laws" 17 "CopiedFire$Laws" "stack" "[I" ∈ TB := TBm (tk1 (List.mem_of_getElem? (i := 38) (by decide +kernel))) rfl
theorem flX2_17 : gFl RX2 17 1 1 := ⟨RX2, TX2, 2, rfl, by decide, itX2, Or.inl wd96⟩
theorem wd97 : Cond.fieldLink "CopiedFire$House" 9 "CopiedFire$House" "laws" "LCopiedFire$Laws;" ∈ TB := TBm (tk1 (List.mem_of_getElem? (i := 54) (by decide +kernel))) rfl
theorem flX0_9 : gFl RX0 9 0 0 := ⟨RX0, TX0, 19, rfl, by decide, itX0, Or.inl wd97⟩
theorem wd98 : Cond.fieldLink "CopiedFire$House" 15 "CopiedFire$House" "kinds" "[I" ∈ TB := TBm (tk1 (List.mem_of_getElem? (i := 55) (by decide +kernel))) rfl
theorem flX0_15 : gFl RX0 15 0 1 := ⟨RX0, TX0, 19, rfl, by decide, itX0, Or.inl wd98⟩
theorem wn0 : Cond.fieldLinkNest "CopiedFire" 106 "CopiedFire$House" "kinds" "[I" "CopiedFire" ∈ NW := NWm (tk1 (List.mem_of_getElem? (i := 56) (by decide +kernel))) rfl
theorem flX9_106 : gFl RX9 106 0 1 := ⟨RX0, TX0, 19, rfl, by decide, itX0, Or.inr ⟨_, wn0⟩⟩
theorem wd99 : Cond.fieldLink "CopiedFire$House" 19 "CopiedFire$House" "rooms" "[I" ∈ TB := TBm (tk1 (List.mem_of_getElem? (i := 57) (by decide +kernel))) rfl
theorem flX0_19 : gFl RX0 19 0 2 := ⟨RX0, TX0, 19, rfl, by decide, itX0, Or.inl wd99⟩
theorem wn1 : Cond.fieldLinkNest "CopiedFire" 109 "CopiedFire$House" "rooms" "[I" "CopiedFire" ∈ NW := NWm (tk1 (List.mem_of_getElem? (i := 58) (by decide +kernel))) rfl
theorem flX9_109 : gFl RX9 109 0 2 := ⟨RX0, TX0, 19, rfl, by decide, itX0, Or.inr ⟨_, wn1⟩⟩
theorem wd100 : Cond.fieldLink "CopiedFire$House" 22 "CopiedFire$House" "fuels" "[I" ∈ TB := TBm (tk1 (List.mem_of_getElem? (i := 59) (by decide +kernel))) rfl
theorem flX0_22 : gFl RX0 22 0 3 := ⟨RX0, TX0, 19, rfl, by decide, itX0, Or.inl wd100⟩
theorem wn2 : Cond.fieldLinkNest "CopiedFire" 112 "CopiedFire$House" "fuels" "[I" "CopiedFire" ∈ NW := NWm (tk1 (List.mem_of_getElem? (i := 60) (by decide +kernel))) rfl
theorem flX9_112 : gFl RX9 112 0 3 := ⟨RX0, TX0, 19, rfl, by decide, itX0, Or.inr ⟨_, wn2⟩⟩
theorem wd101 : Cond.fieldLink "CopiedFire$House" 25 "CopiedFire$House" "lits" "[I" ∈ TB := TBm (tk1 (List.mem_of_getElem? (i := 61) (by decide +kernel))) rfl
theorem flX0_25 : gFl RX0 25 0 4 := ⟨RX0, TX0, 19, rfl, by decide, itX0, Or.inl wd101⟩
theorem wn3 : Cond.fieldLinkNest "CopiedFire" 115 "CopiedFire$House" "lits" "[I" "CopiedFire" ∈ NW := NWm (tk1 (List.mem_of_getElem? (i := 62) (by decide +kernel))) rfl
theorem flX9_115 : gFl RX9 115 0 4 := ⟨RX0, TX0, 19, rfl, by decide, itX0, Or.inr ⟨_, wn3⟩⟩
theorem wd102 : Cond.fieldLink "CopiedFire$House" 28 "CopiedFire$House" "heats" "[I" ∈ TB := TBm (tk1 (List.mem_of_getElem? (i := 63) (by decide +kernel))) rfl
theorem flX0_28 : gFl RX0 28 0 5 := ⟨RX0, TX0, 19, rfl, by decide, itX0, Or.inl wd102⟩
theorem wn4 : Cond.fieldLinkNest "CopiedFire$Seating" 37 "CopiedFire$House" "heats" "[I" "CopiedFire" ∈ NW := NWm (tk1 (List.mem_of_getElem? (i := 64) (by decide +kernel))) rfl
theorem flX4_37 : gFl RX4 37 0 5 := ⟨RX0, TX0, 19, rfl, by decide, itX0, Or.inr ⟨_, wn4⟩⟩
theorem wn5 : Cond.fieldLinkNest "CopiedFire" 154 "CopiedFire$House" "heats" "[I" "CopiedFire" ∈ NW := NWm (tk1 (List.mem_of_getElem? (i := 65) (by decide +kernel))) rfl
theorem flX9_154 : gFl RX9 154 0 5 := ⟨RX0, TX0, 19, rfl, by decide, itX0, Or.inr ⟨_, wn5⟩⟩
theorem wd103 : Cond.fieldLink "CopiedFire$House" 31 "CopiedFire$House" "doors" "[I" ∈ TB := TBm (tk1 (List.mem_of_getElem? (i := 66) (by decide +kernel))) rfl
theorem flX0_31 : gFl RX0 31 0 6 := ⟨RX0, TX0, 19, rfl, by decide, itX0, Or.inl wd103⟩
theorem wd104 : Cond.fieldLink "CopiedFire$House" 34 "CopiedFire$House" "liked" "[I" ∈ TB := TBm (tk1 (List.mem_of_getElem? (i := 67) (by decide +kernel))) rfl
theorem flX0_34 : gFl RX0 34 0 7 := ⟨RX0, TX0, 19, rfl, by decide, itX0, Or.inl wd104⟩
theorem wn6 : Cond.fieldLinkNest "CopiedFire$Seating" 40 "CopiedFire$House" "liked" "[I" "CopiedFire" ∈ NW := NWm (tk1 (List.mem_of_getElem? (i := 68) (by decide +kernel))) rfl
theorem flX4_40 : gFl RX4 40 0 7 := ⟨RX0, TX0, 19, rfl, by decide, itX0, Or.inr ⟨_, wn6⟩⟩
theorem wn7 : Cond.fieldLinkNest "CopiedFire" 176 "CopiedFire$House" "liked" "[I" "CopiedFire" ∈ NW := NWm (tk1 (List.mem_of_getElem? (i := 69) (by decide +kernel))) rfl
theorem flX9_176 : gFl RX9 176 0 7 := ⟨RX0, TX0, 19, rfl, by decide, itX0, Or.inr ⟨_, wn7⟩⟩
theorem wd105 : Cond.fieldLink "CopiedFire$House" 37 "CopiedFire$House" "counting" "[I" ∈ TB := TBm (tk1 (List.mem_of_getElem? (i := 70) (by decide +kernel))) rfl
theorem flX0_37 : gFl RX0 37 0 8 := ⟨RX0, TX0, 19, rfl, by decide, itX0, Or.inl wd105⟩
theorem wn8 : Cond.fieldLinkNest "CopiedFire" 239 "CopiedFire$House" "counting" "[I" "CopiedFire" ∈ NW := NWm (tk1 (List.mem_of_getElem? (i := 71) (by decide +kernel))) rfl
theorem flX9_239 : gFl RX9 239 0 8 := ⟨RX0, TX0, 19, rfl, by decide, itX0, Or.inr ⟨_, wn8⟩⟩
theorem wn9 : Cond.fieldLinkNest "CopiedFire" 95 "CopiedFire$House" "things" "I" "CopiedFire" ∈ NW := NWm (tk1 (List.mem_of_getElem? (i := 72) (by decide +kernel))) rfl
theorem flX9_95 : gFl RX9 95 0 9 := ⟨RX0, TX0, 19, rfl, by decide, itX0, Or.inr ⟨_, wn9⟩⟩
theorem fpX9_95 : gFp RX9 95 0 9 .int := ⟨RX0, TX0, 19, rfl, by decide, itX0, ⟨tyX0, tyX0_ok⟩, nmX0, rfl, by decide +kernel, Or.inr ⟨_, wn9⟩⟩
theorem wd106 : Cond.fieldLink "CopiedFire$House" 62 "CopiedFire$House" "things" "I" ∈ TB := TBm (tk1 (List.mem_of_getElem? (i := 73) (by decide +kernel))) rfl
theorem flX0_62 : gFl RX0 62 0 9 := ⟨RX0, TX0, 19, rfl, by decide, itX0, Or.inl wd106⟩
theorem fpX0_62 : gFp RX0 62 0 9 .int := ⟨RX0, TX0, 19, rfl, by decide, itX0, ⟨tyX0, tyX0_ok⟩, nmX0, rfl, by decide +kernel, Or.inl wd106⟩
theorem wn10 : Cond.fieldLinkNest "CopiedFire$Seating" 22 "CopiedFire$House" "visitors" "I" "CopiedFire" ∈ NW := NWm (tk1 (List.mem_of_getElem? (i := 74) (by decide +kernel))) rfl
theorem flX4_22 : gFl RX4 22 0 10 := ⟨RX0, TX0, 19, rfl, by decide, itX0, Or.inr ⟨_, wn10⟩⟩
theorem fpX4_22 : gFp RX4 22 0 10 .int := ⟨RX0, TX0, 19, rfl, by decide, itX0, ⟨tyX0, tyX0_ok⟩, nmX0, rfl, by decide +kernel, Or.inr ⟨_, wn10⟩⟩
theorem wd107 : Cond.fieldLink "CopiedFire$House" 65 "CopiedFire$House" "visitors" "I" ∈ TB := TBm (tk1 (List.mem_of_getElem? (i := 75) (by decide +kernel))) rfl
theorem flX0_65 : gFl RX0 65 0 10 := ⟨RX0, TX0, 19, rfl, by decide, itX0, Or.inl wd107⟩
theorem fpX0_65 : gFp RX0 65 0 10 .int := ⟨RX0, TX0, 19, rfl, by decide, itX0, ⟨tyX0, tyX0_ok⟩, nmX0, rfl, by decide +kernel, Or.inl wd107⟩
theorem wn11 : Cond.fieldLinkNest "CopiedFire" 173 "CopiedFire$House" "visitors" "I" "CopiedFire" ∈ NW := NWm (tk1 (List.mem_of_getElem? (i := 76) (by decide +kernel))) rfl
theorem flX9_173 : gFl RX9 173 0 10 := ⟨RX0, TX0, 19, rfl, by decide, itX0, Or.inr ⟨_, wn11⟩⟩
theorem fpX9_173 : gFp RX9 173 0 10 .int := ⟨RX0, TX0, 19, rfl, by decide, itX0, ⟨tyX0, tyX0_ok⟩, nmX0, rfl, by decide +kernel, Or.inr ⟨_, wn11⟩⟩
theorem wd108 : Cond.fieldLink "CopiedFire$House" 68 "CopiedFire$House" "texts" "I" ∈ TB := TBm (tk1 (List.mem_of_getElem? (i := 77) (by decide +kernel))) rfl
theorem flX0_68 : gFl RX0 68 0 11 := ⟨RX0, TX0, 19, rfl, by decide, itX0, Or.inl wd108⟩
theorem fpX0_68 : gFp RX0 68 0 11 .int := ⟨RX0, TX0, 19, rfl, by decide, itX0, ⟨tyX0, tyX0_ok⟩, nmX0, rfl, by decide +kernel, Or.inl wd108⟩
theorem wn12 : Cond.fieldLinkNest "CopiedFire" 258 "CopiedFire$House" "texts" "I" "CopiedFire" ∈ NW := NWm (tk1 (List.mem_of_getElem? (i := 78) (by decide +kernel))) rfl
theorem flX9_258 : gFl RX9 258 0 11 := ⟨RX0, TX0, 19, rfl, by decide, itX0, Or.inr ⟨_, wn12⟩⟩
theorem fpX9_258 : gFp RX9 258 0 11 .int := ⟨RX0, TX0, 19, rfl, by decide, itX0, ⟨tyX0, tyX0_ok⟩, nmX0, rfl, by decide +kernel, Or.inr ⟨_, wn12⟩⟩
theorem wd109 : Cond.fieldLink "CopiedFire$House" 46 "CopiedFire$House" "wind" "I" ∈ TB := TBm (tk1 (List.mem_of_getElem? (i := 79) (by decide +kernel))) rfl
theorem flX0_46 : gFl RX0 46 0 12 := ⟨RX0, TX0, 19, rfl, by decide, itX0, Or.inl wd109⟩
theorem fpX0_46 : gFp RX0 46 0 12 .int := ⟨RX0, TX0, 19, rfl, by decide, itX0, ⟨tyX0, tyX0_ok⟩, nmX0, rfl, by decide +kernel, Or.inl wd109⟩
theorem wn13 : Cond.fieldLinkNest "CopiedFire" 167 "CopiedFire$House" "wind" "I" "CopiedFire" ∈ NW := NWm (tk1 (List.mem_of_getElem? (i := 80) (by decide +kernel))) rfl
theorem flX9_167 : gFl RX9 167 0 12 := ⟨RX0, TX0, 19, rfl, by decide, itX0, Or.inr ⟨_, wn13⟩⟩
theorem fpX9_167 : gFp RX9 167 0 12 .int := ⟨RX0, TX0, 19, rfl, by decide, itX0, ⟨tyX0, tyX0_ok⟩, nmX0, rfl, by decide +kernel, Or.inr ⟨_, wn13⟩⟩
theorem wd110 : Cond.fieldLink "CopiedFire$House" 50 "CopiedFire$House" "cool" "I" ∈ TB := TBm (tk1 (List.mem_of_getElem? (i := 81) (by decide +kernel))) rfl
theorem flX0_50 : gFl RX0 50 0 13 := ⟨RX0, TX0, 19, rfl, by decide, itX0, Or.inl wd110⟩
theorem fpX0_50 : gFp RX0 50 0 13 .int := ⟨RX0, TX0, 19, rfl, by decide, itX0, ⟨tyX0, tyX0_ok⟩, nmX0, rfl, by decide +kernel, Or.inl wd110⟩
theorem wn14 : Cond.fieldLinkNest "CopiedFire" 170 "CopiedFire$House" "cool" "I" "CopiedFire" ∈ NW := NWm (tk1 (List.mem_of_getElem? (i := 82) (by decide +kernel))) rfl
theorem flX9_170 : gFl RX9 170 0 13 := ⟨RX0, TX0, 19, rfl, by decide, itX0, Or.inr ⟨_, wn14⟩⟩
theorem fpX9_170 : gFp RX9 170 0 13 .int := ⟨RX0, TX0, 19, rfl, by decide, itX0, ⟨tyX0, tyX0_ok⟩, nmX0, rfl, by decide +kernel, Or.inr ⟨_, wn14⟩⟩
theorem wd111 : Cond.fieldLink "CopiedFire$House" 71 "CopiedFire$House" "burnt" "I" ∈ TB := TBm (tk1 (List.mem_of_getElem? (i := 83) (by decide +kernel))) rfl
theorem flX0_71 : gFl RX0 71 0 14 := ⟨RX0, TX0, 19, rfl, by decide, itX0, Or.inl wd111⟩
theorem fpX0_71 : gFp RX0 71 0 14 .int := ⟨RX0, TX0, 19, rfl, by decide, itX0, ⟨tyX0, tyX0_ok⟩, nmX0, rfl, by decide +kernel, Or.inl wd111⟩
theorem wn15 : Cond.fieldLinkNest "CopiedFire" 193 "CopiedFire$House" "burnt" "I" "CopiedFire" ∈ NW := NWm (tk1 (List.mem_of_getElem? (i := 84) (by decide +kernel))) rfl
theorem flX9_193 : gFl RX9 193 0 14 := ⟨RX0, TX0, 19, rfl, by decide, itX0, Or.inr ⟨_, wn15⟩⟩
theorem fpX9_193 : gFp RX9 193 0 14 .int := ⟨RX0, TX0, 19, rfl, by decide, itX0, ⟨tyX0, tyX0_ok⟩, nmX0, rfl, by decide +kernel, Or.inr ⟨_, wn15⟩⟩
theorem wd112 : Cond.fieldLink "CopiedFire$House" 74 "CopiedFire$House" "ashes" "I" ∈ TB := TBm (tk1 (List.mem_of_getElem? (i := 85) (by decide +kernel))) rfl
theorem flX0_74 : gFl RX0 74 0 15 := ⟨RX0, TX0, 19, rfl, by decide, itX0, Or.inl wd112⟩
theorem fpX0_74 : gFp RX0 74 0 15 .int := ⟨RX0, TX0, 19, rfl, by decide, itX0, ⟨tyX0, tyX0_ok⟩, nmX0, rfl, by decide +kernel, Or.inl wd112⟩
theorem wn16 : Cond.fieldLinkNest "CopiedFire" 202 "CopiedFire$House" "ashes" "I" "CopiedFire" ∈ NW := NWm (tk1 (List.mem_of_getElem? (i := 86) (by decide +kernel))) rfl
theorem flX9_202 : gFl RX9 202 0 15 := ⟨RX0, TX0, 19, rfl, by decide, itX0, Or.inr ⟨_, wn16⟩⟩
theorem fpX9_202 : gFp RX9 202 0 15 .int := ⟨RX0, TX0, 19, rfl, by decide, itX0, ⟨tyX0, tyX0_ok⟩, nmX0, rfl, by decide +kernel, Or.inr ⟨_, wn16⟩⟩
theorem wd113 : Cond.fieldLink "CopiedFire$House" 77 "CopiedFire$House" "slams" "I" ∈ TB := TBm (tk1 (List.mem_of_getElem? (i := 87) (by decide +kernel))) rfl
theorem flX0_77 : gFl RX0 77 0 16 := ⟨RX0, TX0, 19, rfl, by decide, itX0, Or.inl wd113⟩
theorem fpX0_77 : gFp RX0 77 0 16 .int := ⟨RX0, TX0, 19, rfl, by decide, itX0, ⟨tyX0, tyX0_ok⟩, nmX0, rfl, by decide +kernel, Or.inl wd113⟩
theorem wn17 : Cond.fieldLinkNest "CopiedFire" 205 "CopiedFire$House" "slams" "I" "CopiedFire" ∈ NW := NWm (tk1 (List.mem_of_getElem? (i := 88) (by decide +kernel))) rfl
theorem flX9_205 : gFl RX9 205 0 16 := ⟨RX0, TX0, 19, rfl, by decide, itX0, Or.inr ⟨_, wn17⟩⟩
theorem fpX9_205 : gFp RX9 205 0 16 .int := ⟨RX0, TX0, 19, rfl, by decide, itX0, ⟨tyX0, tyX0_ok⟩, nmX0, rfl, by decide +kernel, Or.inr ⟨_, wn17⟩⟩
theorem wd114 : Cond.fieldLink "CopiedFire$House" 80 "CopiedFire$House" "minute" "I" ∈ TB := TBm (tk1 (List.mem_of_getElem? (i := 89) (by decide +kernel))) rfl
theorem flX0_80 : gFl RX0 80 0 17 := ⟨RX0, TX0, 19, rfl, by decide, itX0, Or.inl wd114⟩
theorem fpX0_80 : gFp RX0 80 0 17 .int := ⟨RX0, TX0, 19, rfl, by decide, itX0, ⟨tyX0, tyX0_ok⟩, nmX0, rfl, by decide +kernel, Or.inl wd114⟩
theorem wn18 : Cond.fieldLinkNest "CopiedFire" 196 "CopiedFire$House" "minute" "I" "CopiedFire" ∈ NW := NWm (tk1 (List.mem_of_getElem? (i := 90) (by decide +kernel))) rfl
theorem flX9_196 : gFl RX9 196 0 17 := ⟨RX0, TX0, 19, rfl, by decide, itX0, Or.inr ⟨_, wn18⟩⟩
theorem fpX9_196 : gFp RX9 196 0 17 .int := ⟨RX0, TX0, 19, rfl, by decide, itX0, ⟨tyX0, tyX0_ok⟩, nmX0, rfl, by decide +kernel, Or.inr ⟨_, wn18⟩⟩
theorem wd115 : Cond.fieldLink "CopiedFire$House" 53 "CopiedFire$House" "z" "I" ∈ TB := TBm (tk1 (List.mem_of_getElem? (i := 91) (by decide +kernel))) rfl
theorem flX0_53 : gFl RX0 53 0 18 := ⟨RX0, TX0, 19, rfl, by decide, itX0, Or.inl wd115⟩
theorem fpX0_53 : gFp RX0 53 0 18 .int := ⟨RX0, TX0, 19, rfl, by decide, itX0, ⟨tyX0, tyX0_ok⟩, nmX0, rfl, by decide +kernel, Or.inl wd115⟩
theorem wn19 : Cond.fieldLinkNest "CopiedFire" 151 "CopiedFire$House" "z" "I" "CopiedFire" ∈ NW := NWm (tk1 (List.mem_of_getElem? (i := 92) (by decide +kernel))) rfl
theorem flX9_151 : gFl RX9 151 0 18 := ⟨RX0, TX0, 19, rfl, by decide, itX0, Or.inr ⟨_, wn19⟩⟩
theorem fpX9_151 : gFp RX9 151 0 18 .int := ⟨RX0, TX0, 19, rfl, by decide, itX0, ⟨tyX0, tyX0_ok⟩, nmX0, rfl, by decide +kernel, Or.inr ⟨_, wn19⟩⟩
theorem wd116 : Cond.fieldLink "CopiedFire$Seating" 9 "CopiedFire$Seating" "likedByGroup" "[I" ∈ TB := TBm (tk1 (List.mem_of_getElem? (i := 138) (by decide +kernel))) rfl
theorem flX4_9 : gFl RX4 9 3 0 := ⟨RX4, TX4, 2, rfl, by decide, itX4, Or.inl wd116⟩
theorem wd117 : Cond.fieldLink "CopiedFire$Seating" 15 "CopiedFire$Seating" "given" "[I" ∈ TB := TBm (tk1 (List.mem_of_getElem? (i := 139) (by decide +kernel))) rfl
theorem flX4_15 : gFl RX4 15 3 1 := ⟨RX4, TX4, 2, rfl, by decide, itX4, Or.inl wd117⟩
theorem wn20 : Cond.fieldLinkNest "CopiedFire" 186 "CopiedFire$Seating" "given" "[I" "CopiedFire" ∈ NW := NWm (tk1 (List.mem_of_getElem? (i := 140) (by decide +kernel))) rfl
theorem flX9_186 : gFl RX9 186 3 1 := ⟨RX4, TX4, 2, rfl, by decide, itX4, Or.inr ⟨_, wn20⟩⟩
theorem wd118 : Cond.fieldLink "CopiedFire$Tape" 9 "CopiedFire$Tape" "bytes" "[I" ∈ TB := TBm (tk1 (List.mem_of_getElem? (i := 152) (by decide +kernel))) rfl
theorem flX7_9 : gFl RX7 9 6 0 := ⟨RX7, TX7, 2, rfl, by decide, itX7, Or.inl wd118⟩
theorem wn21 : Cond.fieldLinkNest "CopiedFire$Reader" 75 "CopiedFire$Tape" "bytes" "[I" "CopiedFire" ∈ NW := NWm (tk1 (List.mem_of_getElem? (i := 153) (by decide +kernel))) rfl
theorem flX3_75 : gFl RX3 75 6 0 := ⟨RX7, TX7, 2, rfl, by decide, itX7, Or.inr ⟨_, wn21⟩⟩
theorem wd119 : Cond.fieldLink "CopiedFire$Tape" 15 "CopiedFire$Tape" "length" "I" ∈ TB := TBm (tk1 (List.mem_of_getElem? (i := 154) (by decide +kernel))) rfl
theorem flX7_15 : gFl RX7 15 6 1 := ⟨RX7, TX7, 2, rfl, by decide, itX7, Or.inl wd119⟩
theorem fpX7_15 : gFp RX7 15 6 1 .int := ⟨RX7, TX7, 2, rfl, by decide, itX7, ⟨tyX7, tyX7_ok⟩, nmX7, rfl, by decide +kernel, Or.inl wd119⟩
theorem wn22 : Cond.fieldLinkNest "CopiedFire$Reader" 70 "CopiedFire$Tape" "length" "I" "CopiedFire" ∈ NW := NWm (tk1 (List.mem_of_getElem? (i := 155) (by decide +kernel))) rfl
theorem flX3_70 : gFl RX3 70 6 1 := ⟨RX7, TX7, 2, rfl, by decide, itX7, Or.inr ⟨_, wn22⟩⟩
theorem fpX3_70 : gFp RX3 70 6 1 .int := ⟨RX7, TX7, 2, rfl, by decide, itX7, ⟨tyX7, tyX7_ok⟩, nmX7, rfl, by decide +kernel, Or.inr ⟨_, wn22⟩⟩
theorem wn23 : Cond.fieldLinkNest "CopiedFire" 245 "CopiedFire$Tape" "length" "I" "CopiedFire" ∈ NW := NWm (tk1 (List.mem_of_getElem? (i := 156) (by decide +kernel))) rfl
theorem flX9_245 : gFl RX9 245 6 1 := ⟨RX7, TX7, 2, rfl, by decide, itX7, Or.inr ⟨_, wn23⟩⟩
theorem fpX9_245 : gFp RX9 245 6 1 .int := ⟨RX7, TX7, 2, rfl, by decide, itX7, ⟨tyX7, tyX7_ok⟩, nmX7, rfl, by decide +kernel, Or.inr ⟨_, wn23⟩⟩
theorem wd120 : Cond.fieldLink "CopiedFire$Reader" 9 "CopiedFire$Reader" "tape" "LCopiedFire$Tape;" ∈ TB := TBm (tk1 (List.mem_of_getElem? (i := 168) (by decide +kernel))) rfl
theorem flX3_9 : gFl RX3 9 2 0 := ⟨RX3, TX3, 9, rfl, by decide, itX3, Or.inl wd120⟩
theorem wd121 : Cond.fieldLink "CopiedFire$Reader" 15 "CopiedFire$Reader" "steps" "[I" ∈ TB := TBm (tk1 (List.mem_of_getElem? (i := 169) (by decide +kernel))) rfl
theorem flX3_15 : gFl RX3 15 2 1 := ⟨RX3, TX3, 9, rfl, by decide, itX3, Or.inl wd121⟩
theorem wd122 : Cond.fieldLink "CopiedFire$Reader" 19 "CopiedFire$Reader" "made" "I" ∈ TB := TBm (tk1 (List.mem_of_getElem? (i := 170) (by decide +kernel))) rfl
theorem flX3_19 : gFl RX3 19 2 2 := ⟨RX3, TX3, 9, rfl, by decide, itX3, Or.inl wd122⟩
theorem fpX3_19 : gFp RX3 19 2 2 .int := ⟨RX3, TX3, 9, rfl, by decide, itX3, ⟨tyX3, tyX3_ok⟩, nmX3, rfl, by decide +kernel, Or.inl wd122⟩
theorem wd123 : Cond.fieldLink "CopiedFire$Reader" 23 "CopiedFire$Reader" "operands" "I" ∈ TB := TBm (tk1 (List.mem_of_getElem? (i := 171) (by decide +kernel))) rfl
theorem flX3_23 : gFl RX3 23 2 3 := ⟨RX3, TX3, 9, rfl, by decide, itX3, Or.inl wd123⟩
theorem fpX3_23 : gFp RX3 23 2 3 .int := ⟨RX3, TX3, 9, rfl, by decide, itX3, ⟨tyX3, tyX3_ok⟩, nmX3, rfl, by decide +kernel, Or.inl wd123⟩
theorem wd124 : Cond.fieldLink "CopiedFire$Reader" 42 "CopiedFire$Reader" "key" "I" ∈ TB := TBm (tk1 (List.mem_of_getElem? (i := 172) (by decide +kernel))) rfl
theorem flX3_42 : gFl RX3 42 2 4 := ⟨RX3, TX3, 9, rfl, by decide, itX3, Or.inl wd124⟩
theorem fpX3_42 : gFp RX3 42 2 4 .int := ⟨RX3, TX3, 9, rfl, by decide, itX3, ⟨tyX3, tyX3_ok⟩, nmX3, rfl, by decide +kernel, Or.inl wd124⟩
theorem wn24 : Cond.fieldLinkNest "CopiedFire" 269 "CopiedFire$Reader" "key" "I" "CopiedFire" ∈ NW := NWm (tk1 (List.mem_of_getElem? (i := 173) (by decide +kernel))) rfl
theorem flX9_269 : gFl RX9 269 2 4 := ⟨RX3, TX3, 9, rfl, by decide, itX3, Or.inr ⟨_, wn24⟩⟩
theorem fpX9_269 : gFp RX9 269 2 4 .int := ⟨RX3, TX3, 9, rfl, by decide, itX3, ⟨tyX3, tyX3_ok⟩, nmX3, rfl, by decide +kernel, Or.inr ⟨_, wn24⟩⟩
theorem wd125 : Cond.fieldLink "CopiedFire$Reader" 32 "CopiedFire$Reader" "token" "I" ∈ TB := TBm (tk1 (List.mem_of_getElem? (i := 174) (by decide +kernel))) rfl
theorem flX3_32 : gFl RX3 32 2 5 := ⟨RX3, TX3, 9, rfl, by decide, itX3, Or.inl wd125⟩
theorem fpX3_32 : gFp RX3 32 2 5 .int := ⟨RX3, TX3, 9, rfl, by decide, itX3, ⟨tyX3, tyX3_ok⟩, nmX3, rfl, by decide +kernel, Or.inl wd125⟩
theorem wd126 : Cond.fieldLink "CopiedFire$Reader" 63 "CopiedFire$Reader" "start" "I" ∈ TB := TBm (tk1 (List.mem_of_getElem? (i := 175) (by decide +kernel))) rfl
theorem flX3_63 : gFl RX3 63 2 6 := ⟨RX3, TX3, 9, rfl, by decide, itX3, Or.inl wd126⟩
theorem fpX3_63 : gFp RX3 63 2 6 .int := ⟨RX3, TX3, 9, rfl, by decide, itX3, ⟨tyX3, tyX3_ok⟩, nmX3, rfl, by decide +kernel, Or.inl wd126⟩
theorem wd127 : Cond.fieldLink "CopiedFire$Reader" 29 "CopiedFire$Reader" "next" "I" ∈ TB := TBm (tk1 (List.mem_of_getElem? (i := 176) (by decide +kernel))) rfl
theorem flX3_29 : gFl RX3 29 2 7 := ⟨RX3, TX3, 9, rfl, by decide, itX3, Or.inl wd127⟩
theorem fpX3_29 : gFp RX3 29 2 7 .int := ⟨RX3, TX3, 9, rfl, by decide, itX3, ⟨tyX3, tyX3_ok⟩, nmX3, rfl, by decide +kernel, Or.inl wd127⟩
theorem wd128 : Cond.fieldLink "CopiedFire$Reader" 26 "CopiedFire$Reader" "fault" "I" ∈ TB := TBm (tk1 (List.mem_of_getElem? (i := 177) (by decide +kernel))) rfl
theorem flX3_26 : gFl RX3 26 2 8 := ⟨RX3, TX3, 9, rfl, by decide, itX3, Or.inl wd128⟩
theorem fpX3_26 : gFp RX3 26 2 8 .int := ⟨RX3, TX3, 9, rfl, by decide, itX3, ⟨tyX3, tyX3_ok⟩, nmX3, rfl, by decide +kernel, Or.inl wd128⟩
theorem wn25 : Cond.fieldLinkNest "CopiedFire" 255 "CopiedFire$Reader" "fault" "I" "CopiedFire" ∈ NW := NWm (tk1 (List.mem_of_getElem? (i := 178) (by decide +kernel))) rfl
theorem flX9_255 : gFl RX9 255 2 8 := ⟨RX3, TX3, 9, rfl, by decide, itX3, Or.inr ⟨_, wn25⟩⟩
theorem fpX9_255 : gFp RX9 255 2 8 .int := ⟨RX3, TX3, 9, rfl, by decide, itX3, ⟨tyX3, tyX3_ok⟩, nmX3, rfl, by decide +kernel, Or.inr ⟨_, wn25⟩⟩
theorem wd129 : Cond.fieldLink "CopiedFire$Sheet" 9 "CopiedFire$Sheet" "places" "[I" ∈ TB := TBm (tk1 (List.mem_of_getElem? (i := 205) (by decide +kernel))) rfl
theorem flX5_9 : gFl RX5 9 4 0 := ⟨RX5, TX5, 3, rfl, by decide, itX5, Or.inl wd129⟩
theorem wn26 : Cond.fieldLinkNest "CopiedFire" 290 "CopiedFire$Sheet" "places" "[I" "CopiedFire" ∈ NW := NWm (tk1 (List.mem_of_getElem? (i := 206) (by decide +kernel))) rfl
theorem flX9_290 : gFl RX9 290 4 0 := ⟨RX5, TX5, 3, rfl, by decide, itX5, Or.inr ⟨_, wn26⟩⟩
theorem wd130 : Cond.fieldLink "CopiedFire$Sheet" 15 "CopiedFire$Sheet" "sort" "I" ∈ TB := TBm (tk1 (List.mem_of_getElem? (i := 207) (by decide +kernel))) rfl
theorem flX5_15 : gFl RX5 15 4 1 := ⟨RX5, TX5, 3, rfl, by decide, itX5, Or.inl wd130⟩
theorem fpX5_15 : gFp RX5 15 4 1 .int := ⟨RX5, TX5, 3, rfl, by decide, itX5, ⟨tyX5, tyX5_ok⟩, nmX5, rfl, by decide +kernel, Or.inl wd130⟩
theorem wn27 : Cond.fieldLinkNest "CopiedFire" 287 "CopiedFire$Sheet" "sort" "I" "CopiedFire" ∈ NW := NWm (tk1 (List.mem_of_getElem? (i := 208) (by decide +kernel))) rfl
theorem flX9_287 : gFl RX9 287 4 1 := ⟨RX5, TX5, 3, rfl, by decide, itX5, Or.inr ⟨_, wn27⟩⟩
theorem fpX9_287 : gFp RX9 287 4 1 .int := ⟨RX5, TX5, 3, rfl, by decide, itX5, ⟨tyX5, tyX5_ok⟩, nmX5, rfl, by decide +kernel, Or.inr ⟨_, wn27⟩⟩
theorem wd131 : Cond.fieldLink "CopiedFire$Sheet" 19 "CopiedFire$Sheet" "length" "I" ∈ TB := TBm (tk1 (List.mem_of_getElem? (i := 209) (by decide +kernel))) rfl
theorem flX5_19 : gFl RX5 19 4 2 := ⟨RX5, TX5, 3, rfl, by decide, itX5, Or.inl wd131⟩
theorem fpX5_19 : gFp RX5 19 4 2 .int := ⟨RX5, TX5, 3, rfl, by decide, itX5, ⟨tyX5, tyX5_ok⟩, nmX5, rfl, by decide +kernel, Or.inl wd131⟩
theorem wn28 : Cond.fieldLinkNest "CopiedFire" 301 "CopiedFire$Sheet" "length" "I" "CopiedFire" ∈ NW := NWm (tk1 (List.mem_of_getElem? (i := 210) (by decide +kernel))) rfl
theorem flX9_301 : gFl RX9 301 4 2 := ⟨RX5, TX5, 3, rfl, by decide, itX5, Or.inr ⟨_, wn28⟩⟩
theorem fpX9_301 : gFp RX9 301 4 2 .int := ⟨RX5, TX5, 3, rfl, by decide, itX5, ⟨tyX5, tyX5_ok⟩, nmX5, rfl, by decide +kernel, Or.inr ⟨_, wn28⟩⟩
theorem wd132 : Cond.fieldLink "CopiedFire$Slot" 12 "CopiedFire$Slot" "row" "LCopiedFire$Sheet;" ∈ TB := TBm (tk1 (List.mem_of_getElem? (i := 227) (by decide +kernel))) rfl
theorem flX6_12 : gFl RX6 12 5 0 := ⟨RX6, TX6, 5, rfl, by decide, itX6, Or.inl wd132⟩
theorem wn29 : Cond.fieldLinkNest "CopiedFire" 323 "CopiedFire$Slot" "row" "LCopiedFire$Sheet;" "CopiedFire" ∈ NW := NWm (tk1 (List.mem_of_getElem? (i := 228) (by decide +kernel))) rfl
theorem flX9_323 : gFl RX9 323 5 0 := ⟨RX6, TX6, 5, rfl, by decide, itX6, Or.inr ⟨_, wn29⟩⟩
theorem wd133 : Cond.fieldLink "CopiedFire$Slot" 18 "CopiedFire$Slot" "holds" "I" ∈ TB := TBm (tk1 (List.mem_of_getElem? (i := 229) (by decide +kernel))) rfl
theorem flX6_18 : gFl RX6 18 5 1 := ⟨RX6, TX6, 5, rfl, by decide, itX6, Or.inl wd133⟩
theorem fpX6_18 : gFp RX6 18 5 1 .int := ⟨RX6, TX6, 5, rfl, by decide, itX6, ⟨tyX6, tyX6_ok⟩, nmX6, rfl, by decide +kernel, Or.inl wd133⟩
theorem wn30 : Cond.fieldLinkNest "CopiedFire" 314 "CopiedFire$Slot" "holds" "I" "CopiedFire" ∈ NW := NWm (tk1 (List.mem_of_getElem? (i := 230) (by decide +kernel))) rfl
theorem flX9_314 : gFl RX9 314 5 1 := ⟨RX6, TX6, 5, rfl, by decide, itX6, Or.inr ⟨_, wn30⟩⟩
theorem fpX9_314 : gFp RX9 314 5 1 .int := ⟨RX6, TX6, 5, rfl, by decide, itX6, ⟨tyX6, tyX6_ok⟩, nmX6, rfl, by decide +kernel, Or.inr ⟨_, wn30⟩⟩
theorem wn31 : Cond.fieldLinkNest "CopiedFire" 317 "CopiedFire$Slot" "kind" "I" "CopiedFire" ∈ NW := NWm (tk1 (List.mem_of_getElem? (i := 231) (by decide +kernel))) rfl
theorem flX9_317 : gFl RX9 317 5 2 := ⟨RX6, TX6, 5, rfl, by decide, itX6, Or.inr ⟨_, wn31⟩⟩
theorem fpX9_317 : gFp RX9 317 5 2 .int := ⟨RX6, TX6, 5, rfl, by decide, itX6, ⟨tyX6, tyX6_ok⟩, nmX6, rfl, by decide +kernel, Or.inr ⟨_, wn31⟩⟩
theorem wn32 : Cond.fieldLinkNest "CopiedFire" 320 "CopiedFire$Slot" "fuel" "I" "CopiedFire" ∈ NW := NWm (tk1 (List.mem_of_getElem? (i := 232) (by decide +kernel))) rfl
theorem flX9_320 : gFl RX9 320 5 3 := ⟨RX6, TX6, 5, rfl, by decide, itX6, Or.inr ⟨_, wn32⟩⟩
theorem fpX9_320 : gFp RX9 320 5 3 .int := ⟨RX6, TX6, 5, rfl, by decide, itX6, ⟨tyX6, tyX6_ok⟩, nmX6, rfl, by decide +kernel, Or.inr ⟨_, wn32⟩⟩
theorem wn33 : Cond.fieldLinkNest "CopiedFire" 329 "CopiedFire$Slot" "number" "I" "CopiedFire" ∈ NW := NWm (tk1 (List.mem_of_getElem? (i := 233) (by decide +kernel))) rfl
theorem flX9_329 : gFl RX9 329 5 4 := ⟨RX6, TX6, 5, rfl, by decide, itX6, Or.inr ⟨_, wn33⟩⟩
theorem fpX9_329 : gFp RX9 329 5 4 .int := ⟨RX6, TX6, 5, rfl, by decide, itX6, ⟨tyX6, tyX6_ok⟩, nmX6, rfl, by decide +kernel, Or.inr ⟨_, wn33⟩⟩
theorem wd134 : Cond.fieldLink "CopiedFire" 10 "CopiedFire" "laws" "LCopiedFire$Laws;" ∈ TB := TBm (tk2 (List.mem_of_getElem? (i := 5) (by decide +kernel))) rfl
theorem flX9_10 : gFl RX9 10 8 0 := ⟨RX9, TX9, 13, rfl, by decide, itX9, Or.inl wd134⟩
theorem wd135 : Cond.fieldLink "CopiedFire" 21 "CopiedFire" "now" "LCopiedFire$House;" ∈ TB := TBm (tk2 (List.mem_of_getElem? (i := 6) (by decide +kernel))) rfl
theorem flX9_21 : gFl RX9 21 8 1 := ⟨RX9, TX9, 13, rfl, by decide, itX9, Or.inl wd135⟩
theorem wd136 : Cond.fieldLink "CopiedFire" 25 "CopiedFire" "image" "LCopiedFire$House;" ∈ TB := TBm (tk2 (List.mem_of_getElem? (i := 7) (by decide +kernel))) rfl
theorem flX9_25 : gFl RX9 25 8 2 := ⟨RX9, TX9, 13, rfl, by decide, itX9, Or.inl wd136⟩
theorem wd137 : Cond.fieldLink "CopiedFire" 28 "CopiedFire" "thought" "LCopiedFire$House;" ∈ TB := TBm (tk2 (List.mem_of_getElem? (i := 8) (by decide +kernel))) rfl
theorem flX9_28 : gFl RX9 28 8 3 := ⟨RX9, TX9, 13, rfl, by decide, itX9, Or.inl wd137⟩
theorem wd138 : Cond.fieldLink "CopiedFire" 34 "CopiedFire" "seating" "LCopiedFire$Seating;" ∈ TB := TBm (tk2 (List.mem_of_getElem? (i := 9) (by decide +kernel))) rfl
theorem flX9_34 : gFl RX9 34 8 4 := ⟨RX9, TX9, 13, rfl, by decide, itX9, Or.inl wd138⟩
theorem wd139 : Cond.fieldLink "CopiedFire" 41 "CopiedFire" "tape" "LCopiedFire$Tape;" ∈ TB := TBm (tk2 (List.mem_of_getElem? (i := 10) (by decide +kernel))) rfl
theorem flX9_41 : gFl RX9 41 8 5 := ⟨RX9, TX9, 13, rfl, by decide, itX9, Or.inl wd139⟩
theorem wd140 : Cond.fieldLink "CopiedFire" 50 "CopiedFire" "reader" "LCopiedFire$Reader;" ∈ TB := TBm (tk2 (List.mem_of_getElem? (i := 11) (by decide +kernel))) rfl
theorem flX9_50 : gFl RX9 50 8 6 := ⟨RX9, TX9, 13, rfl, by decide, itX9, Or.inl wd140⟩
theorem wd141 : Cond.fieldLink "CopiedFire" 56 "CopiedFire" "sheets" "[LCopiedFire$Sheet;" ∈ TB := TBm (tk2 (List.mem_of_getElem? (i := 12) (by decide +kernel))) rfl
theorem flX9_56 : gFl RX9 56 8 7 := ⟨RX9, TX9, 13, rfl, by decide, itX9, Or.inl wd141⟩
theorem wd142 : Cond.fieldLink "CopiedFire" 63 "CopiedFire" "slots" "[LCopiedFire$Slot;" ∈ TB := TBm (tk2 (List.mem_of_getElem? (i := 13) (by decide +kernel))) rfl
theorem flX9_63 : gFl RX9 63 8 8 := ⟨RX9, TX9, 13, rfl, by decide, itX9, Or.inl wd142⟩
theorem wd143 : Cond.fieldLink "CopiedFire" 68 "CopiedFire" "sums" "[I" ∈ TB := TBm (tk2 (List.mem_of_getElem? (i := 14) (by decide +kernel))) rfl
theorem flX9_68 : gFl RX9 68 8 9 := ⟨RX9, TX9, 13, rfl, by decide, itX9, Or.inl wd143⟩
theorem wd144 : Cond.fieldLink "CopiedFire" 72 "CopiedFire" "waiting" "[I" ∈ TB := TBm (tk2 (List.mem_of_getElem? (i := 15) (by decide +kernel))) rfl
theorem flX9_72 : gFl RX9 72 8 10 := ⟨RX9, TX9, 13, rfl, by decide, itX9, Or.inl wd144⟩
theorem wd145 : Cond.fieldLink "CopiedFire" 75 "CopiedFire" "waits" "I" ∈ TB := TBm (tk2 (List.mem_of_getElem? (i := 16) (by decide +kernel))) rfl
theorem flX9_75 : gFl RX9 75 8 11 := ⟨RX9, TX9, 13, rfl, by decide, itX9, Or.inl wd145⟩
theorem fpX9_75 : gFp RX9 75 8 11 .int := ⟨RX9, TX9, 13, rfl, by decide, itX9, ⟨tyX9, tyX9_ok⟩, nmX9, rfl, by decide +kernel, Or.inl wd145⟩
theorem wd146 : Cond.fieldLink "CopiedFire" 79 "CopiedFire" "kept" "Z" ∈ TB := TBm (tk2 (List.mem_of_getElem? (i := 17) (by decide +kernel))) rfl
theorem flX9_79 : gFl RX9 79 8 12 := ⟨RX9, TX9, 13, rfl, by decide, itX9, Or.inl wd146⟩
theorem fpX9_79 : gFp RX9 79 8 12 .boolean := ⟨RX9, TX9, 13, rfl, by decide, itX9, ⟨tyX9, tyX9_ok⟩, nmX9, rfl, by decide +kernel, Or.inl wd146⟩
theorem wd147 : Cond.fieldLink "CopiedFire$Text" 7 "CopiedFire$Text" "key" "I" ∈ TB := TBm (tk4 (List.mem_of_getElem? (i := 80) (by decide +kernel))) rfl
theorem flX8_7 : gFl RX8 7 7 0 := ⟨RX8, TX8, 3, rfl, by decide, itX8, Or.inl wd147⟩
theorem wn34 : Cond.fieldLinkNest "CopiedFire$Laws" 29 "CopiedFire$Text" "key" "I" "CopiedFire" ∈ NW := NWm (tk4 (List.mem_of_getElem? (i := 81) (by decide +kernel))) rfl
theorem flX2_29 : gFl RX2 29 7 0 := ⟨RX8, TX8, 3, rfl, by decide, itX8, Or.inr ⟨_, wn34⟩⟩
theorem wd148 : Cond.fieldLink "CopiedFire$Text" 13 "CopiedFire$Text" "operands" "I" ∈ TB := TBm (tk4 (List.mem_of_getElem? (i := 82) (by decide +kernel))) rfl
theorem flX8_13 : gFl RX8 13 7 1 := ⟨RX8, TX8, 3, rfl, by decide, itX8, Or.inl wd148⟩
theorem wn35 : Cond.fieldLinkNest "CopiedFire$Laws" 34 "CopiedFire$Text" "operands" "I" "CopiedFire" ∈ NW := NWm (tk4 (List.mem_of_getElem? (i := 83) (by decide +kernel))) rfl
theorem flX2_34 : gFl RX2 34 7 1 := ⟨RX8, TX8, 3, rfl, by decide, itX8, Or.inr ⟨_, wn35⟩⟩
theorem wd149 : Cond.fieldLink "CopiedFire$Text" 16 "CopiedFire$Text" "steps" "[I" ∈ TB := TBm (tk4 (List.mem_of_getElem? (i := 84) (by decide +kernel))) rfl
theorem flX8_16 : gFl RX8 16 7 2 := ⟨RX8, TX8, 3, rfl, by decide, itX8, Or.inl wd149⟩
theorem wn36 : Cond.fieldLinkNest "CopiedFire$Laws" 37 "CopiedFire$Text" "steps" "[I" "CopiedFire" ∈ NW := NWm (tk4 (List.mem_of_getElem? (i := 85) (by decide +kernel))) rfl
theorem flX2_37 : gFl RX2 37 7 2 := ⟨RX8, TX8, 3, rfl, by decide, itX8, Or.inr ⟨_, wn36⟩⟩
theorem wd150 : Cond.fieldLink "CopiedFireModel" 9 "CopiedFireModel" "now" "[I" ∈ TB := TBm (tk4 (List.mem_of_getElem? (i := 206) (by decide +kernel))) rfl
theorem flX10_9 : gFl RX10 9 9 0 := ⟨RX10, TX10, 37, rfl, by decide, itX10, Or.inl wd150⟩
theorem wd151 : Cond.fieldLink "CopiedFireModel" 13 "CopiedFireModel" "image" "[I" ∈ TB := TBm (tk4 (List.mem_of_getElem? (i := 207) (by decide +kernel))) rfl
theorem flX10_13 : gFl RX10 13 9 1 := ⟨RX10, TX10, 37, rfl, by decide, itX10, Or.inl wd151⟩
theorem wd152 : Cond.fieldLink "CopiedFireModel" 16 "CopiedFireModel" "aside" "[I" ∈ TB := TBm (tk4 (List.mem_of_getElem? (i := 208) (by decide +kernel))) rfl
theorem flX10_16 : gFl RX10 16 9 2 := ⟨RX10, TX10, 37, rfl, by decide, itX10, Or.inl wd152⟩
theorem wd153 : Cond.fieldLink "CopiedFireModel" 288 "CopiedFireModel" "hasImage" "Z" ∈ TB := TBm (tk4 (List.mem_of_getElem? (i := 209) (by decide +kernel))) rfl
theorem flX10_288 : gFl RX10 288 9 3 := ⟨RX10, TX10, 37, rfl, by decide, itX10, Or.inl wd153⟩
theorem fpX10_288 : gFp RX10 288 9 3 .boolean := ⟨RX10, TX10, 37, rfl, by decide, itX10, ⟨tyX10, tyX10_ok⟩, nmX10, rfl, by decide +kernel, Or.inl wd153⟩
theorem wd154 : Cond.fieldLink "CopiedFireModel" 19 "CopiedFireModel" "seat" "[I" ∈ TB := TBm (tk4 (List.mem_of_getElem? (i := 210) (by decide +kernel))) rfl
theorem flX10_19 : gFl RX10 19 9 4 := ⟨RX10, TX10, 37, rfl, by decide, itX10, Or.inl wd154⟩
theorem wd155 : Cond.fieldLink "CopiedFireModel" 22 "CopiedFireModel" "bestSeat" "[I" ∈ TB := TBm (tk4 (List.mem_of_getElem? (i := 211) (by decide +kernel))) rfl
theorem flX10_22 : gFl RX10 22 9 5 := ⟨RX10, TX10, 37, rfl, by decide, itX10, Or.inl wd155⟩
theorem wd156 : Cond.fieldLink "CopiedFireModel" 154 "CopiedFireModel" "mostSeats" "I" ∈ TB := TBm (tk4 (List.mem_of_getElem? (i := 212) (by decide +kernel))) rfl
theorem flX10_154 : gFl RX10 154 9 6 := ⟨RX10, TX10, 37, rfl, by decide, itX10, Or.inl wd156⟩
theorem fpX10_154 : gFp RX10 154 9 6 .int := ⟨RX10, TX10, 37, rfl, by decide, itX10, ⟨tyX10, tyX10_ok⟩, nmX10, rfl, by decide +kernel, Or.inl wd156⟩
theorem wd157 : Cond.fieldLink "CopiedFireModel" 25 "CopiedFireModel" "before" "[I" ∈ TB := TBm (tk4 (List.mem_of_getElem? (i := 213) (by decide +kernel))) rfl
theorem flX10_25 : gFl RX10 25 9 7 := ⟨RX10, TX10, 37, rfl, by decide, itX10, Or.inl wd157⟩
theorem wd158 : Cond.fieldLink "CopiedFireModel" 28 "CopiedFireModel" "off" "[I" ∈ TB := TBm (tk4 (List.mem_of_getElem? (i := 214) (by decide +kernel))) rfl
theorem flX10_28 : gFl RX10 28 9 8 := ⟨RX10, TX10, 37, rfl, by decide, itX10, Or.inl wd158⟩
theorem wd159 : Cond.fieldLink "CopiedFireModel" 31 "CopiedFireModel" "tape" "[I" ∈ TB := TBm (tk4 (List.mem_of_getElem? (i := 215) (by decide +kernel))) rfl
theorem flX10_31 : gFl RX10 31 9 9 := ⟨RX10, TX10, 37, rfl, by decide, itX10, Or.inl wd159⟩
theorem wd160 : Cond.fieldLink "CopiedFireModel" 210 "CopiedFireModel" "taped" "I" ∈ TB := TBm (tk4 (List.mem_of_getElem? (i := 216) (by decide +kernel))) rfl
theorem flX10_210 : gFl RX10 210 9 10 := ⟨RX10, TX10, 37, rfl, by decide, itX10, Or.inl wd160⟩
theorem fpX10_210 : gFp RX10 210 9 10 .int := ⟨RX10, TX10, 37, rfl, by decide, itX10, ⟨tyX10, tyX10_ok⟩, nmX10, rfl, by decide +kernel, Or.inl wd160⟩
theorem wd161 : Cond.fieldLink "CopiedFireModel" 213 "CopiedFireModel" "next" "I" ∈ TB := TBm (tk4 (List.mem_of_getElem? (i := 217) (by decide +kernel))) rfl
theorem flX10_213 : gFl RX10 213 9 11 := ⟨RX10, TX10, 37, rfl, by decide, itX10, Or.inl wd161⟩
theorem fpX10_213 : gFp RX10 213 9 11 .int := ⟨RX10, TX10, 37, rfl, by decide, itX10, ⟨tyX10, tyX10_ok⟩, nmX10, rfl, by decide +kernel, Or.inl wd161⟩
theorem wd162 : Cond.fieldLink "CopiedFireModel" 216 "CopiedFireModel" "from" "I" ∈ TB := TBm (tk4 (List.mem_of_getElem? (i := 218) (by decide +kernel))) rfl
theorem flX10_216 : gFl RX10 216 9 12 := ⟨RX10, TX10, 37, rfl, by decide, itX10, Or.inl wd162⟩
theorem fpX10_216 : gFp RX10 216 9 12 .int := ⟨RX10, TX10, 37, rfl, by decide, itX10, ⟨tyX10, tyX10_ok⟩, nmX10, rfl, by decide +kernel, Or.inl wd162⟩
theorem wd163 : Cond.fieldLink "CopiedFireModel" 222 "CopiedFireModel" "token" "I" ∈ TB := TBm (tk4 (List.mem_of_getElem? (i := 219) (by decide +kernel))) rfl
theorem flX10_222 : gFl RX10 222 9 13 := ⟨RX10, TX10, 37, rfl, by decide, itX10, Or.inl wd163⟩
theorem fpX10_222 : gFp RX10 222 9 13 .int := ⟨RX10, TX10, 37, rfl, by decide, itX10, ⟨tyX10, tyX10_ok⟩, nmX10, rfl, by decide +kernel, Or.inl wd163⟩
theorem wd164 : Cond.fieldLink "CopiedFireModel" 228 "CopiedFireModel" "value" "I" ∈ TB := TBm (tk4 (List.mem_of_getElem? (i := 220) (by decide +kernel))) rfl
theorem flX10_228 : gFl RX10 228 9 14 := ⟨RX10, TX10, 37, rfl, by decide, itX10, Or.inl wd164⟩
theorem fpX10_228 : gFp RX10 228 9 14 .int := ⟨RX10, TX10, 37, rfl, by decide, itX10, ⟨tyX10, tyX10_ok⟩, nmX10, rfl, by decide +kernel, Or.inl wd164⟩
theorem wd165 : Cond.fieldLink "CopiedFireModel" 219 "CopiedFireModel" "ended" "I" ∈ TB := TBm (tk4 (List.mem_of_getElem? (i := 221) (by decide +kernel))) rfl
theorem flX10_219 : gFl RX10 219 9 15 := ⟨RX10, TX10, 37, rfl, by decide, itX10, Or.inl wd165⟩
theorem fpX10_219 : gFp RX10 219 9 15 .int := ⟨RX10, TX10, 37, rfl, by decide, itX10, ⟨tyX10, tyX10_ok⟩, nmX10, rfl, by decide +kernel, Or.inl wd165⟩
theorem wd166 : Cond.fieldLink "CopiedFireModel" 234 "CopiedFireModel" "key" "I" ∈ TB := TBm (tk4 (List.mem_of_getElem? (i := 222) (by decide +kernel))) rfl
theorem flX10_234 : gFl RX10 234 9 16 := ⟨RX10, TX10, 37, rfl, by decide, itX10, Or.inl wd166⟩
theorem fpX10_234 : gFp RX10 234 9 16 .int := ⟨RX10, TX10, 37, rfl, by decide, itX10, ⟨tyX10, tyX10_ok⟩, nmX10, rfl, by decide +kernel, Or.inl wd166⟩
theorem wd167 : Cond.fieldLink "CopiedFireModel" 34 "CopiedFireModel" "keys" "[C" ∈ TB := TBm (tk4 (List.mem_of_getElem? (i := 223) (by decide +kernel))) rfl
theorem flX10_34 : gFl RX10 34 9 17 := ⟨RX10, TX10, 37, rfl, by decide, itX10, Or.inl wd167⟩
theorem wd168 : Cond.fieldLink "CopiedFireModel" 38 "CopiedFireModel" "keyAt" "[I" ∈ TB := TBm (tk4 (List.mem_of_getElem? (i := 224) (by decide +kernel))) rfl
theorem flX10_38 : gFl RX10 38 9 18 := ⟨RX10, TX10, 37, rfl, by decide, itX10, Or.inl wd168⟩
theorem wd169 : Cond.fieldLink "CopiedFireModel" 41 "CopiedFireModel" "code" "[I" ∈ TB := TBm (tk4 (List.mem_of_getElem? (i := 225) (by decide +kernel))) rfl
theorem flX10_41 : gFl RX10 41 9 19 := ⟨RX10, TX10, 37, rfl, by decide, itX10, Or.inl wd169⟩
theorem wd170 : Cond.fieldLink "CopiedFireModel" 246 "CopiedFireModel" "codes" "I" ∈ TB := TBm (tk4 (List.mem_of_getElem? (i := 226) (by decide +kernel))) rfl
theorem flX10_246 : gFl RX10 246 9 20 := ⟨RX10, TX10, 37, rfl, by decide, itX10, Or.inl wd170⟩
theorem fpX10_246 : gFp RX10 246 9 20 .int := ⟨RX10, TX10, 37, rfl, by decide, itX10, ⟨tyX10, tyX10_ok⟩, nmX10, rfl, by decide +kernel, Or.inl wd170⟩
theorem wd171 : Cond.fieldLink "CopiedFireModel" 252 "CopiedFireModel" "atoms" "I" ∈ TB := TBm (tk4 (List.mem_of_getElem? (i := 227) (by decide +kernel))) rfl
theorem flX10_252 : gFl RX10 252 9 21 := ⟨RX10, TX10, 37, rfl, by decide, itX10, Or.inl wd171⟩
theorem fpX10_252 : gFp RX10 252 9 21 .int := ⟨RX10, TX10, 37, rfl, by decide, itX10, ⟨tyX10, tyX10_ok⟩, nmX10, rfl, by decide +kernel, Or.inl wd171⟩
theorem wd172 : Cond.fieldLink "CopiedFireModel" 44 "CopiedFireModel" "waits" "[I" ∈ TB := TBm (tk4 (List.mem_of_getElem? (i := 228) (by decide +kernel))) rfl
theorem flX10_44 : gFl RX10 44 9 22 := ⟨RX10, TX10, 37, rfl, by decide, itX10, Or.inl wd172⟩
theorem wd173 : Cond.fieldLink "CopiedFireModel" 240 "CopiedFireModel" "held" "I" ∈ TB := TBm (tk4 (List.mem_of_getElem? (i := 229) (by decide +kernel))) rfl
theorem flX10_240 : gFl RX10 240 9 23 := ⟨RX10, TX10, 37, rfl, by decide, itX10, Or.inl wd173⟩
theorem fpX10_240 : gFp RX10 240 9 23 .int := ⟨RX10, TX10, 37, rfl, by decide, itX10, ⟨tyX10, tyX10_ok⟩, nmX10, rfl, by decide +kernel, Or.inl wd173⟩
theorem wd174 : Cond.fieldLink "CopiedFireModel" 47 "CopiedFireModel" "tested" "[Z" ∈ TB := TBm (tk4 (List.mem_of_getElem? (i := 230) (by decide +kernel))) rfl
theorem flX10_47 : gFl RX10 47 9 24 := ⟨RX10, TX10, 37, rfl, by decide, itX10, Or.inl wd174⟩
theorem wd175 : Cond.fieldLink "CopiedFireModel" 51 "CopiedFireModel" "stack" "[I" ∈ TB := TBm (tk4 (List.mem_of_getElem? (i := 231) (by decide +kernel))) rfl
theorem flX10_51 : gFl RX10 51 9 25 := ⟨RX10, TX10, 37, rfl, by decide, itX10, Or.inl wd175⟩
theorem wd176 : Cond.fieldLink "CopiedFireModel" 54 "CopiedFireModel" "facts" "[I" ∈ TB := TBm (tk4 (List.mem_of_getElem? (i := 232) (by decide +kernel))) rfl
theorem flX10_54 : gFl RX10 54 9 26 := ⟨RX10, TX10, 37, rfl, by decide, itX10, Or.inl wd176⟩
theorem wd177 : Cond.fieldLink "CopiedFireModel" 57 "CopiedFireModel" "sorts" "[I" ∈ TB := TBm (tk4 (List.mem_of_getElem? (i := 233) (by decide +kernel))) rfl
theorem flX10_57 : gFl RX10 57 9 27 := ⟨RX10, TX10, 37, rfl, by decide, itX10, Or.inl wd177⟩
theorem wd178 : Cond.fieldLink "CopiedFireModel" 60 "CopiedFireModel" "sizes" "[I" ∈ TB := TBm (tk4 (List.mem_of_getElem? (i := 234) (by decide +kernel))) rfl
theorem flX10_60 : gFl RX10 60 9 28 := ⟨RX10, TX10, 37, rfl, by decide, itX10, Or.inl wd178⟩
theorem wd179 : Cond.fieldLink "CopiedFireModel" 63 "CopiedFireModel" "cells" "[I" ∈ TB := TBm (tk4 (List.mem_of_getElem? (i := 235) (by decide +kernel))) rfl
theorem flX10_63 : gFl RX10 63 9 29 := ⟨RX10, TX10, 37, rfl, by decide, itX10, Or.inl wd179⟩
theorem wd180 : Cond.fieldLink "CopiedFireModel" 66 "CopiedFireModel" "holds" "[I" ∈ TB := TBm (tk4 (List.mem_of_getElem? (i := 236) (by decide +kernel))) rfl
theorem flX10_66 : gFl RX10 66 9 30 := ⟨RX10, TX10, 37, rfl, by decide, itX10, Or.inl wd180⟩
theorem wd181 : Cond.fieldLink "CopiedFireModel" 69 "CopiedFireModel" "holdsA" "[I" ∈ TB := TBm (tk4 (List.mem_of_getElem? (i := 237) (by decide +kernel))) rfl
theorem flX10_69 : gFl RX10 69 9 31 := ⟨RX10, TX10, 37, rfl, by decide, itX10, Or.inl wd181⟩
theorem wd182 : Cond.fieldLink "CopiedFireModel" 72 "CopiedFireModel" "holdsB" "[I" ∈ TB := TBm (tk4 (List.mem_of_getElem? (i := 238) (by decide +kernel))) rfl
theorem flX10_72 : gFl RX10 72 9 32 := ⟨RX10, TX10, 37, rfl, by decide, itX10, Or.inl wd182⟩
theorem wd183 : Cond.fieldLink "CopiedFireModel" 75 "CopiedFireModel" "heldCells" "[I" ∈ TB := TBm (tk4 (List.mem_of_getElem? (i := 239) (by decide +kernel))) rfl
theorem flX10_75 : gFl RX10 75 9 33 := ⟨RX10, TX10, 37, rfl, by decide, itX10, Or.inl wd183⟩
theorem wd184 : Cond.fieldLink "CopiedFireModel" 78 "CopiedFireModel" "moved" "[I" ∈ TB := TBm (tk5 (List.mem_of_getElem? (i := 0) (by decide +kernel))) rfl
theorem flX10_78 : gFl RX10 78 9 34 := ⟨RX10, TX10, 37, rfl, by decide, itX10, Or.inl wd184⟩
theorem wd185 : Cond.fieldLink "CopiedFireModel" 81 "CopiedFireModel" "tells" "[I" ∈ TB := TBm (tk5 (List.mem_of_getElem? (i := 1) (by decide +kernel))) rfl
theorem flX10_81 : gFl RX10 81 9 35 := ⟨RX10, TX10, 37, rfl, by decide, itX10, Or.inl wd185⟩
theorem wd186 : Cond.fieldLink "CopiedFireModel" 285 "CopiedFireModel" "waiting" "I" ∈ TB := TBm (tk5 (List.mem_of_getElem? (i := 2) (by decide +kernel))) rfl
theorem flX10_285 : gFl RX10 285 9 36 := ⟨RX10, TX10, 37, rfl, by decide, itX10, Or.inl wd186⟩
theorem fpX10_285 : gFp RX10 285 9 36 .int := ⟨RX10, TX10, 37, rfl, by decide, itX10, ⟨tyX10, tyX10_ok⟩, nmX10, rfl, by decide +kernel, Or.inl wd186⟩
theorem wd187 : Cond.code ⟨"CopiedFire", "<init>", "()V"⟩ prog_1_method_1_code 2 (Option.none : Option Jvm.ClassFile.FieldType) ∈ TB := TBm (tk1 (List.mem_of_getElem? (i := 25) (by decide +kernel))) rfl
theorem wd188 : Cond.initialized "CopiedFire" ∈ TB := TBm (tk1 (List.mem_of_getElem? (i := 1) (by decide +kernel))) rfl
theorem cwX9_init : gCw yX9_init cX9_init 2 none 0 := ⟨wd187, wd188, by decide +kernel⟩
theorem wd189 : Cond.code ⟨"CopiedFire$Laws", "<init>", "()V"⟩ prog_4_method_1_code 1 (Option.none : Option Jvm.ClassFile.FieldType) ∈ TB := TBm (tk1 (List.mem_of_getElem? (i := 33) (by decide +kernel))) rfl
theorem wd190 : Cond.initialized "CopiedFire$Laws" ∈ TB := TBm (tk1 (List.mem_of_getElem? (i := 2) (by decide +kernel))) rfl
theorem cwX2_init : gCw yX2_init cX2_init 1 none 0 := ⟨wd189, wd190, by decide +kernel⟩
theorem wd191 : Cond.code ⟨"CopiedFire$House", "<init>", "(LCopiedFire$Laws;)V"⟩ prog_2_method_1_code 2 (Option.none : Option Jvm.ClassFile.FieldType) ∈ TB := TBm (tk1 (List.mem_of_getElem? (i := 49) (by decide +kernel))) rfl
theorem wd192 : Cond.initialized "CopiedFire$House" ∈ TB := TBm (tk1 (List.mem_of_getElem? (i := 3) (by decide +kernel))) rfl
theorem cwX0_init : gCw yX0_init cX0_init 2 none 1 := ⟨wd191, wd192, by decide +kernel⟩
abbrev cJA_fill : ByteArray := prog_21_method_103_code
def yJA_fill : MethodName := ⟨RJA, "fill", "([II)V"⟩
theorem wd193 : Cond.code ⟨"java/util/Arrays", "fill", "([II)V"⟩ prog_21_method_103_code 4 (Option.none : Option Jvm.ClassFile.FieldType) ∈ TB := TBm (tk1 (List.mem_of_getElem? (i := 53) (by decide +kernel))) rfl
theorem wd194 : Cond.initialized "java/util/Arrays" ∈ TB := TBm (tk1 (List.mem_of_getElem? (i := 4) (by decide +kernel))) rfl
theorem cwJA_fill : gCw yJA_fill cJA_fill 4 none 2 := ⟨wd193, wd194, by decide +kernel⟩
theorem wd195 : Cond.static ⟨"java/util/Arrays", "fill", "([II)V"⟩ ∈ TB := TBm (tk1 (List.mem_of_getElem? (i := 52) (by decide +kernel))) rfl
theorem csJA_fill : gCs yJA_fill := wd195
theorem wd196 : Cond.code ⟨"CopiedFire$Seating", "<init>", "()V"⟩ prog_6_method_1_code 1 (Option.none : Option Jvm.ClassFile.FieldType) ∈ TB := TBm (tk1 (List.mem_of_getElem? (i := 136) (by decide +kernel))) rfl
theorem wd197 : Cond.initialized "CopiedFire$Seating" ∈ TB := TBm (tk1 (List.mem_of_getElem? (i := 5) (by decide +kernel))) rfl
theorem cwX4_init : gCw yX4_init cX4_init 1 none 0 := ⟨wd196, wd197, by decide +kernel⟩
theorem wd198 : Cond.code ⟨"CopiedFire$Tape", "<init>", "()V"⟩ prog_9_method_1_code 1 (Option.none : Option Jvm.ClassFile.FieldType) ∈ TB := TBm (tk1 (List.mem_of_getElem? (i := 150) (by decide +kernel))) rfl
theorem wd199 : Cond.initialized "CopiedFire$Tape" ∈ TB := TBm (tk1 (List.mem_of_getElem? (i := 6) (by decide +kernel))) rfl
theorem cwX7_init : gCw yX7_init cX7_init 1 none 0 := ⟨wd198, wd199, by decide +kernel⟩
theorem wd200 : Cond.code ⟨"CopiedFire$Reader", "<init>", "(LCopiedFire$Tape;)V"⟩ prog_5_method_1_code 2 (Option.none : Option Jvm.ClassFile.FieldType) ∈ TB := TBm (tk1 (List.mem_of_getElem? (i := 166) (by decide +kernel))) rfl
theorem wd201 : Cond.initialized "CopiedFire$Reader" ∈ TB := TBm (tk1 (List.mem_of_getElem? (i := 7) (by decide +kernel))) rfl
theorem cwX3_init : gCw yX3_init cX3_init 2 none 1 := ⟨wd200, wd201, by decide +kernel⟩
theorem wd202 : Cond.code ⟨"CopiedFire$Sheet", "<init>", "()V"⟩ prog_7_method_1_code 1 (Option.none : Option Jvm.ClassFile.FieldType) ∈ TB := TBm (tk1 (List.mem_of_getElem? (i := 203) (by decide +kernel))) rfl
theorem wd203 : Cond.initialized "CopiedFire$Sheet" ∈ TB := TBm (tk1 (List.mem_of_getElem? (i := 8) (by decide +kernel))) rfl
theorem cwX5_init : gCw yX5_init cX5_init 1 none 0 := ⟨wd202, wd203, by decide +kernel⟩
theorem wd204 : Cond.code ⟨"CopiedFire$Slot", "<init>", "()V"⟩ prog_8_method_1_code 1 (Option.none : Option Jvm.ClassFile.FieldType) ∈ TB := TBm (tk1 (List.mem_of_getElem? (i := 223) (by decide +kernel))) rfl
theorem wd205 : Cond.initialized "CopiedFire$Slot" ∈ TB := TBm (tk1 (List.mem_of_getElem? (i := 9) (by decide +kernel))) rfl
theorem cwX6_init : gCw yX6_init cX6_init 1 none 0 := ⟨wd204, wd205, by decide +kernel⟩
theorem wd206 : Cond.code ⟨"CopiedFire", "thing", "(IIII)I"⟩ prog_1_method_2_code 5 (Option.some Jvm.ClassFile.FieldType.int) ∈ TB := TBm (tk2 (List.mem_of_getElem? (i := 48) (by decide +kernel))) rfl
theorem cwX9_thing : gCw yX9_thing cX9_thing 5 (some .int) 4 := ⟨wd206, wd188, by decide +kernel⟩
theorem wd207 : Cond.instanceMethod ⟨"CopiedFire", "thing", "(IIII)I"⟩ ∈ TB := TBm (tk2 (List.mem_of_getElem? (i := 46) (by decide +kernel))) rfl
theorem wd208 : Cond.selects "CopiedFire" ⟨"CopiedFire", "thing", "(IIII)I"⟩ ⟨"CopiedFire", "thing", "(IIII)I"⟩ ∈ TB := TBm (tk2 (List.mem_of_getElem? (i := 47) (by decide +kernel))) rfl
theorem ciX9_thing : gCi yX9_thing := ⟨wd207, wd208⟩
theorem wd209 : Cond.code ⟨"CopiedFire", "isKind", "(I)Z"⟩ prog_1_method_51_code 1 (Option.some Jvm.ClassFile.FieldType.boolean) ∈ TB := TBm (tk2 (List.mem_of_getElem? (i := 51) (by decide +kernel))) rfl
theorem cwX9_isKind : gCw yX9_isKind cX9_isKind 1 (some .boolean) 1 := ⟨wd209, wd188, by decide +kernel⟩
theorem wd210 : Cond.static ⟨"CopiedFire", "isKind", "(I)Z"⟩ ∈ TB := TBm (tk2 (List.mem_of_getElem? (i := 50) (by decide +kernel))) rfl
theorem csX9_isKind : gCs yX9_isKind := wd210
theorem wd211 : Cond.code ⟨"CopiedFire", "within", "(III)Z"⟩ prog_1_method_49_code 3 (Option.some Jvm.ClassFile.FieldType.boolean) ∈ TB := TBm (tk2 (List.mem_of_getElem? (i := 54) (by decide +kernel))) rfl
theorem cwX9_within : gCw yX9_within cX9_within 3 (some .boolean) 3 := ⟨wd211, wd188, by decide +kernel⟩
theorem wd212 : Cond.static ⟨"CopiedFire", "within", "(III)Z"⟩ ∈ TB := TBm (tk2 (List.mem_of_getElem? (i := 53) (by decide +kernel))) rfl
theorem csX9_within : gCs yX9_within := wd212
theorem wd213 : Cond.code ⟨"CopiedFire", "isRoom", "(I)Z"⟩ prog_1_method_52_code 1 (Option.some Jvm.ClassFile.FieldType.boolean) ∈ TB := TBm (tk2 (List.mem_of_getElem? (i := 57) (by decide +kernel))) rfl
theorem cwX9_isRoom : gCw yX9_isRoom cX9_isRoom 1 (some .boolean) 1 := ⟨wd213, wd188, by decide +kernel⟩
theorem wd214 : Cond.static ⟨"CopiedFire", "isRoom", "(I)Z"⟩ ∈ TB := TBm (tk2 (List.mem_of_getElem? (i := 56) (by decide +kernel))) rfl
theorem csX9_isRoom : gCs yX9_isRoom := wd214
theorem wd215 : Cond.code ⟨"CopiedFire$House", "addThing", "(IIII)I"⟩ prog_2_method_3_code 5 (Option.some Jvm.ClassFile.FieldType.int) ∈ TB := TBm (tk2 (List.mem_of_getElem? (i := 63) (by decide +kernel))) rfl
theorem cwX0_addThing : gCw yX0_addThing cX0_addThing 5 (some .int) 4 := ⟨wd215, wd192, by decide +kernel⟩
theorem wd216 : Cond.instanceMethod ⟨"CopiedFire$House", "addThing", "(IIII)I"⟩ ∈ TB := TBm (tk2 (List.mem_of_getElem? (i := 61) (by decide +kernel))) rfl
theorem wd217 : Cond.selects "CopiedFire$House" ⟨"CopiedFire$House", "addThing", "(IIII)I"⟩ ⟨"CopiedFire$House", "addThing", "(IIII)I"⟩ ∈ TB := TBm (tk2 (List.mem_of_getElem? (i := 62) (by decide +kernel))) rfl
theorem ciX0_addThing : gCi yX0_addThing := ⟨wd216, wd217⟩
theorem wd218 : Cond.code ⟨"CopiedFire", "told", "(II)I"⟩ prog_1_method_3_code 3 (Option.some Jvm.ClassFile.FieldType.int) ∈ TB := TBm (tk2 (List.mem_of_getElem? (i := 67) (by decide +kernel))) rfl
theorem cwX9_told : gCw yX9_told cX9_told 3 (some .int) 2 := ⟨wd218, wd188, by decide +kernel⟩
theorem wd219 : Cond.instanceMethod ⟨"CopiedFire", "told", "(II)I"⟩ ∈ TB := TBm (tk2 (List.mem_of_getElem? (i := 65) (by decide +kernel))) rfl
theorem wd220 : Cond.selects "CopiedFire" ⟨"CopiedFire", "told", "(II)I"⟩ ⟨"CopiedFire", "told", "(II)I"⟩ ∈ TB := TBm (tk2 (List.mem_of_getElem? (i := 66) (by decide +kernel))) rfl
theorem ciX9_told : gCi yX9_told := ⟨wd219, wd220⟩
theorem wd221 : Cond.code ⟨"CopiedFire", "isThing", "(I)Z"⟩ prog_1_method_54_code 2 (Option.some Jvm.ClassFile.FieldType.boolean) ∈ TB := TBm (tk2 (List.mem_of_getElem? (i := 71) (by decide +kernel))) rfl
theorem cwX9_isThing : gCw yX9_isThing cX9_isThing 2 (some .boolean) 1 := ⟨wd221, wd188, by decide +kernel⟩
theorem wd222 : Cond.instanceMethod ⟨"CopiedFire", "isThing", "(I)Z"⟩ ∈ TB := TBm (tk2 (List.mem_of_getElem? (i := 70) (by decide +kernel))) rfl
theorem wd223 : Cond.selects "CopiedFire" ⟨"CopiedFire", "isThing", "(I)Z"⟩ ⟨"CopiedFire", "isThing", "(I)Z"⟩ ∈ TB := TBm (List.mem_of_getElem? (i := 0) (by decide +kernel)) rfl
theorem ciX9_isThing : gCi yX9_isThing := ⟨wd222, wd223⟩
theorem wd224 : Cond.code ⟨"CopiedFire$House", "burnsOf", "(I)I"⟩ prog_2_method_10_code 4 (Option.some Jvm.ClassFile.FieldType.int) ∈ TB := TBm (tk2 (List.mem_of_getElem? (i := 75) (by decide +kernel))) rfl
theorem cwX0_burnsOf : gCw yX0_burnsOf cX0_burnsOf 4 (some .int) 1 := ⟨wd224, wd192, by decide +kernel⟩
theorem wd225 : Cond.instanceMethod ⟨"CopiedFire$House", "burnsOf", "(I)I"⟩ ∈ TB := TBm (tk2 (List.mem_of_getElem? (i := 73) (by decide +kernel))) rfl
theorem wd226 : Cond.selects "CopiedFire$House" ⟨"CopiedFire$House", "burnsOf", "(I)I"⟩ ⟨"CopiedFire$House", "burnsOf", "(I)I"⟩ ∈ TB := TBm (tk2 (List.mem_of_getElem? (i := 74) (by decide +kernel))) rfl
theorem ciX0_burnsOf : gCi yX0_burnsOf := ⟨wd225, wd226⟩
theorem wd227 : Cond.code ⟨"CopiedFire$Laws", "work", "(IIII)I"⟩ prog_4_method_6_code 10 (Option.some Jvm.ClassFile.FieldType.int) ∈ TB := TBm (tk2 (List.mem_of_getElem? (i := 79) (by decide +kernel))) rfl
theorem cwX2_work : gCw yX2_work cX2_work 10 (some .int) 4 := ⟨wd227, wd190, by decide +kernel⟩
theorem wd228 : Cond.instanceMethod ⟨"CopiedFire$Laws", "work", "(IIII)I"⟩ ∈ TB := TBm (tk2 (List.mem_of_getElem? (i := 77) (by decide +kernel))) rfl
theorem wd229 : Cond.selects "CopiedFire$Laws" ⟨"CopiedFire$Laws", "work", "(IIII)I"⟩ ⟨"CopiedFire$Laws", "work", "(IIII)I"⟩ ∈ TB := TBm (tk2 (List.mem_of_getElem? (i := 78) (by decide +kernel))) rfl
theorem ciX2_work : gCi yX2_work := ⟨wd228, wd229⟩
theorem wd230 : Cond.code ⟨"CopiedFire$Laws", "has", "(I)Z"⟩ prog_4_method_2_code 2 (Option.some Jvm.ClassFile.FieldType.boolean) ∈ TB := TBm (tk2 (List.mem_of_getElem? (i := 83) (by decide +kernel))) rfl
theorem cwX2_has : gCw yX2_has cX2_has 2 (some .boolean) 1 := ⟨wd230, wd190, by decide +kernel⟩
theorem wd231 : Cond.instanceMethod ⟨"CopiedFire$Laws", "has", "(I)Z"⟩ ∈ TB := TBm (tk2 (List.mem_of_getElem? (i := 82) (by decide +kernel))) rfl
theorem wd232 : Cond.selects "CopiedFire$Laws" ⟨"CopiedFire$Laws", "has", "(I)Z"⟩ ⟨"CopiedFire$Laws", "has", "(I)Z"⟩ ∈ TB := TBm (List.mem_of_getElem? (i := 1) (by decide +kernel)) rfl
theorem ciX2_has : gCi yX2_has := ⟨wd231, wd232⟩
theorem wd233 : Cond.code ⟨"CopiedFire$Laws", "joined", "(III)I"⟩ prog_4_method_7_code 3 (Option.some Jvm.ClassFile.FieldType.int) ∈ TB := TBm (tk2 (List.mem_of_getElem? (i := 87) (by decide +kernel))) rfl
theorem cwX2_joined : gCw yX2_joined cX2_joined 3 (some .int) 3 := ⟨wd233, wd190, by decide +kernel⟩
theorem wd234 : Cond.static ⟨"CopiedFire$Laws", "joined", "(III)I"⟩ ∈ TB := TBm (tk2 (List.mem_of_getElem? (i := 86) (by decide +kernel))) rfl
theorem csX2_joined : gCs yX2_joined := wd234
theorem wd235 : Cond.code ⟨"CopiedFire", "held", "(II)I"⟩ prog_1_method_50_code 2 (Option.some Jvm.ClassFile.FieldType.int) ∈ TB := TBm (tk2 (List.mem_of_getElem? (i := 90) (by decide +kernel))) rfl
theorem cwX9_held : gCw yX9_held cX9_held 2 (some .int) 2 := ⟨wd235, wd188, by decide +kernel⟩
theorem wd236 : Cond.static ⟨"CopiedFire", "held", "(II)I"⟩ ∈ TB := TBm (tk2 (List.mem_of_getElem? (i := 89) (by decide +kernel))) rfl
theorem csX9_held : gCs yX9_held := wd236
theorem wd237 : Cond.code ⟨"CopiedFire$Kinds", "burns", "(II)I"⟩ prog_3_method_3_code 2 (Option.some Jvm.ClassFile.FieldType.int) ∈ TB := TBm (tk2 (List.mem_of_getElem? (i := 99) (by decide +kernel))) rfl
theorem wd238 : Cond.initialized "CopiedFire$Kinds" ∈ TB := TBm (tk1 (List.mem_of_getElem? (i := 12) (by decide +kernel))) rfl
theorem cwX1_burns : gCw yX1_burns cX1_burns 2 (some .int) 2 := ⟨wd237, wd238, by decide +kernel⟩
theorem wd239 : Cond.static ⟨"CopiedFire$Kinds", "burns", "(II)I"⟩ ∈ TB := TBm (tk2 (List.mem_of_getElem? (i := 98) (by decide +kernel))) rfl
theorem csX1_burns : gCs yX1_burns := wd239
theorem wd240 : Cond.code ⟨"CopiedFire$Kinds", "gives", "(II)I"⟩ prog_3_method_4_code 2 (Option.some Jvm.ClassFile.FieldType.int) ∈ TB := TBm (tk2 (List.mem_of_getElem? (i := 103) (by decide +kernel))) rfl
theorem cwX1_gives : gCw yX1_gives cX1_gives 2 (some .int) 2 := ⟨wd240, wd238, by decide +kernel⟩
theorem wd241 : Cond.static ⟨"CopiedFire$Kinds", "gives", "(II)I"⟩ ∈ TB := TBm (tk2 (List.mem_of_getElem? (i := 102) (by decide +kernel))) rfl
theorem csX1_gives : gCs yX1_gives := wd241
theorem wd242 : Cond.code ⟨"CopiedFire$Kinds", "catchesFrom", "(I)I"⟩ prog_3_method_5_code 1 (Option.some Jvm.ClassFile.FieldType.int) ∈ TB := TBm (tk2 (List.mem_of_getElem? (i := 106) (by decide +kernel))) rfl
theorem cwX1_catchesFrom : gCw yX1_catchesFrom cX1_catchesFrom 1 (some .int) 1 := ⟨wd242, wd238, by decide +kernel⟩
theorem wd243 : Cond.static ⟨"CopiedFire$Kinds", "catchesFrom", "(I)I"⟩ ∈ TB := TBm (tk2 (List.mem_of_getElem? (i := 105) (by decide +kernel))) rfl
theorem csX1_catchesFrom : gCs yX1_catchesFrom := wd243
theorem wd244 : Cond.code ⟨"CopiedFire$Kinds", "worth", "(II)I"⟩ prog_3_method_6_code 2 (Option.some Jvm.ClassFile.FieldType.int) ∈ TB := TBm (tk2 (List.mem_of_getElem? (i := 109) (by decide +kernel))) rfl
theorem cwX1_worth : gCw yX1_worth cX1_worth 2 (some .int) 2 := ⟨wd244, wd238, by decide +kernel⟩
theorem wd245 : Cond.static ⟨"CopiedFire$Kinds", "worth", "(II)I"⟩ ∈ TB := TBm (tk2 (List.mem_of_getElem? (i := 108) (by decide +kernel))) rfl
theorem csX1_worth : gCs yX1_worth := wd245
theorem wd246 : Cond.code ⟨"CopiedFire", "as", "(II)I"⟩ prog_1_method_4_code 3 (Option.some Jvm.ClassFile.FieldType.int) ∈ TB := TBm (tk2 (List.mem_of_getElem? (i := 113) (by decide +kernel))) rfl
theorem cwX9_as : gCw yX9_as cX9_as 3 (some .int) 2 := ⟨wd246, wd188, by decide +kernel⟩
theorem wd247 : Cond.instanceMethod ⟨"CopiedFire", "as", "(II)I"⟩ ∈ TB := TBm (tk2 (List.mem_of_getElem? (i := 111) (by decide +kernel))) rfl
theorem wd248 : Cond.selects "CopiedFire" ⟨"CopiedFire", "as", "(II)I"⟩ ⟨"CopiedFire", "as", "(II)I"⟩ ∈ TB := TBm (tk2 (List.mem_of_getElem? (i := 112) (by decide +kernel))) rfl
theorem ciX9_as : gCi yX9_as := ⟨wd247, wd248⟩
theorem wd249 : Cond.code ⟨"CopiedFire$Kinds", "isOf", "(II)Z"⟩ prog_3_method_2_code 2 (Option.some Jvm.ClassFile.FieldType.boolean) ∈ TB := TBm (tk2 (List.mem_of_getElem? (i := 116) (by decide +kernel))) rfl
theorem cwX1_isOf : gCw yX1_isOf cX1_isOf 2 (some .boolean) 2 := ⟨wd249, wd238, by decide +kernel⟩
theorem wd250 : Cond.static ⟨"CopiedFire$Kinds", "isOf", "(II)Z"⟩ ∈ TB := TBm (tk2 (List.mem_of_getElem? (i := 115) (by decide +kernel))) rfl
theorem csX1_isOf : gCs yX1_isOf := wd250
theorem wd251 : Cond.code ⟨"CopiedFire", "turns", "(II)I"⟩ prog_1_method_5_code 4 (Option.some Jvm.ClassFile.FieldType.int) ∈ TB := TBm (tk2 (List.mem_of_getElem? (i := 123) (by decide +kernel))) rfl
theorem cwX9_turns : gCw yX9_turns cX9_turns 4 (some .int) 2 := ⟨wd251, wd188, by decide +kernel⟩
theorem wd252 : Cond.instanceMethod ⟨"CopiedFire", "turns", "(II)I"⟩ ∈ TB := TBm (tk2 (List.mem_of_getElem? (i := 121) (by decide +kernel))) rfl
theorem wd253 : Cond.selects "CopiedFire" ⟨"CopiedFire", "turns", "(II)I"⟩ ⟨"CopiedFire", "turns", "(II)I"⟩ ∈ TB := TBm (tk2 (List.mem_of_getElem? (i := 122) (by decide +kernel))) rfl
theorem ciX9_turns : gCi yX9_turns := ⟨wd252, wd253⟩
theorem wd254 : Cond.code ⟨"CopiedFire", "set", "(III)I"⟩ prog_1_method_6_code 4 (Option.some Jvm.ClassFile.FieldType.int) ∈ TB := TBm (tk2 (List.mem_of_getElem? (i := 127) (by decide +kernel))) rfl
theorem cwX9_set : gCw yX9_set cX9_set 4 (some .int) 3 := ⟨wd254, wd188, by decide +kernel⟩
theorem wd255 : Cond.instanceMethod ⟨"CopiedFire", "set", "(III)I"⟩ ∈ TB := TBm (tk2 (List.mem_of_getElem? (i := 125) (by decide +kernel))) rfl
theorem wd256 : Cond.selects "CopiedFire" ⟨"CopiedFire", "set", "(III)I"⟩ ⟨"CopiedFire", "set", "(III)I"⟩ ∈ TB := TBm (tk2 (List.mem_of_getElem? (i := 126) (by decide +kernel))) rfl
theorem ciX9_set : gCi yX9_set := ⟨wd255, wd256⟩
theorem wd257 : Cond.code ⟨"CopiedFire", "replaced", "([IIII)I"⟩ prog_1_method_58_code 5 (Option.some Jvm.ClassFile.FieldType.int) ∈ TB := TBm (tk2 (List.mem_of_getElem? (i := 130) (by decide +kernel))) rfl
theorem cwX9_replaced : gCw yX9_replaced cX9_replaced 5 (some .int) 4 := ⟨wd257, wd188, by decide +kernel⟩
theorem wd258 : Cond.static ⟨"CopiedFire", "replaced", "([IIII)I"⟩ ∈ TB := TBm (tk2 (List.mem_of_getElem? (i := 129) (by decide +kernel))) rfl
theorem csX9_replaced : gCs yX9_replaced := wd258
theorem wd259 : Cond.code ⟨"CopiedFire", "deal", "(I)I"⟩ prog_1_method_7_code 4 (Option.some Jvm.ClassFile.FieldType.int) ∈ TB := TBm (tk2 (List.mem_of_getElem? (i := 134) (by decide +kernel))) rfl
theorem cwX9_deal : gCw yX9_deal cX9_deal 4 (some .int) 1 := ⟨wd259, wd188, by decide +kernel⟩
theorem wd260 : Cond.instanceMethod ⟨"CopiedFire", "deal", "(I)I"⟩ ∈ TB := TBm (tk2 (List.mem_of_getElem? (i := 132) (by decide +kernel))) rfl
theorem wd261 : Cond.selects "CopiedFire" ⟨"CopiedFire", "deal", "(I)I"⟩ ⟨"CopiedFire", "deal", "(I)I"⟩ ∈ TB := TBm (tk2 (List.mem_of_getElem? (i := 133) (by decide +kernel))) rfl
theorem ciX9_deal : gCi yX9_deal := ⟨wd260, wd261⟩
theorem wd262 : Cond.code ⟨"CopiedFire$House", "drawThing", "()V"⟩ prog_2_method_4_code 5 (Option.none : Option Jvm.ClassFile.FieldType) ∈ TB := TBm (tk2 (List.mem_of_getElem? (i := 138) (by decide +kernel))) rfl
theorem cwX0_drawThing : gCw yX0_drawThing cX0_drawThing 5 none 0 := ⟨wd262, wd192, by decide +kernel⟩
theorem wd263 : Cond.instanceMethod ⟨"CopiedFire$House", "drawThing", "()V"⟩ ∈ TB := TBm (tk2 (List.mem_of_getElem? (i := 136) (by decide +kernel))) rfl
theorem wd264 : Cond.selects "CopiedFire$House" ⟨"CopiedFire$House", "drawThing", "()V"⟩ ⟨"CopiedFire$House", "drawThing", "()V"⟩ ∈ TB := TBm (tk2 (List.mem_of_getElem? (i := 137) (by decide +kernel))) rfl
theorem ciX0_drawThing : gCi yX0_drawThing := ⟨wd263, wd264⟩
theorem wd265 : Cond.code ⟨"CopiedFire$House", "draw", "()I"⟩ prog_2_method_17_code 1 (Option.some Jvm.ClassFile.FieldType.int) ∈ TB := TBm (tk2 (List.mem_of_getElem? (i := 142) (by decide +kernel))) rfl
theorem cwX0_draw : gCw yX0_draw cX0_draw 1 (some .int) 0 := ⟨wd265, wd192, by decide +kernel⟩
theorem wd266 : Cond.instanceMethod ⟨"CopiedFire$House", "draw", "()I"⟩ ∈ TB := TBm (tk2 (List.mem_of_getElem? (i := 141) (by decide +kernel))) rfl
theorem wd267 : Cond.selects "CopiedFire$House" ⟨"CopiedFire$House", "draw", "()I"⟩ ⟨"CopiedFire$House", "draw", "()I"⟩ ∈ TB := TBm (List.mem_of_getElem? (i := 2) (by decide +kernel)) rfl
theorem ciX0_draw : gCi yX0_draw := ⟨wd266, wd267⟩
theorem wd268 : Cond.code ⟨"CopiedFire", "seed", "(I)I"⟩ prog_1_method_8_code 3 (Option.some Jvm.ClassFile.FieldType.int) ∈ TB := TBm (tk2 (List.mem_of_getElem? (i := 148) (by decide +kernel))) rfl
theorem cwX9_seed : gCw yX9_seed cX9_seed 3 (some .int) 1 := ⟨wd268, wd188, by decide +kernel⟩
theorem wd269 : Cond.instanceMethod ⟨"CopiedFire", "seed", "(I)I"⟩ ∈ TB := TBm (tk2 (List.mem_of_getElem? (i := 146) (by decide +kernel))) rfl
theorem wd270 : Cond.selects "CopiedFire" ⟨"CopiedFire", "seed", "(I)I"⟩ ⟨"CopiedFire", "seed", "(I)I"⟩ ∈ TB := TBm (tk2 (List.mem_of_getElem? (i := 147) (by decide +kernel))) rfl
theorem ciX9_seed : gCi yX9_seed := ⟨wd269, wd270⟩
theorem wd271 : Cond.code ⟨"CopiedFire", "heat", "(I)I"⟩ prog_1_method_9_code 2 (Option.some Jvm.ClassFile.FieldType.int) ∈ TB := TBm (tk2 (List.mem_of_getElem? (i := 152) (by decide +kernel))) rfl
theorem cwX9_heat : gCw yX9_heat cX9_heat 2 (some .int) 1 := ⟨wd271, wd188, by decide +kernel⟩
theorem wd272 : Cond.instanceMethod ⟨"CopiedFire", "heat", "(I)I"⟩ ∈ TB := TBm (tk2 (List.mem_of_getElem? (i := 150) (by decide +kernel))) rfl
theorem wd273 : Cond.selects "CopiedFire" ⟨"CopiedFire", "heat", "(I)I"⟩ ⟨"CopiedFire", "heat", "(I)I"⟩ ∈ TB := TBm (tk2 (List.mem_of_getElem? (i := 151) (by decide +kernel))) rfl
theorem ciX9_heat : gCi yX9_heat := ⟨wd272, wd273⟩
theorem wd274 : Cond.code ⟨"CopiedFire", "heats", "(II)I"⟩ prog_1_method_10_code 3 (Option.some Jvm.ClassFile.FieldType.int) ∈ TB := TBm (tk2 (List.mem_of_getElem? (i := 156) (by decide +kernel))) rfl
theorem cwX9_heats : gCw yX9_heats cX9_heats 3 (some .int) 2 := ⟨wd274, wd188, by decide +kernel⟩
theorem wd275 : Cond.instanceMethod ⟨"CopiedFire", "heats", "(II)I"⟩ ∈ TB := TBm (tk2 (List.mem_of_getElem? (i := 154) (by decide +kernel))) rfl
theorem wd276 : Cond.selects "CopiedFire" ⟨"CopiedFire", "heats", "(II)I"⟩ ⟨"CopiedFire", "heats", "(II)I"⟩ ∈ TB := TBm (tk2 (List.mem_of_getElem? (i := 155) (by decide +kernel))) rfl
theorem ciX9_heats : gCi yX9_heats := ⟨wd275, wd276⟩
theorem wd277 : Cond.code ⟨"CopiedFire", "door", "(III)I"⟩ prog_1_method_11_code 5 (Option.some Jvm.ClassFile.FieldType.int) ∈ TB := TBm (tk2 (List.mem_of_getElem? (i := 160) (by decide +kernel))) rfl
theorem cwX9_door : gCw yX9_door cX9_door 5 (some .int) 3 := ⟨wd277, wd188, by decide +kernel⟩
theorem wd278 : Cond.instanceMethod ⟨"CopiedFire", "door", "(III)I"⟩ ∈ TB := TBm (tk2 (List.mem_of_getElem? (i := 158) (by decide +kernel))) rfl
theorem wd279 : Cond.selects "CopiedFire" ⟨"CopiedFire", "door", "(III)I"⟩ ⟨"CopiedFire", "door", "(III)I"⟩ ∈ TB := TBm (tk2 (List.mem_of_getElem? (i := 159) (by decide +kernel))) rfl
theorem ciX9_door : gCi yX9_door := ⟨wd278, wd279⟩
theorem wd280 : Cond.code ⟨"CopiedFire", "areTwoRooms", "(II)Z"⟩ prog_1_method_53_code 2 (Option.some Jvm.ClassFile.FieldType.boolean) ∈ TB := TBm (tk2 (List.mem_of_getElem? (i := 163) (by decide +kernel))) rfl
theorem cwX9_areTwoRooms : gCw yX9_areTwoRooms cX9_areTwoRooms 2 (some .boolean) 2 := ⟨wd280, wd188, by decide +kernel⟩
theorem wd281 : Cond.static ⟨"CopiedFire", "areTwoRooms", "(II)Z"⟩ ∈ TB := TBm (tk2 (List.mem_of_getElem? (i := 162) (by decide +kernel))) rfl
theorem csX9_areTwoRooms : gCs yX9_areTwoRooms := wd281
theorem wd282 : Cond.code ⟨"CopiedFire$House", "doorBetween", "(II)I"⟩ prog_2_method_5_code 3 (Option.some Jvm.ClassFile.FieldType.int) ∈ TB := TBm (tk2 (List.mem_of_getElem? (i := 167) (by decide +kernel))) rfl
theorem cwX0_doorBetween : gCw yX0_doorBetween cX0_doorBetween 3 (some .int) 2 := ⟨wd282, wd192, by decide +kernel⟩
theorem wd283 : Cond.instanceMethod ⟨"CopiedFire$House", "doorBetween", "(II)I"⟩ ∈ TB := TBm (tk2 (List.mem_of_getElem? (i := 165) (by decide +kernel))) rfl
theorem wd284 : Cond.selects "CopiedFire$House" ⟨"CopiedFire$House", "doorBetween", "(II)I"⟩ ⟨"CopiedFire$House", "doorBetween", "(II)I"⟩ ∈ TB := TBm (tk2 (List.mem_of_getElem? (i := 166) (by decide +kernel))) rfl
theorem ciX0_doorBetween : gCi yX0_doorBetween := ⟨wd283, wd284⟩
theorem wd285 : Cond.code ⟨"CopiedFire$House", "putDoor", "(III)V"⟩ prog_2_method_6_code 4 (Option.none : Option Jvm.ClassFile.FieldType) ∈ TB := TBm (tk2 (List.mem_of_getElem? (i := 171) (by decide +kernel))) rfl
theorem cwX0_putDoor : gCw yX0_putDoor cX0_putDoor 4 none 3 := ⟨wd285, wd192, by decide +kernel⟩
theorem wd286 : Cond.instanceMethod ⟨"CopiedFire$House", "putDoor", "(III)V"⟩ ∈ TB := TBm (tk2 (List.mem_of_getElem? (i := 169) (by decide +kernel))) rfl
theorem wd287 : Cond.selects "CopiedFire$House" ⟨"CopiedFire$House", "putDoor", "(III)V"⟩ ⟨"CopiedFire$House", "putDoor", "(III)V"⟩ ∈ TB := TBm (tk2 (List.mem_of_getElem? (i := 170) (by decide +kernel))) rfl
theorem ciX0_putDoor : gCi yX0_putDoor := ⟨wd286, wd287⟩
theorem wd288 : Cond.code ⟨"CopiedFire", "doorTold", "(II)I"⟩ prog_1_method_12_code 3 (Option.some Jvm.ClassFile.FieldType.int) ∈ TB := TBm (tk2 (List.mem_of_getElem? (i := 175) (by decide +kernel))) rfl
theorem cwX9_doorTold : gCw yX9_doorTold cX9_doorTold 3 (some .int) 2 := ⟨wd288, wd188, by decide +kernel⟩
theorem wd289 : Cond.instanceMethod ⟨"CopiedFire", "doorTold", "(II)I"⟩ ∈ TB := TBm (tk2 (List.mem_of_getElem? (i := 173) (by decide +kernel))) rfl
theorem wd290 : Cond.selects "CopiedFire" ⟨"CopiedFire", "doorTold", "(II)I"⟩ ⟨"CopiedFire", "doorTold", "(II)I"⟩ ∈ TB := TBm (tk2 (List.mem_of_getElem? (i := 174) (by decide +kernel))) rfl
theorem ciX9_doorTold : gCi yX9_doorTold := ⟨wd289, wd290⟩
theorem wd291 : Cond.code ⟨"CopiedFire", "rule", "(II)I"⟩ prog_1_method_13_code 4 (Option.some Jvm.ClassFile.FieldType.int) ∈ TB := TBm (tk2 (List.mem_of_getElem? (i := 179) (by decide +kernel))) rfl
theorem cwX9_rule : gCw yX9_rule cX9_rule 4 (some .int) 2 := ⟨wd291, wd188, by decide +kernel⟩
theorem wd292 : Cond.instanceMethod ⟨"CopiedFire", "rule", "(II)I"⟩ ∈ TB := TBm (tk2 (List.mem_of_getElem? (i := 177) (by decide +kernel))) rfl
theorem wd293 : Cond.selects "CopiedFire" ⟨"CopiedFire", "rule", "(II)I"⟩ ⟨"CopiedFire", "rule", "(II)I"⟩ ∈ TB := TBm (tk2 (List.mem_of_getElem? (i := 178) (by decide +kernel))) rfl
theorem ciX9_rule : gCi yX9_rule := ⟨wd292, wd293⟩
theorem wd294 : Cond.code ⟨"CopiedFire", "visitor", "(I)I"⟩ prog_1_method_14_code 2 (Option.some Jvm.ClassFile.FieldType.int) ∈ TB := TBm (tk2 (List.mem_of_getElem? (i := 183) (by decide +kernel))) rfl
theorem cwX9_visitor : gCw yX9_visitor cX9_visitor 2 (some .int) 1 := ⟨wd294, wd188, by decide +kernel⟩
theorem wd295 : Cond.instanceMethod ⟨"CopiedFire", "visitor", "(I)I"⟩ ∈ TB := TBm (tk2 (List.mem_of_getElem? (i := 181) (by decide +kernel))) rfl
theorem wd296 : Cond.selects "CopiedFire" ⟨"CopiedFire", "visitor", "(I)I"⟩ ⟨"CopiedFire", "visitor", "(I)I"⟩ ∈ TB := TBm (tk2 (List.mem_of_getElem? (i := 182) (by decide +kernel))) rfl
theorem ciX9_visitor : gCi yX9_visitor := ⟨wd295, wd296⟩
theorem wd297 : Cond.code ⟨"CopiedFire", "likes", "(II)I"⟩ prog_1_method_15_code 3 (Option.some Jvm.ClassFile.FieldType.int) ∈ TB := TBm (tk2 (List.mem_of_getElem? (i := 187) (by decide +kernel))) rfl
theorem cwX9_likes : gCw yX9_likes cX9_likes 3 (some .int) 2 := ⟨wd297, wd188, by decide +kernel⟩
theorem wd298 : Cond.instanceMethod ⟨"CopiedFire", "likes", "(II)I"⟩ ∈ TB := TBm (tk2 (List.mem_of_getElem? (i := 185) (by decide +kernel))) rfl
theorem wd299 : Cond.selects "CopiedFire" ⟨"CopiedFire", "likes", "(II)I"⟩ ⟨"CopiedFire", "likes", "(II)I"⟩ ∈ TB := TBm (tk2 (List.mem_of_getElem? (i := 186) (by decide +kernel))) rfl
theorem ciX9_likes : gCi yX9_likes := ⟨wd298, wd299⟩
theorem wd300 : Cond.code ⟨"CopiedFire", "isVisitor", "(I)Z"⟩ prog_1_method_55_code 2 (Option.some Jvm.ClassFile.FieldType.boolean) ∈ TB := TBm (tk2 (List.mem_of_getElem? (i := 191) (by decide +kernel))) rfl
theorem cwX9_isVisitor : gCw yX9_isVisitor cX9_isVisitor 2 (some .boolean) 1 := ⟨wd300, wd188, by decide +kernel⟩
theorem wd301 : Cond.instanceMethod ⟨"CopiedFire", "isVisitor", "(I)Z"⟩ ∈ TB := TBm (tk2 (List.mem_of_getElem? (i := 190) (by decide +kernel))) rfl
theorem wd302 : Cond.selects "CopiedFire" ⟨"CopiedFire", "isVisitor", "(I)Z"⟩ ⟨"CopiedFire", "isVisitor", "(I)Z"⟩ ∈ TB := TBm (List.mem_of_getElem? (i := 3) (by decide +kernel)) rfl
theorem ciX9_isVisitor : gCi yX9_isVisitor := ⟨wd301, wd302⟩
theorem wd303 : Cond.code ⟨"CopiedFire", "seats", "(I)I"⟩ prog_1_method_16_code 3 (Option.some Jvm.ClassFile.FieldType.int) ∈ TB := TBm (tk2 (List.mem_of_getElem? (i := 195) (by decide +kernel))) rfl
theorem cwX9_seats : gCw yX9_seats cX9_seats 3 (some .int) 1 := ⟨wd303, wd188, by decide +kernel⟩
theorem wd304 : Cond.instanceMethod ⟨"CopiedFire", "seats", "(I)I"⟩ ∈ TB := TBm (tk2 (List.mem_of_getElem? (i := 193) (by decide +kernel))) rfl
theorem wd305 : Cond.selects "CopiedFire" ⟨"CopiedFire", "seats", "(I)I"⟩ ⟨"CopiedFire", "seats", "(I)I"⟩ ∈ TB := TBm (tk2 (List.mem_of_getElem? (i := 194) (by decide +kernel))) rfl
theorem ciX9_seats : gCi yX9_seats := ⟨wd304, wd305⟩
theorem wd306 : Cond.code ⟨"CopiedFire$Seating", "seatAll", "(LCopiedFire$House;)I"⟩ prog_6_method_2_code 8 (Option.some Jvm.ClassFile.FieldType.int) ∈ TB := TBm (tk2 (List.mem_of_getElem? (i := 199) (by decide +kernel))) rfl
theorem cwX4_seatAll : gCw yX4_seatAll cX4_seatAll 8 (some .int) 1 := ⟨wd306, wd197, by decide +kernel⟩
theorem wd307 : Cond.instanceMethod ⟨"CopiedFire$Seating", "seatAll", "(LCopiedFire$House;)I"⟩ ∈ TB := TBm (tk2 (List.mem_of_getElem? (i := 197) (by decide +kernel))) rfl
theorem wd308 : Cond.selects "CopiedFire$Seating" ⟨"CopiedFire$Seating", "seatAll", "(LCopiedFire$House;)I"⟩ ⟨"CopiedFire$Seating", "seatAll", "(LCopiedFire$House;)I"⟩ ∈ TB := TBm (tk2 (List.mem_of_getElem? (i := 198) (by decide +kernel))) rfl
theorem ciX4_seatAll : gCi yX4_seatAll := ⟨wd307, wd308⟩
theorem wd309 : Cond.code ⟨"CopiedFire$Seating", "gatherLikes", "(LCopiedFire$House;)V"⟩ prog_6_method_3_code 6 (Option.none : Option Jvm.ClassFile.FieldType) ∈ TB := TBm (tk2 (List.mem_of_getElem? (i := 203) (by decide +kernel))) rfl
theorem cwX4_gatherLikes : gCw yX4_gatherLikes cX4_gatherLikes 6 none 1 := ⟨wd309, wd197, by decide +kernel⟩
theorem wd310 : Cond.instanceMethod ⟨"CopiedFire$Seating", "gatherLikes", "(LCopiedFire$House;)V"⟩ ∈ TB := TBm (tk2 (List.mem_of_getElem? (i := 202) (by decide +kernel))) rfl
theorem wd311 : Cond.selects "CopiedFire$Seating" ⟨"CopiedFire$Seating", "gatherLikes", "(LCopiedFire$House;)V"⟩ ⟨"CopiedFire$Seating", "gatherLikes", "(LCopiedFire$House;)V"⟩ ∈ TB := TBm (List.mem_of_getElem? (i := 4) (by decide +kernel)) rfl
theorem ciX4_gatherLikes : gCi yX4_gatherLikes := ⟨wd310, wd311⟩
theorem wd312 : Cond.code ⟨"CopiedFire$Seating", "mostSeated", "(III)I"⟩ prog_6_method_5_code 8 (Option.some Jvm.ClassFile.FieldType.int) ∈ TB := TBm (tk2 (List.mem_of_getElem? (i := 207) (by decide +kernel))) rfl
theorem cwX4_mostSeated : gCw yX4_mostSeated cX4_mostSeated 8 (some .int) 3 := ⟨wd312, wd197, by decide +kernel⟩
theorem wd313 : Cond.instanceMethod ⟨"CopiedFire$Seating", "mostSeated", "(III)I"⟩ ∈ TB := TBm (tk2 (List.mem_of_getElem? (i := 206) (by decide +kernel))) rfl
theorem wd314 : Cond.selects "CopiedFire$Seating" ⟨"CopiedFire$Seating", "mostSeated", "(III)I"⟩ ⟨"CopiedFire$Seating", "mostSeated", "(III)I"⟩ ∈ TB := TBm (List.mem_of_getElem? (i := 5) (by decide +kernel)) rfl
theorem ciX4_mostSeated : gCi yX4_mostSeated := ⟨wd313, wd314⟩
abbrev cJI_bitCount : ByteArray := prog_15_method_49_code
def yJI_bitCount : MethodName := ⟨RJI, "bitCount", "(I)I"⟩
theorem wd315 : Cond.code ⟨"java/lang/Integer", "bitCount", "(I)I"⟩ prog_15_method_49_code 1 (Option.some Jvm.ClassFile.FieldType.int) ∈ TB := TBm (tk2 (List.mem_of_getElem? (i := 210) (by decide +kernel))) rfl
theorem wd316 : Cond.initialized "java/lang/Integer" ∈ TB := TBm (tk1 (List.mem_of_getElem? (i := 13) (by decide +kernel))) rfl
theorem cwJI_bitCount : gCw yJI_bitCount cJI_bitCount 1 (some .int) 1 := ⟨wd315, wd316, by decide +kernel⟩
theorem wd317 : Cond.static ⟨"java/lang/Integer", "bitCount", "(I)I"⟩ ∈ TB := TBm (tk2 (List.mem_of_getElem? (i := 209) (by decide +kernel))) rfl
theorem csJI_bitCount : gCs yJI_bitCount := wd317
theorem wd318 : Cond.code ⟨"CopiedFire$Seating", "leastRoom", "(IIII)I"⟩ prog_6_method_4_code 7 (Option.some Jvm.ClassFile.FieldType.int) ∈ TB := TBm (tk2 (List.mem_of_getElem? (i := 218) (by decide +kernel))) rfl
theorem cwX4_leastRoom : gCw yX4_leastRoom cX4_leastRoom 7 (some .int) 4 := ⟨wd318, wd197, by decide +kernel⟩
theorem wd319 : Cond.instanceMethod ⟨"CopiedFire$Seating", "leastRoom", "(IIII)I"⟩ ∈ TB := TBm (tk2 (List.mem_of_getElem? (i := 217) (by decide +kernel))) rfl
theorem wd320 : Cond.selects "CopiedFire$Seating" ⟨"CopiedFire$Seating", "leastRoom", "(IIII)I"⟩ ⟨"CopiedFire$Seating", "leastRoom", "(IIII)I"⟩ ∈ TB := TBm (List.mem_of_getElem? (i := 6) (by decide +kernel)) rfl
theorem ciX4_leastRoom : gCi yX4_leastRoom := ⟨wd319, wd320⟩
theorem wd321 : Cond.code ⟨"CopiedFire", "way", "(II)I"⟩ prog_1_method_17_code 5 (Option.some Jvm.ClassFile.FieldType.int) ∈ TB := TBm (tk2 (List.mem_of_getElem? (i := 223) (by decide +kernel))) rfl
theorem cwX9_way : gCw yX9_way cX9_way 5 (some .int) 2 := ⟨wd321, wd188, by decide +kernel⟩
theorem wd322 : Cond.instanceMethod ⟨"CopiedFire", "way", "(II)I"⟩ ∈ TB := TBm (tk2 (List.mem_of_getElem? (i := 221) (by decide +kernel))) rfl
theorem wd323 : Cond.selects "CopiedFire" ⟨"CopiedFire", "way", "(II)I"⟩ ⟨"CopiedFire", "way", "(II)I"⟩ ∈ TB := TBm (tk2 (List.mem_of_getElem? (i := 222) (by decide +kernel))) rfl
theorem ciX9_way : gCi yX9_way := ⟨wd322, wd323⟩
theorem wd324 : Cond.code ⟨"CopiedFire$House", "reachedNext", "(I)I"⟩ prog_2_method_7_code 5 (Option.some Jvm.ClassFile.FieldType.int) ∈ TB := TBm (tk2 (List.mem_of_getElem? (i := 227) (by decide +kernel))) rfl
theorem cwX0_reachedNext : gCw yX0_reachedNext cX0_reachedNext 5 (some .int) 1 := ⟨wd324, wd192, by decide +kernel⟩
theorem wd325 : Cond.instanceMethod ⟨"CopiedFire$House", "reachedNext", "(I)I"⟩ ∈ TB := TBm (tk2 (List.mem_of_getElem? (i := 225) (by decide +kernel))) rfl
theorem wd326 : Cond.selects "CopiedFire$House" ⟨"CopiedFire$House", "reachedNext", "(I)I"⟩ ⟨"CopiedFire$House", "reachedNext", "(I)I"⟩ ∈ TB := TBm (tk2 (List.mem_of_getElem? (i := 226) (by decide +kernel))) rfl
theorem ciX0_reachedNext : gCi yX0_reachedNext := ⟨wd325, wd326⟩
theorem wd327 : Cond.code ⟨"CopiedFire", "minutes", "(I)I"⟩ prog_1_method_18_code 5 (Option.some Jvm.ClassFile.FieldType.int) ∈ TB := TBm (tk2 (List.mem_of_getElem? (i := 233) (by decide +kernel))) rfl
theorem cwX9_minutes : gCw yX9_minutes cX9_minutes 5 (some .int) 1 := ⟨wd327, wd188, by decide +kernel⟩
theorem wd328 : Cond.instanceMethod ⟨"CopiedFire", "minutes", "(I)I"⟩ ∈ TB := TBm (tk2 (List.mem_of_getElem? (i := 231) (by decide +kernel))) rfl
theorem wd329 : Cond.selects "CopiedFire" ⟨"CopiedFire", "minutes", "(I)I"⟩ ⟨"CopiedFire", "minutes", "(I)I"⟩ ∈ TB := TBm (tk2 (List.mem_of_getElem? (i := 232) (by decide +kernel))) rfl
theorem ciX9_minutes : gCi yX9_minutes := ⟨wd328, wd329⟩
theorem wd330 : Cond.code ⟨"CopiedFire$House", "passMinute", "()V"⟩ prog_2_method_11_code 1 (Option.none : Option Jvm.ClassFile.FieldType) ∈ TB := TBm (tk2 (List.mem_of_getElem? (i := 237) (by decide +kernel))) rfl
theorem cwX0_passMinute : gCw yX0_passMinute cX0_passMinute 1 none 0 := ⟨wd330, wd192, by decide +kernel⟩
theorem wd331 : Cond.instanceMethod ⟨"CopiedFire$House", "passMinute", "()V"⟩ ∈ TB := TBm (tk2 (List.mem_of_getElem? (i := 235) (by decide +kernel))) rfl
theorem wd332 : Cond.selects "CopiedFire$House" ⟨"CopiedFire$House", "passMinute", "()V"⟩ ⟨"CopiedFire$House", "passMinute", "()V"⟩ ∈ TB := TBm (tk2 (List.mem_of_getElem? (i := 236) (by decide +kernel))) rfl
theorem ciX0_passMinute : gCi yX0_passMinute := ⟨wd331, wd332⟩
theorem wd333 : Cond.code ⟨"CopiedFire$House", "burnThings", "()V"⟩ prog_2_method_12_code 4 (Option.none : Option Jvm.ClassFile.FieldType) ∈ TB := TBm (tk3 (List.mem_of_getElem? (i := 1) (by decide +kernel))) rfl
theorem cwX0_burnThings : gCw yX0_burnThings cX0_burnThings 4 none 0 := ⟨wd333, wd192, by decide +kernel⟩
theorem wd334 : Cond.instanceMethod ⟨"CopiedFire$House", "burnThings", "()V"⟩ ∈ TB := TBm (tk3 (List.mem_of_getElem? (i := 0) (by decide +kernel))) rfl
theorem wd335 : Cond.selects "CopiedFire$House" ⟨"CopiedFire$House", "burnThings", "()V"⟩ ⟨"CopiedFire$House", "burnThings", "()V"⟩ ∈ TB := TBm (List.mem_of_getElem? (i := 7) (by decide +kernel)) rfl
theorem ciX0_burnThings : gCi yX0_burnThings := ⟨wd334, wd335⟩
theorem wd336 : Cond.code ⟨"CopiedFire$House", "spreadHeat", "()V"⟩ prog_2_method_13_code 4 (Option.none : Option Jvm.ClassFile.FieldType) ∈ TB := TBm (tk3 (List.mem_of_getElem? (i := 8) (by decide +kernel))) rfl
theorem cwX0_spreadHeat : gCw yX0_spreadHeat cX0_spreadHeat 4 none 0 := ⟨wd336, wd192, by decide +kernel⟩
theorem wd337 : Cond.instanceMethod ⟨"CopiedFire$House", "spreadHeat", "()V"⟩ ∈ TB := TBm (tk3 (List.mem_of_getElem? (i := 7) (by decide +kernel))) rfl
theorem wd338 : Cond.selects "CopiedFire$House" ⟨"CopiedFire$House", "spreadHeat", "()V"⟩ ⟨"CopiedFire$House", "spreadHeat", "()V"⟩ ∈ TB := TBm (List.mem_of_getElem? (i := 8) (by decide +kernel)) rfl
theorem ciX0_spreadHeat : gCi yX0_spreadHeat := ⟨wd337, wd338⟩
theorem wd339 : Cond.code ⟨"CopiedFire$House", "coolRooms", "()V"⟩ prog_2_method_14_code 2 (Option.none : Option Jvm.ClassFile.FieldType) ∈ TB := TBm (tk3 (List.mem_of_getElem? (i := 12) (by decide +kernel))) rfl
theorem cwX0_coolRooms : gCw yX0_coolRooms cX0_coolRooms 2 none 0 := ⟨wd339, wd192, by decide +kernel⟩
theorem wd340 : Cond.instanceMethod ⟨"CopiedFire$House", "coolRooms", "()V"⟩ ∈ TB := TBm (tk3 (List.mem_of_getElem? (i := 11) (by decide +kernel))) rfl
theorem wd341 : Cond.selects "CopiedFire$House" ⟨"CopiedFire$House", "coolRooms", "()V"⟩ ⟨"CopiedFire$House", "coolRooms", "()V"⟩ ∈ TB := TBm (List.mem_of_getElem? (i := 9) (by decide +kernel)) rfl
theorem ciX0_coolRooms : gCi yX0_coolRooms := ⟨wd340, wd341⟩
theorem wd342 : Cond.code ⟨"CopiedFire$House", "lightThings", "()V"⟩ prog_2_method_15_code 2 (Option.none : Option Jvm.ClassFile.FieldType) ∈ TB := TBm (tk3 (List.mem_of_getElem? (i := 17) (by decide +kernel))) rfl
theorem cwX0_lightThings : gCw yX0_lightThings cX0_lightThings 2 none 0 := ⟨wd342, wd192, by decide +kernel⟩
theorem wd343 : Cond.instanceMethod ⟨"CopiedFire$House", "lightThings", "()V"⟩ ∈ TB := TBm (tk3 (List.mem_of_getElem? (i := 16) (by decide +kernel))) rfl
theorem wd344 : Cond.selects "CopiedFire$House" ⟨"CopiedFire$House", "lightThings", "()V"⟩ ⟨"CopiedFire$House", "lightThings", "()V"⟩ ∈ TB := TBm (List.mem_of_getElem? (i := 10) (by decide +kernel)) rfl
theorem ciX0_lightThings : gCi yX0_lightThings := ⟨wd343, wd344⟩
theorem wd345 : Cond.code ⟨"CopiedFire$House", "blowWind", "()V"⟩ prog_2_method_16_code 4 (Option.none : Option Jvm.ClassFile.FieldType) ∈ TB := TBm (tk3 (List.mem_of_getElem? (i := 22) (by decide +kernel))) rfl
theorem cwX0_blowWind : gCw yX0_blowWind cX0_blowWind 4 none 0 := ⟨wd345, wd192, by decide +kernel⟩
theorem wd346 : Cond.instanceMethod ⟨"CopiedFire$House", "blowWind", "()V"⟩ ∈ TB := TBm (tk3 (List.mem_of_getElem? (i := 21) (by decide +kernel))) rfl
theorem wd347 : Cond.selects "CopiedFire$House" ⟨"CopiedFire$House", "blowWind", "()V"⟩ ⟨"CopiedFire$House", "blowWind", "()V"⟩ ∈ TB := TBm (List.mem_of_getElem? (i := 11) (by decide +kernel)) rfl
theorem ciX0_blowWind : gCi yX0_blowWind := ⟨wd346, wd347⟩
theorem wd348 : Cond.code ⟨"CopiedFire", "house", "(I)I"⟩ prog_1_method_19_code 2 (Option.some Jvm.ClassFile.FieldType.int) ∈ TB := TBm (tk3 (List.mem_of_getElem? (i := 27) (by decide +kernel))) rfl
theorem cwX9_house : gCw yX9_house cX9_house 2 (some .int) 1 := ⟨wd348, wd188, by decide +kernel⟩
theorem wd349 : Cond.instanceMethod ⟨"CopiedFire", "house", "(I)I"⟩ ∈ TB := TBm (tk3 (List.mem_of_getElem? (i := 25) (by decide +kernel))) rfl
theorem wd350 : Cond.selects "CopiedFire" ⟨"CopiedFire", "house", "(I)I"⟩ ⟨"CopiedFire", "house", "(I)I"⟩ ∈ TB := TBm (tk3 (List.mem_of_getElem? (i := 26) (by decide +kernel))) rfl
theorem ciX9_house : gCi yX9_house := ⟨wd349, wd350⟩
theorem wd351 : Cond.code ⟨"CopiedFire$House", "litSet", "()I"⟩ prog_2_method_8_code 3 (Option.some Jvm.ClassFile.FieldType.int) ∈ TB := TBm (tk3 (List.mem_of_getElem? (i := 31) (by decide +kernel))) rfl
theorem cwX0_litSet : gCw yX0_litSet cX0_litSet 3 (some .int) 0 := ⟨wd351, wd192, by decide +kernel⟩
theorem wd352 : Cond.instanceMethod ⟨"CopiedFire$House", "litSet", "()I"⟩ ∈ TB := TBm (tk3 (List.mem_of_getElem? (i := 29) (by decide +kernel))) rfl
theorem wd353 : Cond.selects "CopiedFire$House" ⟨"CopiedFire$House", "litSet", "()I"⟩ ⟨"CopiedFire$House", "litSet", "()I"⟩ ∈ TB := TBm (tk3 (List.mem_of_getElem? (i := 30) (by decide +kernel))) rfl
theorem ciX0_litSet : gCi yX0_litSet := ⟨wd352, wd353⟩
theorem wd354 : Cond.code ⟨"CopiedFire$House", "heatTogether", "()I"⟩ prog_2_method_9_code 3 (Option.some Jvm.ClassFile.FieldType.int) ∈ TB := TBm (tk3 (List.mem_of_getElem? (i := 35) (by decide +kernel))) rfl
theorem cwX0_heatTogether : gCw yX0_heatTogether cX0_heatTogether 3 (some .int) 0 := ⟨wd354, wd192, by decide +kernel⟩
theorem wd355 : Cond.instanceMethod ⟨"CopiedFire$House", "heatTogether", "()I"⟩ ∈ TB := TBm (tk3 (List.mem_of_getElem? (i := 33) (by decide +kernel))) rfl
theorem wd356 : Cond.selects "CopiedFire$House" ⟨"CopiedFire$House", "heatTogether", "()I"⟩ ⟨"CopiedFire$House", "heatTogether", "()I"⟩ ∈ TB := TBm (tk3 (List.mem_of_getElem? (i := 34) (by decide +kernel))) rfl
theorem ciX0_heatTogether : gCi yX0_heatTogether := ⟨wd355, wd356⟩
theorem wd357 : Cond.code ⟨"CopiedFire", "behind", "(II)I"⟩ prog_1_method_20_code 3 (Option.some Jvm.ClassFile.FieldType.int) ∈ TB := TBm (tk3 (List.mem_of_getElem? (i := 39) (by decide +kernel))) rfl
theorem cwX9_behind : gCw yX9_behind cX9_behind 3 (some .int) 2 := ⟨wd357, wd188, by decide +kernel⟩
theorem wd358 : Cond.instanceMethod ⟨"CopiedFire", "behind", "(II)I"⟩ ∈ TB := TBm (tk3 (List.mem_of_getElem? (i := 37) (by decide +kernel))) rfl
theorem wd359 : Cond.selects "CopiedFire" ⟨"CopiedFire", "behind", "(II)I"⟩ ⟨"CopiedFire", "behind", "(II)I"⟩ ∈ TB := TBm (tk3 (List.mem_of_getElem? (i := 38) (by decide +kernel))) rfl
theorem ciX9_behind : gCi yX9_behind := ⟨wd358, wd359⟩
theorem wd360 : Cond.code ⟨"CopiedFire$House", "becomeAs", "(LCopiedFire$House;)V"⟩ prog_2_method_2_code 2 (Option.none : Option Jvm.ClassFile.FieldType) ∈ TB := TBm (tk3 (List.mem_of_getElem? (i := 43) (by decide +kernel))) rfl
theorem cwX0_becomeAs : gCw yX0_becomeAs cX0_becomeAs 2 none 1 := ⟨wd360, wd192, by decide +kernel⟩
theorem wd361 : Cond.instanceMethod ⟨"CopiedFire$House", "becomeAs", "(LCopiedFire$House;)V"⟩ ∈ TB := TBm (tk3 (List.mem_of_getElem? (i := 41) (by decide +kernel))) rfl
theorem wd362 : Cond.selects "CopiedFire$House" ⟨"CopiedFire$House", "becomeAs", "(LCopiedFire$House;)V"⟩ ⟨"CopiedFire$House", "becomeAs", "(LCopiedFire$House;)V"⟩ ∈ TB := TBm (tk3 (List.mem_of_getElem? (i := 42) (by decide +kernel))) rfl
theorem ciX0_becomeAs : gCi yX0_becomeAs := ⟨wd361, wd362⟩
theorem wd363 : Cond.code ⟨"CopiedFire", "thinkOn", "(II)I"⟩ prog_1_method_59_code 4 (Option.some Jvm.ClassFile.FieldType.int) ∈ TB := TBm (tk3 (List.mem_of_getElem? (i := 51) (by decide +kernel))) rfl
theorem cwX9_thinkOn : gCw yX9_thinkOn cX9_thinkOn 4 (some .int) 2 := ⟨wd363, wd188, by decide +kernel⟩
theorem wd364 : Cond.instanceMethod ⟨"CopiedFire", "thinkOn", "(II)I"⟩ ∈ TB := TBm (tk3 (List.mem_of_getElem? (i := 50) (by decide +kernel))) rfl
theorem wd365 : Cond.selects "CopiedFire" ⟨"CopiedFire", "thinkOn", "(II)I"⟩ ⟨"CopiedFire", "thinkOn", "(II)I"⟩ ∈ TB := TBm (List.mem_of_getElem? (i := 12) (by decide +kernel)) rfl
theorem ciX9_thinkOn : gCi yX9_thinkOn := ⟨wd364, wd365⟩
theorem wd366 : Cond.code ⟨"CopiedFire", "out", "()I"⟩ prog_1_method_21_code 2 (Option.some Jvm.ClassFile.FieldType.int) ∈ TB := TBm (tk3 (List.mem_of_getElem? (i := 55) (by decide +kernel))) rfl
theorem cwX9_out : gCw yX9_out cX9_out 2 (some .int) 0 := ⟨wd366, wd188, by decide +kernel⟩
theorem wd367 : Cond.instanceMethod ⟨"CopiedFire", "out", "()I"⟩ ∈ TB := TBm (tk3 (List.mem_of_getElem? (i := 53) (by decide +kernel))) rfl
theorem wd368 : Cond.selects "CopiedFire" ⟨"CopiedFire", "out", "()I"⟩ ⟨"CopiedFire", "out", "()I"⟩ ∈ TB := TBm (tk3 (List.mem_of_getElem? (i := 54) (by decide +kernel))) rfl
theorem ciX9_out : gCi yX9_out := ⟨wd367, wd368⟩
theorem wd369 : Cond.code ⟨"CopiedFire", "hot", "(I)I"⟩ prog_1_method_22_code 3 (Option.some Jvm.ClassFile.FieldType.int) ∈ TB := TBm (tk3 (List.mem_of_getElem? (i := 59) (by decide +kernel))) rfl
theorem cwX9_hot : gCw yX9_hot cX9_hot 3 (some .int) 1 := ⟨wd369, wd188, by decide +kernel⟩
theorem wd370 : Cond.instanceMethod ⟨"CopiedFire", "hot", "(I)I"⟩ ∈ TB := TBm (tk3 (List.mem_of_getElem? (i := 57) (by decide +kernel))) rfl
theorem wd371 : Cond.selects "CopiedFire" ⟨"CopiedFire", "hot", "(I)I"⟩ ⟨"CopiedFire", "hot", "(I)I"⟩ ∈ TB := TBm (tk3 (List.mem_of_getElem? (i := 58) (by decide +kernel))) rfl
theorem ciX9_hot : gCi yX9_hot := ⟨wd370, wd371⟩
theorem wd372 : Cond.code ⟨"CopiedFire", "shut", "(II)I"⟩ prog_1_method_23_code 9 (Option.some Jvm.ClassFile.FieldType.int) ∈ TB := TBm (tk3 (List.mem_of_getElem? (i := 63) (by decide +kernel))) rfl
theorem cwX9_shut : gCw yX9_shut cX9_shut 9 (some .int) 2 := ⟨wd372, wd188, by decide +kernel⟩
theorem wd373 : Cond.instanceMethod ⟨"CopiedFire", "shut", "(II)I"⟩ ∈ TB := TBm (tk3 (List.mem_of_getElem? (i := 61) (by decide +kernel))) rfl
theorem wd374 : Cond.selects "CopiedFire" ⟨"CopiedFire", "shut", "(II)I"⟩ ⟨"CopiedFire", "shut", "(II)I"⟩ ∈ TB := TBm (tk3 (List.mem_of_getElem? (i := 62) (by decide +kernel))) rfl
theorem ciX9_shut : gCi yX9_shut := ⟨wd373, wd374⟩
theorem wd375 : Cond.code ⟨"CopiedFire", "hired", "(II)I"⟩ prog_1_method_24_code 7 (Option.some Jvm.ClassFile.FieldType.int) ∈ TB := TBm (tk3 (List.mem_of_getElem? (i := 67) (by decide +kernel))) rfl
theorem cwX9_hired : gCw yX9_hired cX9_hired 7 (some .int) 2 := ⟨wd375, wd188, by decide +kernel⟩
theorem wd376 : Cond.instanceMethod ⟨"CopiedFire", "hired", "(II)I"⟩ ∈ TB := TBm (tk3 (List.mem_of_getElem? (i := 65) (by decide +kernel))) rfl
theorem wd377 : Cond.selects "CopiedFire" ⟨"CopiedFire", "hired", "(II)I"⟩ ⟨"CopiedFire", "hired", "(II)I"⟩ ∈ TB := TBm (tk3 (List.mem_of_getElem? (i := 66) (by decide +kernel))) rfl
theorem ciX9_hired : gCi yX9_hired := ⟨wd376, wd377⟩
theorem wd378 : Cond.code ⟨"CopiedFire", "becomes", "(III)I"⟩ prog_1_method_25_code 8 (Option.some Jvm.ClassFile.FieldType.int) ∈ TB := TBm (tk3 (List.mem_of_getElem? (i := 71) (by decide +kernel))) rfl
theorem cwX9_becomes : gCw yX9_becomes cX9_becomes 8 (some .int) 3 := ⟨wd378, wd188, by decide +kernel⟩
theorem wd379 : Cond.instanceMethod ⟨"CopiedFire", "becomes", "(III)I"⟩ ∈ TB := TBm (tk3 (List.mem_of_getElem? (i := 69) (by decide +kernel))) rfl
theorem wd380 : Cond.selects "CopiedFire" ⟨"CopiedFire", "becomes", "(III)I"⟩ ⟨"CopiedFire", "becomes", "(III)I"⟩ ∈ TB := TBm (tk3 (List.mem_of_getElem? (i := 70) (by decide +kernel))) rfl
theorem ciX9_becomes : gCi yX9_becomes := ⟨wd379, wd380⟩
theorem wd381 : Cond.code ⟨"CopiedFire", "began", "(I)I"⟩ prog_1_method_26_code 4 (Option.some Jvm.ClassFile.FieldType.int) ∈ TB := TBm (tk3 (List.mem_of_getElem? (i := 75) (by decide +kernel))) rfl
theorem cwX9_began : gCw yX9_began cX9_began 4 (some .int) 1 := ⟨wd381, wd188, by decide +kernel⟩
theorem wd382 : Cond.instanceMethod ⟨"CopiedFire", "began", "(I)I"⟩ ∈ TB := TBm (tk3 (List.mem_of_getElem? (i := 73) (by decide +kernel))) rfl
theorem wd383 : Cond.selects "CopiedFire" ⟨"CopiedFire", "began", "(I)I"⟩ ⟨"CopiedFire", "began", "(I)I"⟩ ∈ TB := TBm (tk3 (List.mem_of_getElem? (i := 74) (by decide +kernel))) rfl
theorem ciX9_began : gCi yX9_began := ⟨wd382, wd383⟩
theorem wd384 : Cond.code ⟨"CopiedFire", "isSheet", "(I)Z"⟩ prog_1_method_56_code 1 (Option.some Jvm.ClassFile.FieldType.boolean) ∈ TB := TBm (tk3 (List.mem_of_getElem? (i := 78) (by decide +kernel))) rfl
theorem cwX9_isSheet : gCw yX9_isSheet cX9_isSheet 1 (some .boolean) 1 := ⟨wd384, wd188, by decide +kernel⟩
theorem wd385 : Cond.static ⟨"CopiedFire", "isSheet", "(I)Z"⟩ ∈ TB := TBm (tk3 (List.mem_of_getElem? (i := 77) (by decide +kernel))) rfl
theorem csX9_isSheet : gCs yX9_isSheet := wd385
theorem wd386 : Cond.code ⟨"CopiedFire$Sheet", "isMissing", "()Z"⟩ prog_7_method_4_code 1 (Option.some Jvm.ClassFile.FieldType.boolean) ∈ TB := TBm (tk3 (List.mem_of_getElem? (i := 82) (by decide +kernel))) rfl
theorem cwX5_isMissing : gCw yX5_isMissing cX5_isMissing 1 (some .boolean) 0 := ⟨wd386, wd203, by decide +kernel⟩
theorem wd387 : Cond.instanceMethod ⟨"CopiedFire$Sheet", "isMissing", "()Z"⟩ ∈ TB := TBm (tk3 (List.mem_of_getElem? (i := 80) (by decide +kernel))) rfl
theorem wd388 : Cond.selects "CopiedFire$Sheet" ⟨"CopiedFire$Sheet", "isMissing", "()Z"⟩ ⟨"CopiedFire$Sheet", "isMissing", "()Z"⟩ ∈ TB := TBm (tk3 (List.mem_of_getElem? (i := 81) (by decide +kernel))) rfl
theorem ciX5_isMissing : gCi yX5_isMissing := ⟨wd387, wd388⟩
theorem wd389 : Cond.code ⟨"CopiedFire", "canHaveBegunBy", "(ILCopiedFire$Sheet;)Z"⟩ prog_1_method_60_code 4 (Option.some Jvm.ClassFile.FieldType.boolean) ∈ TB := TBm (tk3 (List.mem_of_getElem? (i := 87) (by decide +kernel))) rfl
theorem cwX9_canHaveBegunBy : gCw yX9_canHaveBegunBy cX9_canHaveBegunBy 4 (some .boolean) 2 := ⟨wd389, wd188, by decide +kernel⟩
theorem wd390 : Cond.instanceMethod ⟨"CopiedFire", "canHaveBegunBy", "(ILCopiedFire$Sheet;)Z"⟩ ∈ TB := TBm (tk3 (List.mem_of_getElem? (i := 86) (by decide +kernel))) rfl
theorem wd391 : Cond.selects "CopiedFire" ⟨"CopiedFire", "canHaveBegunBy", "(ILCopiedFire$Sheet;)Z"⟩ ⟨"CopiedFire", "canHaveBegunBy", "(ILCopiedFire$Sheet;)Z"⟩ ∈ TB := TBm (List.mem_of_getElem? (i := 13) (by decide +kernel)) rfl
theorem ciX9_canHaveBegunBy : gCi yX9_canHaveBegunBy := ⟨wd390, wd391⟩
theorem wd392 : Cond.code ⟨"CopiedFire$Sheet", "hasNumber", "(I)Z"⟩ prog_7_method_6_code 2 (Option.some Jvm.ClassFile.FieldType.boolean) ∈ TB := TBm (tk3 (List.mem_of_getElem? (i := 92) (by decide +kernel))) rfl
theorem cwX5_hasNumber : gCw yX5_hasNumber cX5_hasNumber 2 (some .boolean) 1 := ⟨wd392, wd203, by decide +kernel⟩
theorem wd393 : Cond.instanceMethod ⟨"CopiedFire$Sheet", "hasNumber", "(I)Z"⟩ ∈ TB := TBm (tk3 (List.mem_of_getElem? (i := 90) (by decide +kernel))) rfl
theorem wd394 : Cond.selects "CopiedFire$Sheet" ⟨"CopiedFire$Sheet", "hasNumber", "(I)Z"⟩ ⟨"CopiedFire$Sheet", "hasNumber", "(I)Z"⟩ ∈ TB := TBm (tk3 (List.mem_of_getElem? (i := 91) (by decide +kernel))) rfl
theorem ciX5_hasNumber : gCi yX5_hasNumber := ⟨wd393, wd394⟩
theorem wd395 : Cond.code ⟨"CopiedFire$Sheet", "hasPlace", "(I)Z"⟩ prog_7_method_5_code 2 (Option.some Jvm.ClassFile.FieldType.boolean) ∈ TB := TBm (tk3 (List.mem_of_getElem? (i := 96) (by decide +kernel))) rfl
theorem cwX5_hasPlace : gCw yX5_hasPlace cX5_hasPlace 2 (some .boolean) 1 := ⟨wd395, wd203, by decide +kernel⟩
theorem wd396 : Cond.instanceMethod ⟨"CopiedFire$Sheet", "hasPlace", "(I)Z"⟩ ∈ TB := TBm (tk3 (List.mem_of_getElem? (i := 94) (by decide +kernel))) rfl
theorem wd397 : Cond.selects "CopiedFire$Sheet" ⟨"CopiedFire$Sheet", "hasPlace", "(I)Z"⟩ ⟨"CopiedFire$Sheet", "hasPlace", "(I)Z"⟩ ∈ TB := TBm (tk3 (List.mem_of_getElem? (i := 95) (by decide +kernel))) rfl
theorem ciX5_hasPlace : gCi yX5_hasPlace := ⟨wd396, wd397⟩
theorem wd398 : Cond.code ⟨"CopiedFire", "like", "(II)I"⟩ prog_1_method_27_code 5 (Option.some Jvm.ClassFile.FieldType.int) ∈ TB := TBm (tk3 (List.mem_of_getElem? (i := 103) (by decide +kernel))) rfl
theorem cwX9_like : gCw yX9_like cX9_like 5 (some .int) 2 := ⟨wd398, wd188, by decide +kernel⟩
theorem wd399 : Cond.instanceMethod ⟨"CopiedFire", "like", "(II)I"⟩ ∈ TB := TBm (tk3 (List.mem_of_getElem? (i := 101) (by decide +kernel))) rfl
theorem wd400 : Cond.selects "CopiedFire" ⟨"CopiedFire", "like", "(II)I"⟩ ⟨"CopiedFire", "like", "(II)I"⟩ ∈ TB := TBm (tk3 (List.mem_of_getElem? (i := 102) (by decide +kernel))) rfl
theorem ciX9_like : gCi yX9_like := ⟨wd399, wd400⟩
theorem wd401 : Cond.code ⟨"CopiedFire", "sumDifferences", "(LCopiedFire$Sheet;)V"⟩ prog_1_method_61_code 4 (Option.none : Option Jvm.ClassFile.FieldType) ∈ TB := TBm (tk3 (List.mem_of_getElem? (i := 107) (by decide +kernel))) rfl
theorem cwX9_sumDifferences : gCw yX9_sumDifferences cX9_sumDifferences 4 none 1 := ⟨wd401, wd188, by decide +kernel⟩
theorem wd402 : Cond.instanceMethod ⟨"CopiedFire", "sumDifferences", "(LCopiedFire$Sheet;)V"⟩ ∈ TB := TBm (tk3 (List.mem_of_getElem? (i := 106) (by decide +kernel))) rfl
theorem wd403 : Cond.selects "CopiedFire" ⟨"CopiedFire", "sumDifferences", "(LCopiedFire$Sheet;)V"⟩ ⟨"CopiedFire", "sumDifferences", "(LCopiedFire$Sheet;)V"⟩ ∈ TB := TBm (List.mem_of_getElem? (i := 14) (by decide +kernel)) rfl
theorem ciX9_sumDifferences : gCi yX9_sumDifferences := ⟨wd402, wd403⟩
theorem wd404 : Cond.code ⟨"CopiedFire", "fee", "()I"⟩ prog_1_method_28_code 2 (Option.some Jvm.ClassFile.FieldType.int) ∈ TB := TBm (tk3 (List.mem_of_getElem? (i := 114) (by decide +kernel))) rfl
theorem cwX9_fee : gCw yX9_fee cX9_fee 2 (some .int) 0 := ⟨wd404, wd188, by decide +kernel⟩
theorem wd405 : Cond.instanceMethod ⟨"CopiedFire", "fee", "()I"⟩ ∈ TB := TBm (tk3 (List.mem_of_getElem? (i := 112) (by decide +kernel))) rfl
theorem wd406 : Cond.selects "CopiedFire" ⟨"CopiedFire", "fee", "()I"⟩ ⟨"CopiedFire", "fee", "()I"⟩ ∈ TB := TBm (tk3 (List.mem_of_getElem? (i := 113) (by decide +kernel))) rfl
theorem ciX9_fee : gCi yX9_fee := ⟨wd405, wd406⟩
theorem wd407 : Cond.code ⟨"CopiedFire", "fine", "(I)I"⟩ prog_1_method_29_code 3 (Option.some Jvm.ClassFile.FieldType.int) ∈ TB := TBm (tk3 (List.mem_of_getElem? (i := 119) (by decide +kernel))) rfl
theorem cwX9_fine : gCw yX9_fine cX9_fine 3 (some .int) 1 := ⟨wd407, wd188, by decide +kernel⟩
theorem wd408 : Cond.instanceMethod ⟨"CopiedFire", "fine", "(I)I"⟩ ∈ TB := TBm (tk3 (List.mem_of_getElem? (i := 117) (by decide +kernel))) rfl
theorem wd409 : Cond.selects "CopiedFire" ⟨"CopiedFire", "fine", "(I)I"⟩ ⟨"CopiedFire", "fine", "(I)I"⟩ ∈ TB := TBm (tk3 (List.mem_of_getElem? (i := 118) (by decide +kernel))) rfl
theorem ciX9_fine : gCi yX9_fine := ⟨wd408, wd409⟩
theorem wd410 : Cond.code ⟨"CopiedFire", "feed", "(III)I"⟩ prog_1_method_30_code 4 (Option.some Jvm.ClassFile.FieldType.int) ∈ TB := TBm (tk3 (List.mem_of_getElem? (i := 123) (by decide +kernel))) rfl
theorem cwX9_feed : gCw yX9_feed cX9_feed 4 (some .int) 3 := ⟨wd410, wd188, by decide +kernel⟩
theorem wd411 : Cond.instanceMethod ⟨"CopiedFire", "feed", "(III)I"⟩ ∈ TB := TBm (tk3 (List.mem_of_getElem? (i := 121) (by decide +kernel))) rfl
theorem wd412 : Cond.selects "CopiedFire" ⟨"CopiedFire", "feed", "(III)I"⟩ ⟨"CopiedFire", "feed", "(III)I"⟩ ∈ TB := TBm (tk3 (List.mem_of_getElem? (i := 122) (by decide +kernel))) rfl
theorem ciX9_feed : gCi yX9_feed := ⟨wd411, wd412⟩
theorem wd413 : Cond.code ⟨"CopiedFire$Tape", "addFour", "(I)V"⟩ prog_9_method_2_code 3 (Option.none : Option Jvm.ClassFile.FieldType) ∈ TB := TBm (tk3 (List.mem_of_getElem? (i := 127) (by decide +kernel))) rfl
theorem cwX7_addFour : gCw yX7_addFour cX7_addFour 3 none 1 := ⟨wd413, wd199, by decide +kernel⟩
theorem wd414 : Cond.instanceMethod ⟨"CopiedFire$Tape", "addFour", "(I)V"⟩ ∈ TB := TBm (tk3 (List.mem_of_getElem? (i := 125) (by decide +kernel))) rfl
theorem wd415 : Cond.selects "CopiedFire$Tape" ⟨"CopiedFire$Tape", "addFour", "(I)V"⟩ ⟨"CopiedFire$Tape", "addFour", "(I)V"⟩ ∈ TB := TBm (tk3 (List.mem_of_getElem? (i := 126) (by decide +kernel))) rfl
theorem ciX7_addFour : gCi yX7_addFour := ⟨wd414, wd415⟩
theorem wd416 : Cond.code ⟨"CopiedFire", "trim", "(I)I"⟩ prog_1_method_31_code 2 (Option.some Jvm.ClassFile.FieldType.int) ∈ TB := TBm (tk3 (List.mem_of_getElem? (i := 131) (by decide +kernel))) rfl
theorem cwX9_trim : gCw yX9_trim cX9_trim 2 (some .int) 1 := ⟨wd416, wd188, by decide +kernel⟩
theorem wd417 : Cond.instanceMethod ⟨"CopiedFire", "trim", "(I)I"⟩ ∈ TB := TBm (tk3 (List.mem_of_getElem? (i := 129) (by decide +kernel))) rfl
theorem wd418 : Cond.selects "CopiedFire" ⟨"CopiedFire", "trim", "(I)I"⟩ ⟨"CopiedFire", "trim", "(I)I"⟩ ∈ TB := TBm (tk3 (List.mem_of_getElem? (i := 130) (by decide +kernel))) rfl
theorem ciX9_trim : gCi yX9_trim := ⟨wd417, wd418⟩
theorem wd419 : Cond.code ⟨"CopiedFire", "text", "()I"⟩ prog_1_method_32_code 1 (Option.some Jvm.ClassFile.FieldType.int) ∈ TB := TBm (tk3 (List.mem_of_getElem? (i := 135) (by decide +kernel))) rfl
theorem cwX9_text : gCw yX9_text cX9_text 1 (some .int) 0 := ⟨wd419, wd188, by decide +kernel⟩
theorem wd420 : Cond.instanceMethod ⟨"CopiedFire", "text", "()I"⟩ ∈ TB := TBm (tk3 (List.mem_of_getElem? (i := 133) (by decide +kernel))) rfl
theorem wd421 : Cond.selects "CopiedFire" ⟨"CopiedFire", "text", "()I"⟩ ⟨"CopiedFire", "text", "()I"⟩ ∈ TB := TBm (tk3 (List.mem_of_getElem? (i := 134) (by decide +kernel))) rfl
theorem ciX9_text : gCi yX9_text := ⟨wd420, wd421⟩
theorem wd422 : Cond.code ⟨"CopiedFire$Reader", "readText", "()V"⟩ prog_5_method_2_code 1 (Option.none : Option Jvm.ClassFile.FieldType) ∈ TB := TBm (tk3 (List.mem_of_getElem? (i := 139) (by decide +kernel))) rfl
theorem cwX3_readText : gCw yX3_readText cX3_readText 1 none 0 := ⟨wd422, wd201, by decide +kernel⟩
theorem wd423 : Cond.instanceMethod ⟨"CopiedFire$Reader", "readText", "()V"⟩ ∈ TB := TBm (tk3 (List.mem_of_getElem? (i := 137) (by decide +kernel))) rfl
theorem wd424 : Cond.selects "CopiedFire$Reader" ⟨"CopiedFire$Reader", "readText", "()V"⟩ ⟨"CopiedFire$Reader", "readText", "()V"⟩ ∈ TB := TBm (tk3 (List.mem_of_getElem? (i := 138) (by decide +kernel))) rfl
theorem ciX3_readText : gCi yX3_readText := ⟨wd423, wd424⟩
theorem wd425 : Cond.code ⟨"CopiedFire$Reader", "goOn", "()V"⟩ prog_5_method_5_code 5 (Option.none : Option Jvm.ClassFile.FieldType) ∈ TB := TBm (tk3 (List.mem_of_getElem? (i := 143) (by decide +kernel))) rfl
theorem cwX3_goOn : gCw yX3_goOn cX3_goOn 5 none 0 := ⟨wd425, wd201, by decide +kernel⟩
theorem wd426 : Cond.instanceMethod ⟨"CopiedFire$Reader", "goOn", "()V"⟩ ∈ TB := TBm (tk3 (List.mem_of_getElem? (i := 142) (by decide +kernel))) rfl
theorem wd427 : Cond.selects "CopiedFire$Reader" ⟨"CopiedFire$Reader", "goOn", "()V"⟩ ⟨"CopiedFire$Reader", "goOn", "()V"⟩ ∈ TB := TBm (List.mem_of_getElem? (i := 15) (by decide +kernel)) rfl
theorem ciX3_goOn : gCi yX3_goOn := ⟨wd426, wd427⟩
theorem wd428 : Cond.code ⟨"CopiedFire$Reader", "endOfRow", "(III)I"⟩ prog_5_method_6_code 5 (Option.some Jvm.ClassFile.FieldType.int) ∈ TB := TBm (tk3 (List.mem_of_getElem? (i := 147) (by decide +kernel))) rfl
theorem cwX3_endOfRow : gCw yX3_endOfRow cX3_endOfRow 5 (some .int) 3 := ⟨wd428, wd201, by decide +kernel⟩
theorem wd429 : Cond.instanceMethod ⟨"CopiedFire$Reader", "endOfRow", "(III)I"⟩ ∈ TB := TBm (tk3 (List.mem_of_getElem? (i := 146) (by decide +kernel))) rfl
theorem wd430 : Cond.selects "CopiedFire$Reader" ⟨"CopiedFire$Reader", "endOfRow", "(III)I"⟩ ⟨"CopiedFire$Reader", "endOfRow", "(III)I"⟩ ∈ TB := TBm (List.mem_of_getElem? (i := 16) (by decide +kernel)) rfl
theorem ciX3_endOfRow : gCi yX3_endOfRow := ⟨wd429, wd430⟩
theorem wd431 : Cond.code ⟨"CopiedFire$Reader", "keyRead", "()I"⟩ prog_5_method_7_code 1 (Option.some Jvm.ClassFile.FieldType.int) ∈ TB := TBm (tk3 (List.mem_of_getElem? (i := 152) (by decide +kernel))) rfl
theorem cwX3_keyRead : gCw yX3_keyRead cX3_keyRead 1 (some .int) 0 := ⟨wd431, wd201, by decide +kernel⟩
theorem wd432 : Cond.instanceMethod ⟨"CopiedFire$Reader", "keyRead", "()I"⟩ ∈ TB := TBm (tk3 (List.mem_of_getElem? (i := 151) (by decide +kernel))) rfl
theorem wd433 : Cond.selects "CopiedFire$Reader" ⟨"CopiedFire$Reader", "keyRead", "()I"⟩ ⟨"CopiedFire$Reader", "keyRead", "()I"⟩ ∈ TB := TBm (List.mem_of_getElem? (i := 17) (by decide +kernel)) rfl
theorem ciX3_keyRead : gCi yX3_keyRead := ⟨wd432, wd433⟩
theorem wd434 : Cond.code ⟨"CopiedFire$Reader", "isWord", "(Ljava/lang/String;)Z"⟩ prog_5_method_8_code 3 (Option.some Jvm.ClassFile.FieldType.boolean) ∈ TB := TBm (tk3 (List.mem_of_getElem? (i := 157) (by decide +kernel))) rfl
theorem cwX3_isWord : gCw yX3_isWord cX3_isWord 3 (some .boolean) 1 := ⟨wd434, wd201, by decide +kernel⟩
theorem wd435 : Cond.instanceMethod ⟨"CopiedFire$Reader", "isWord", "(Ljava/lang/String;)Z"⟩ ∈ TB := TBm (tk3 (List.mem_of_getElem? (i := 156) (by decide +kernel))) rfl
theorem wd436 : Cond.selects "CopiedFire$Reader" ⟨"CopiedFire$Reader", "isWord", "(Ljava/lang/String;)Z"⟩ ⟨"CopiedFire$Reader", "isWord", "(Ljava/lang/String;)Z"⟩ ∈ TB := TBm (List.mem_of_getElem? (i := 18) (by decide +kernel)) rfl
theorem ciX3_isWord : gCi yX3_isWord := ⟨wd435, wd436⟩
abbrev cJS_length : ByteArray := prog_17_method_54_code
def yJS_length : MethodName := ⟨RJS, "length", "()I"⟩
theorem wd437 : Cond.code ⟨"java/lang/String", "length", "()I"⟩ prog_17_method_54_code 1 (Option.some Jvm.ClassFile.FieldType.int) ∈ TB := TBm (tk3 (List.mem_of_getElem? (i := 161) (by decide +kernel))) rfl
theorem wd438 : Cond.initialized "java/lang/String" ∈ TB := TBm (tk1 (List.mem_of_getElem? (i := 15) (by decide +kernel))) rfl
theorem cwJS_length : gCw yJS_length cJS_length 1 (some .int) 0 := ⟨wd437, wd438, by decide +kernel⟩
theorem wd439 : Cond.instanceMethod ⟨"java/lang/String", "length", "()I"⟩ ∈ TB := TBm (tk3 (List.mem_of_getElem? (i := 159) (by decide +kernel))) rfl
theorem wd440 : Cond.selects "java/lang/String" ⟨"java/lang/String", "length", "()I"⟩ ⟨"java/lang/String", "length", "()I"⟩ ∈ TB := TBm (tk3 (List.mem_of_getElem? (i := 160) (by decide +kernel))) rfl
theorem ciJS_length : gCi yJS_length := ⟨wd439, wd440⟩
abbrev cJS_coder : ByteArray := prog_17_method_152_code
def yJS_coder : MethodName := ⟨RJS, "coder", "()B"⟩
theorem wd441 : Cond.code ⟨"java/lang/String", "coder", "()B"⟩ prog_17_method_152_code 1 (Option.some Jvm.ClassFile.FieldType.byte) ∈ TB := TBm (tk3 (List.mem_of_getElem? (i := 165) (by decide +kernel))) rfl
theorem cwJS_coder : gCw yJS_coder cJS_coder 1 (some .byte) 0 := ⟨wd441, wd438, by decide +kernel⟩
theorem wd442 : Cond.instanceMethod ⟨"java/lang/String", "coder", "()B"⟩ ∈ TB := TBm (tk3 (List.mem_of_getElem? (i := 163) (by decide +kernel))) rfl
theorem wd443 : Cond.selects "java/lang/String" ⟨"java/lang/String", "coder", "()B"⟩ ⟨"java/lang/String", "coder", "()B"⟩ ∈ TB := TBm (tk3 (List.mem_of_getElem? (i := 164) (by decide +kernel))) rfl
theorem ciJS_coder : gCi yJS_coder := ⟨wd442, wd443⟩
abbrev cJS_charAt : ByteArray := prog_17_method_56_code
def yJS_charAt : MethodName := ⟨RJS, "charAt", "(I)C"⟩
theorem wd444 : Cond.code ⟨"java/lang/String", "charAt", "(I)C"⟩ prog_17_method_56_code 2 (Option.some Jvm.ClassFile.FieldType.char) ∈ TB := TBm (tk3 (List.mem_of_getElem? (i := 171) (by decide +kernel))) rfl
theorem cwJS_charAt : gCw yJS_charAt cJS_charAt 2 (some .char) 1 := ⟨wd444, wd438, by decide +kernel⟩
theorem wd445 : Cond.instanceMethod ⟨"java/lang/String", "charAt", "(I)C"⟩ ∈ TB := TBm (tk3 (List.mem_of_getElem? (i := 169) (by decide +kernel))) rfl
theorem wd446 : Cond.selects "java/lang/String" ⟨"java/lang/String", "charAt", "(I)C"⟩ ⟨"java/lang/String", "charAt", "(I)C"⟩ ∈ TB := TBm (tk3 (List.mem_of_getElem? (i := 170) (by decide +kernel))) rfl
theorem ciJS_charAt : gCi yJS_charAt := ⟨wd445, wd446⟩
abbrev cJS_isLatin1 : ByteArray := prog_17_method_154_code
def yJS_isLatin1 : MethodName := ⟨RJS, "isLatin1", "()Z"⟩
theorem wd447 : Cond.code ⟨"java/lang/String", "isLatin1", "()Z"⟩ prog_17_method_154_code 1 (Option.some Jvm.ClassFile.FieldType.boolean) ∈ TB := TBm (tk3 (List.mem_of_getElem? (i := 175) (by decide +kernel))) rfl
theorem cwJS_isLatin1 : gCw yJS_isLatin1 cJS_isLatin1 1 (some .boolean) 0 := ⟨wd447, wd438, by decide +kernel⟩
theorem wd448 : Cond.instanceMethod ⟨"java/lang/String", "isLatin1", "()Z"⟩ ∈ TB := TBm (tk3 (List.mem_of_getElem? (i := 173) (by decide +kernel))) rfl
theorem wd449 : Cond.selects "java/lang/String" ⟨"java/lang/String", "isLatin1", "()Z"⟩ ⟨"java/lang/String", "isLatin1", "()Z"⟩ ∈ TB := TBm (tk3 (List.mem_of_getElem? (i := 174) (by decide +kernel))) rfl
theorem ciJS_isLatin1 : gCi yJS_isLatin1 := ⟨wd448, wd449⟩
abbrev cJL_charAt : ByteArray := prog_18_method_2_code
def yJL_charAt : MethodName := ⟨RJL, "charAt", "([BI)C"⟩
theorem wd450 : Cond.code ⟨"java/lang/StringLatin1", "charAt", "([BI)C"⟩ prog_18_method_2_code 2 (Option.some Jvm.ClassFile.FieldType.char) ∈ TB := TBm (tk3 (List.mem_of_getElem? (i := 178) (by decide +kernel))) rfl
theorem wd451 : Cond.initialized "java/lang/StringLatin1" ∈ TB := TBm (tk1 (List.mem_of_getElem? (i := 16) (by decide +kernel))) rfl
theorem cwJL_charAt : gCw yJL_charAt cJL_charAt 2 (some .char) 2 := ⟨wd450, wd451, by decide +kernel⟩
theorem wd452 : Cond.static ⟨"java/lang/StringLatin1", "charAt", "([BI)C"⟩ ∈ TB := TBm (tk3 (List.mem_of_getElem? (i := 177) (by decide +kernel))) rfl
theorem csJL_charAt : gCs yJL_charAt := wd452
abbrev cJS_checkIndex : ByteArray := prog_17_method_155_code
def yJS_checkIndex : MethodName := ⟨RJS, "checkIndex", "(II)V"⟩
theorem wd453 : Cond.code ⟨"java/lang/String", "checkIndex", "(II)V"⟩ prog_17_method_155_code 2 (Option.none : Option Jvm.ClassFile.FieldType) ∈ TB := TBm (tk3 (List.mem_of_getElem? (i := 181) (by decide +kernel))) rfl
theorem cwJS_checkIndex : gCw yJS_checkIndex cJS_checkIndex 2 none 2 := ⟨wd453, wd438, by decide +kernel⟩
theorem wd454 : Cond.static ⟨"java/lang/String", "checkIndex", "(II)V"⟩ ∈ TB := TBm (tk3 (List.mem_of_getElem? (i := 180) (by decide +kernel))) rfl
theorem csJS_checkIndex : gCs yJS_checkIndex := wd454
abbrev cJP_checkIndex : ByteArray := prog_22_method_11_code
def yJP_checkIndex : MethodName := ⟨RJP, "checkIndex", "(IILjava/util/function/BiFunction;)I"⟩
theorem wd455 : Cond.code ⟨"jdk/internal/util/Preconditions", "checkIndex", "(IILjava/util/function/BiFunction;)I"⟩ prog_22_method_11_code 3 (Option.some Jvm.ClassFile.FieldType.int) ∈ TB := TBm (tk3 (List.mem_of_getElem? (i := 186) (by decide +kernel))) rfl
theorem wd456 : Cond.initialized "jdk/internal/util/Preconditions" ∈ TB := TBm (tk1 (List.mem_of_getElem? (i := 17) (by decide +kernel))) rfl
theorem cwJP_checkIndex : gCw yJP_checkIndex cJP_checkIndex 3 (some .int) 3 := ⟨wd455, wd456, by decide +kernel⟩
theorem wd457 : Cond.static ⟨"jdk/internal/util/Preconditions", "checkIndex", "(IILjava/util/function/BiFunction;)I"⟩ ∈ TB := TBm (tk3 (List.mem_of_getElem? (i := 185) (by decide +kernel))) rfl
theorem csJP_checkIndex : gCs yJP_checkIndex := wd457
theorem wd458 : Cond.code ⟨"CopiedFire$Reader", "stop", "()V"⟩ prog_5_method_4_code 1 (Option.none : Option Jvm.ClassFile.FieldType) ∈ TB := TBm (tk3 (List.mem_of_getElem? (i := 211) (by decide +kernel))) rfl
theorem cwX3_stop : gCw yX3_stop cX3_stop 1 none 0 := ⟨wd458, wd201, by decide +kernel⟩
theorem wd459 : Cond.instanceMethod ⟨"CopiedFire$Reader", "stop", "()V"⟩ ∈ TB := TBm (tk3 (List.mem_of_getElem? (i := 210) (by decide +kernel))) rfl
theorem wd460 : Cond.selects "CopiedFire$Reader" ⟨"CopiedFire$Reader", "stop", "()V"⟩ ⟨"CopiedFire$Reader", "stop", "()V"⟩ ∈ TB := TBm (List.mem_of_getElem? (i := 19) (by decide +kernel)) rfl
theorem ciX3_stop : gCi yX3_stop := ⟨wd459, wd460⟩
theorem wd461 : Cond.code ⟨"CopiedFire$Reader", "readLevel", "(III)V"⟩ prog_5_method_11_code 7 (Option.none : Option Jvm.ClassFile.FieldType) ∈ TB := TBm (tk3 (List.mem_of_getElem? (i := 215) (by decide +kernel))) rfl
theorem cwX3_readLevel : gCw yX3_readLevel cX3_readLevel 7 none 3 := ⟨wd461, wd201, by decide +kernel⟩
theorem wd462 : Cond.instanceMethod ⟨"CopiedFire$Reader", "readLevel", "(III)V"⟩ ∈ TB := TBm (tk3 (List.mem_of_getElem? (i := 214) (by decide +kernel))) rfl
theorem wd463 : Cond.selects "CopiedFire$Reader" ⟨"CopiedFire$Reader", "readLevel", "(III)V"⟩ ⟨"CopiedFire$Reader", "readLevel", "(III)V"⟩ ∈ TB := TBm (List.mem_of_getElem? (i := 20) (by decide +kernel)) rfl
theorem ciX3_readLevel : gCi yX3_readLevel := ⟨wd462, wd463⟩
theorem wd464 : Cond.code ⟨"CopiedFire$Reader", "readPiece", "(II)V"⟩ prog_5_method_13_code 4 (Option.none : Option Jvm.ClassFile.FieldType) ∈ TB := TBm (tk3 (List.mem_of_getElem? (i := 219) (by decide +kernel))) rfl
theorem cwX3_readPiece : gCw yX3_readPiece cX3_readPiece 4 none 2 := ⟨wd464, wd201, by decide +kernel⟩
theorem wd465 : Cond.instanceMethod ⟨"CopiedFire$Reader", "readPiece", "(II)V"⟩ ∈ TB := TBm (tk3 (List.mem_of_getElem? (i := 218) (by decide +kernel))) rfl
theorem wd466 : Cond.selects "CopiedFire$Reader" ⟨"CopiedFire$Reader", "readPiece", "(II)V"⟩ ⟨"CopiedFire$Reader", "readPiece", "(II)V"⟩ ∈ TB := TBm (List.mem_of_getElem? (i := 21) (by decide +kernel)) rfl
theorem ciX3_readPiece : gCi yX3_readPiece := ⟨wd465, wd466⟩
theorem wd467 : Cond.code ⟨"CopiedFire$Reader", "nameRead", "()I"⟩ prog_5_method_9_code 2 (Option.some Jvm.ClassFile.FieldType.int) ∈ TB := TBm (tk3 (List.mem_of_getElem? (i := 223) (by decide +kernel))) rfl
theorem cwX3_nameRead : gCw yX3_nameRead cX3_nameRead 2 (some .int) 0 := ⟨wd467, wd201, by decide +kernel⟩
theorem wd468 : Cond.instanceMethod ⟨"CopiedFire$Reader", "nameRead", "()I"⟩ ∈ TB := TBm (tk3 (List.mem_of_getElem? (i := 222) (by decide +kernel))) rfl
theorem wd469 : Cond.selects "CopiedFire$Reader" ⟨"CopiedFire$Reader", "nameRead", "()I"⟩ ⟨"CopiedFire$Reader", "nameRead", "()I"⟩ ∈ TB := TBm (List.mem_of_getElem? (i := 22) (by decide +kernel)) rfl
theorem ciX3_nameRead : gCi yX3_nameRead := ⟨wd468, wd469⟩
abbrev cJS_indexOf : ByteArray := prog_17_method_79_code
def yJS_indexOf : MethodName := ⟨RJS, "indexOf", "(I)I"⟩
theorem wd470 : Cond.code ⟨"java/lang/String", "indexOf", "(I)I"⟩ prog_17_method_79_code 2 (Option.some Jvm.ClassFile.FieldType.int) ∈ TB := TBm (tk3 (List.mem_of_getElem? (i := 230) (by decide +kernel))) rfl
theorem cwJS_indexOf : gCw yJS_indexOf cJS_indexOf 2 (some .int) 1 := ⟨wd470, wd438, by decide +kernel⟩
theorem wd471 : Cond.instanceMethod ⟨"java/lang/String", "indexOf", "(I)I"⟩ ∈ TB := TBm (tk3 (List.mem_of_getElem? (i := 228) (by decide +kernel))) rfl
theorem wd472 : Cond.selects "java/lang/String" ⟨"java/lang/String", "indexOf", "(I)I"⟩ ⟨"java/lang/String", "indexOf", "(I)I"⟩ ∈ TB := TBm (tk3 (List.mem_of_getElem? (i := 229) (by decide +kernel))) rfl
theorem ciJS_indexOf : gCi yJS_indexOf := ⟨wd471, wd472⟩
abbrev cJS_indexOf2 : ByteArray := prog_17_method_80_code
def yJS_indexOf2 : MethodName := ⟨RJS, "indexOf", "(II)I"⟩
theorem wd473 : Cond.code ⟨"java/lang/String", "indexOf", "(II)I"⟩ prog_17_method_80_code 3 (Option.some Jvm.ClassFile.FieldType.int) ∈ TB := TBm (tk3 (List.mem_of_getElem? (i := 234) (by decide +kernel))) rfl
theorem cwJS_indexOf2 : gCw yJS_indexOf2 cJS_indexOf2 3 (some .int) 2 := ⟨wd473, wd438, by decide +kernel⟩
theorem wd474 : Cond.instanceMethod ⟨"java/lang/String", "indexOf", "(II)I"⟩ ∈ TB := TBm (tk3 (List.mem_of_getElem? (i := 232) (by decide +kernel))) rfl
theorem wd475 : Cond.selects "java/lang/String" ⟨"java/lang/String", "indexOf", "(II)I"⟩ ⟨"java/lang/String", "indexOf", "(II)I"⟩ ∈ TB := TBm (tk3 (List.mem_of_getElem? (i := 233) (by decide +kernel))) rfl
theorem ciJS_indexOf2 : gCi yJS_indexOf2 := ⟨wd474, wd475⟩
abbrev cJL_indexOf : ByteArray := prog_18_method_22_code
def yJL_indexOf : MethodName := ⟨RJL, "indexOf", "([BIII)I"⟩
theorem wd476 : Cond.code ⟨"java/lang/StringLatin1", "indexOf", "([BIII)I"⟩ prog_18_method_22_code 4 (Option.some Jvm.ClassFile.FieldType.int) ∈ TB := TBm (tk3 (List.mem_of_getElem? (i := 238) (by decide +kernel))) rfl
theorem cwJL_indexOf : gCw yJL_indexOf cJL_indexOf 4 (some .int) 4 := ⟨wd476, wd451, by decide +kernel⟩
theorem wd477 : Cond.static ⟨"java/lang/StringLatin1", "indexOf", "([BIII)I"⟩ ∈ TB := TBm (tk3 (List.mem_of_getElem? (i := 237) (by decide +kernel))) rfl
theorem csJL_indexOf : gCs yJL_indexOf := wd477
abbrev cJL_canEncode : ByteArray := prog_18_method_4_code
def yJL_canEncode : MethodName := ⟨RJL, "canEncode", "(I)Z"⟩
theorem wd478 : Cond.code ⟨"java/lang/StringLatin1", "canEncode", "(I)Z"⟩ prog_18_method_4_code 1 (Option.some Jvm.ClassFile.FieldType.boolean) ∈ TB := TBm (tk4 (List.mem_of_getElem? (i := 1) (by decide +kernel))) rfl
theorem cwJL_canEncode : gCw yJL_canEncode cJL_canEncode 1 (some .boolean) 1 := ⟨wd478, wd451, by decide +kernel⟩
theorem wd479 : Cond.static ⟨"java/lang/StringLatin1", "canEncode", "(I)Z"⟩ ∈ TB := TBm (tk4 (List.mem_of_getElem? (i := 0) (by decide +kernel))) rfl
theorem csJL_canEncode : gCs yJL_canEncode := wd479
abbrev cJL_indexOfChar : ByteArray := prog_18_method_23_code
def yJL_indexOfChar : MethodName := ⟨RJL, "indexOfChar", "([BIII)I"⟩
theorem wd480 : Cond.code ⟨"java/lang/StringLatin1", "indexOfChar", "([BIII)I"⟩ prog_18_method_23_code 6 (Option.some Jvm.ClassFile.FieldType.int) ∈ TB := TBm (tk4 (List.mem_of_getElem? (i := 6) (by decide +kernel))) rfl
theorem cwJL_indexOfChar : gCw yJL_indexOfChar cJL_indexOfChar 6 (some .int) 4 := ⟨wd480, wd451, by decide +kernel⟩
theorem wd481 : Cond.static ⟨"java/lang/StringLatin1", "indexOfChar", "([BIII)I"⟩ ∈ TB := TBm (tk4 (List.mem_of_getElem? (i := 5) (by decide +kernel))) rfl
theorem csJL_indexOfChar : gCs yJL_indexOfChar := wd481
theorem wd482 : Cond.code ⟨"CopiedFire$Reader", "addOperand", "(I)V"⟩ prog_5_method_14_code 2 (Option.none : Option Jvm.ClassFile.FieldType) ∈ TB := TBm (tk4 (List.mem_of_getElem? (i := 45) (by decide +kernel))) rfl
theorem cwX3_addOperand : gCw yX3_addOperand cX3_addOperand 2 none 1 := ⟨wd482, wd201, by decide +kernel⟩
theorem wd483 : Cond.instanceMethod ⟨"CopiedFire$Reader", "addOperand", "(I)V"⟩ ∈ TB := TBm (tk4 (List.mem_of_getElem? (i := 44) (by decide +kernel))) rfl
theorem wd484 : Cond.selects "CopiedFire$Reader" ⟨"CopiedFire$Reader", "addOperand", "(I)V"⟩ ⟨"CopiedFire$Reader", "addOperand", "(I)V"⟩ ∈ TB := TBm (List.mem_of_getElem? (i := 23) (by decide +kernel)) rfl
theorem ciX3_addOperand : gCi yX3_addOperand := ⟨wd483, wd484⟩
theorem wd485 : Cond.code ⟨"CopiedFire$Reader", "addStep", "(I)V"⟩ prog_5_method_15_code 2 (Option.none : Option Jvm.ClassFile.FieldType) ∈ TB := TBm (tk4 (List.mem_of_getElem? (i := 49) (by decide +kernel))) rfl
theorem cwX3_addStep : gCw yX3_addStep cX3_addStep 2 none 1 := ⟨wd485, wd201, by decide +kernel⟩
theorem wd486 : Cond.instanceMethod ⟨"CopiedFire$Reader", "addStep", "(I)V"⟩ ∈ TB := TBm (tk4 (List.mem_of_getElem? (i := 48) (by decide +kernel))) rfl
theorem wd487 : Cond.selects "CopiedFire$Reader" ⟨"CopiedFire$Reader", "addStep", "(I)V"⟩ ⟨"CopiedFire$Reader", "addStep", "(I)V"⟩ ∈ TB := TBm (List.mem_of_getElem? (i := 24) (by decide +kernel)) rfl
theorem ciX3_addStep : gCi yX3_addStep := ⟨wd486, wd487⟩
theorem wd488 : Cond.code ⟨"CopiedFire$Reader", "numberRead", "()I"⟩ prog_5_method_10_code 3 (Option.some Jvm.ClassFile.FieldType.int) ∈ TB := TBm (tk4 (List.mem_of_getElem? (i := 53) (by decide +kernel))) rfl
theorem cwX3_numberRead : gCw yX3_numberRead cX3_numberRead 3 (some .int) 0 := ⟨wd488, wd201, by decide +kernel⟩
theorem wd489 : Cond.instanceMethod ⟨"CopiedFire$Reader", "numberRead", "()I"⟩ ∈ TB := TBm (tk4 (List.mem_of_getElem? (i := 52) (by decide +kernel))) rfl
theorem wd490 : Cond.selects "CopiedFire$Reader" ⟨"CopiedFire$Reader", "numberRead", "()I"⟩ ⟨"CopiedFire$Reader", "numberRead", "()I"⟩ ∈ TB := TBm (List.mem_of_getElem? (i := 25) (by decide +kernel)) rfl
theorem ciX3_numberRead : gCi yX3_numberRead := ⟨wd489, wd490⟩
theorem wd491 : Cond.code ⟨"CopiedFire$Reader", "isSignOf", "(I)Z"⟩ prog_5_method_12_code 2 (Option.some Jvm.ClassFile.FieldType.boolean) ∈ TB := TBm (tk4 (List.mem_of_getElem? (i := 57) (by decide +kernel))) rfl
theorem cwX3_isSignOf : gCw yX3_isSignOf cX3_isSignOf 2 (some .boolean) 1 := ⟨wd491, wd201, by decide +kernel⟩
theorem wd492 : Cond.instanceMethod ⟨"CopiedFire$Reader", "isSignOf", "(I)Z"⟩ ∈ TB := TBm (tk4 (List.mem_of_getElem? (i := 56) (by decide +kernel))) rfl
theorem wd493 : Cond.selects "CopiedFire$Reader" ⟨"CopiedFire$Reader", "isSignOf", "(I)Z"⟩ ⟨"CopiedFire$Reader", "isSignOf", "(I)Z"⟩ ∈ TB := TBm (List.mem_of_getElem? (i := 26) (by decide +kernel)) rfl
theorem ciX3_isSignOf : gCi yX3_isSignOf := ⟨wd492, wd493⟩
abbrev cJA_copyOf : ByteArray := prog_21_method_123_code
def yJA_copyOf : MethodName := ⟨RJA, "copyOf", "([II)[I"⟩
theorem wd494 : Cond.code ⟨"CopiedFire$Text", "<init>", "(II[I)V"⟩ prog_10_method_1_code 4 (Option.none : Option Jvm.ClassFile.FieldType) ∈ TB := TBm (tk4 (List.mem_of_getElem? (i := 78) (by decide +kernel))) rfl
theorem wd495 : Cond.initialized "CopiedFire$Text" ∈ TB := TBm (tk1 (List.mem_of_getElem? (i := 20) (by decide +kernel))) rfl
theorem cwX8_init : gCw yX8_init cX8_init 4 none 3 := ⟨wd494, wd495, by decide +kernel⟩
theorem wd496 : Cond.code ⟨"CopiedFire$Laws", "put", "(ILCopiedFire$Text;)V"⟩ prog_4_method_3_code 3 (Option.none : Option Jvm.ClassFile.FieldType) ∈ TB := TBm (tk4 (List.mem_of_getElem? (i := 97) (by decide +kernel))) rfl
theorem cwX2_put : gCw yX2_put cX2_put 3 none 2 := ⟨wd496, wd190, by decide +kernel⟩
theorem wd497 : Cond.instanceMethod ⟨"CopiedFire$Laws", "put", "(ILCopiedFire$Text;)V"⟩ ∈ TB := TBm (tk4 (List.mem_of_getElem? (i := 95) (by decide +kernel))) rfl
theorem wd498 : Cond.selects "CopiedFire$Laws" ⟨"CopiedFire$Laws", "put", "(ILCopiedFire$Text;)V"⟩ ⟨"CopiedFire$Laws", "put", "(ILCopiedFire$Text;)V"⟩ ∈ TB := TBm (tk4 (List.mem_of_getElem? (i := 96) (by decide +kernel))) rfl
theorem ciX2_put : gCi yX2_put := ⟨wd497, wd498⟩
theorem wd499 : Cond.code ⟨"CopiedFire", "textTold", "(II)I"⟩ prog_1_method_33_code 3 (Option.some Jvm.ClassFile.FieldType.int) ∈ TB := TBm (tk4 (List.mem_of_getElem? (i := 101) (by decide +kernel))) rfl
theorem cwX9_textTold : gCw yX9_textTold cX9_textTold 3 (some .int) 2 := ⟨wd499, wd188, by decide +kernel⟩
theorem wd500 : Cond.instanceMethod ⟨"CopiedFire", "textTold", "(II)I"⟩ ∈ TB := TBm (tk4 (List.mem_of_getElem? (i := 99) (by decide +kernel))) rfl
theorem wd501 : Cond.selects "CopiedFire" ⟨"CopiedFire", "textTold", "(II)I"⟩ ⟨"CopiedFire", "textTold", "(II)I"⟩ ∈ TB := TBm (tk4 (List.mem_of_getElem? (i := 100) (by decide +kernel))) rfl
theorem ciX9_textTold : gCi yX9_textTold := ⟨wd500, wd501⟩
theorem wd502 : Cond.code ⟨"CopiedFire$Laws", "keyOf", "(I)I"⟩ prog_4_method_4_code 2 (Option.some Jvm.ClassFile.FieldType.int) ∈ TB := TBm (tk4 (List.mem_of_getElem? (i := 105) (by decide +kernel))) rfl
theorem cwX2_keyOf : gCw yX2_keyOf cX2_keyOf 2 (some .int) 1 := ⟨wd502, wd190, by decide +kernel⟩
theorem wd503 : Cond.instanceMethod ⟨"CopiedFire$Laws", "keyOf", "(I)I"⟩ ∈ TB := TBm (tk4 (List.mem_of_getElem? (i := 103) (by decide +kernel))) rfl
theorem wd504 : Cond.selects "CopiedFire$Laws" ⟨"CopiedFire$Laws", "keyOf", "(I)I"⟩ ⟨"CopiedFire$Laws", "keyOf", "(I)I"⟩ ∈ TB := TBm (tk4 (List.mem_of_getElem? (i := 104) (by decide +kernel))) rfl
theorem ciX2_keyOf : gCi yX2_keyOf := ⟨wd503, wd504⟩
theorem wd505 : Cond.code ⟨"CopiedFire$Laws", "operandsOf", "(I)I"⟩ prog_4_method_5_code 2 (Option.some Jvm.ClassFile.FieldType.int) ∈ TB := TBm (tk4 (List.mem_of_getElem? (i := 110) (by decide +kernel))) rfl
theorem cwX2_operandsOf : gCw yX2_operandsOf cX2_operandsOf 2 (some .int) 1 := ⟨wd505, wd190, by decide +kernel⟩
theorem wd506 : Cond.instanceMethod ⟨"CopiedFire$Laws", "operandsOf", "(I)I"⟩ ∈ TB := TBm (tk4 (List.mem_of_getElem? (i := 108) (by decide +kernel))) rfl
theorem wd507 : Cond.selects "CopiedFire$Laws" ⟨"CopiedFire$Laws", "operandsOf", "(I)I"⟩ ⟨"CopiedFire$Laws", "operandsOf", "(I)I"⟩ ∈ TB := TBm (tk4 (List.mem_of_getElem? (i := 109) (by decide +kernel))) rfl
theorem ciX2_operandsOf : gCi yX2_operandsOf := ⟨wd506, wd507⟩
theorem wd508 : Cond.code ⟨"CopiedFire", "why", "(I)I"⟩ prog_1_method_34_code 2 (Option.some Jvm.ClassFile.FieldType.int) ∈ TB := TBm (tk4 (List.mem_of_getElem? (i := 114) (by decide +kernel))) rfl
theorem cwX9_why : gCw yX9_why cX9_why 2 (some .int) 1 := ⟨wd508, wd188, by decide +kernel⟩
theorem wd509 : Cond.instanceMethod ⟨"CopiedFire", "why", "(I)I"⟩ ∈ TB := TBm (tk4 (List.mem_of_getElem? (i := 112) (by decide +kernel))) rfl
theorem wd510 : Cond.selects "CopiedFire" ⟨"CopiedFire", "why", "(I)I"⟩ ⟨"CopiedFire", "why", "(I)I"⟩ ∈ TB := TBm (tk4 (List.mem_of_getElem? (i := 113) (by decide +kernel))) rfl
theorem ciX9_why : gCi yX9_why := ⟨wd509, wd510⟩
theorem wd511 : Cond.code ⟨"CopiedFire", "sheet", "(III)I"⟩ prog_1_method_35_code 4 (Option.some Jvm.ClassFile.FieldType.int) ∈ TB := TBm (tk4 (List.mem_of_getElem? (i := 118) (by decide +kernel))) rfl
theorem cwX9_sheet : gCw yX9_sheet cX9_sheet 4 (some .int) 3 := ⟨wd511, wd188, by decide +kernel⟩
theorem wd512 : Cond.instanceMethod ⟨"CopiedFire", "sheet", "(III)I"⟩ ∈ TB := TBm (tk4 (List.mem_of_getElem? (i := 116) (by decide +kernel))) rfl
theorem wd513 : Cond.selects "CopiedFire" ⟨"CopiedFire", "sheet", "(III)I"⟩ ⟨"CopiedFire", "sheet", "(III)I"⟩ ∈ TB := TBm (tk4 (List.mem_of_getElem? (i := 117) (by decide +kernel))) rfl
theorem ciX9_sheet : gCi yX9_sheet := ⟨wd512, wd513⟩
theorem wd514 : Cond.code ⟨"CopiedFire$Sheet", "renew", "(II)V"⟩ prog_7_method_2_code 3 (Option.none : Option Jvm.ClassFile.FieldType) ∈ TB := TBm (tk4 (List.mem_of_getElem? (i := 122) (by decide +kernel))) rfl
theorem cwX5_renew : gCw yX5_renew cX5_renew 3 none 2 := ⟨wd514, wd203, by decide +kernel⟩
theorem wd515 : Cond.instanceMethod ⟨"CopiedFire$Sheet", "renew", "(II)V"⟩ ∈ TB := TBm (tk4 (List.mem_of_getElem? (i := 120) (by decide +kernel))) rfl
theorem wd516 : Cond.selects "CopiedFire$Sheet" ⟨"CopiedFire$Sheet", "renew", "(II)V"⟩ ⟨"CopiedFire$Sheet", "renew", "(II)V"⟩ ∈ TB := TBm (tk4 (List.mem_of_getElem? (i := 121) (by decide +kernel))) rfl
theorem ciX5_renew : gCi yX5_renew := ⟨wd515, wd516⟩
theorem wd517 : Cond.code ⟨"CopiedFire", "mark", "(III)I"⟩ prog_1_method_36_code 5 (Option.some Jvm.ClassFile.FieldType.int) ∈ TB := TBm (tk4 (List.mem_of_getElem? (i := 128) (by decide +kernel))) rfl
theorem cwX9_mark : gCw yX9_mark cX9_mark 5 (some .int) 3 := ⟨wd517, wd188, by decide +kernel⟩
theorem wd518 : Cond.instanceMethod ⟨"CopiedFire", "mark", "(III)I"⟩ ∈ TB := TBm (tk4 (List.mem_of_getElem? (i := 126) (by decide +kernel))) rfl
theorem wd519 : Cond.selects "CopiedFire" ⟨"CopiedFire", "mark", "(III)I"⟩ ⟨"CopiedFire", "mark", "(III)I"⟩ ∈ TB := TBm (tk4 (List.mem_of_getElem? (i := 127) (by decide +kernel))) rfl
theorem ciX9_mark : gCi yX9_mark := ⟨wd518, wd519⟩
theorem wd520 : Cond.code ⟨"CopiedFire", "pour", "(I)I"⟩ prog_1_method_37_code 6 (Option.some Jvm.ClassFile.FieldType.int) ∈ TB := TBm (tk4 (List.mem_of_getElem? (i := 136) (by decide +kernel))) rfl
theorem cwX9_pour : gCw yX9_pour cX9_pour 6 (some .int) 1 := ⟨wd520, wd188, by decide +kernel⟩
theorem wd521 : Cond.instanceMethod ⟨"CopiedFire", "pour", "(I)I"⟩ ∈ TB := TBm (tk4 (List.mem_of_getElem? (i := 134) (by decide +kernel))) rfl
theorem wd522 : Cond.selects "CopiedFire" ⟨"CopiedFire", "pour", "(I)I"⟩ ⟨"CopiedFire", "pour", "(I)I"⟩ ∈ TB := TBm (tk4 (List.mem_of_getElem? (i := 135) (by decide +kernel))) rfl
theorem ciX9_pour : gCi yX9_pour := ⟨wd521, wd522⟩
theorem wd523 : Cond.code ⟨"CopiedFire", "reads", "(I)I"⟩ prog_1_method_38_code 4 (Option.some Jvm.ClassFile.FieldType.int) ∈ TB := TBm (tk4 (List.mem_of_getElem? (i := 141) (by decide +kernel))) rfl
theorem cwX9_reads : gCw yX9_reads cX9_reads 4 (some .int) 1 := ⟨wd523, wd188, by decide +kernel⟩
theorem wd524 : Cond.instanceMethod ⟨"CopiedFire", "reads", "(I)I"⟩ ∈ TB := TBm (tk4 (List.mem_of_getElem? (i := 139) (by decide +kernel))) rfl
theorem wd525 : Cond.selects "CopiedFire" ⟨"CopiedFire", "reads", "(I)I"⟩ ⟨"CopiedFire", "reads", "(I)I"⟩ ∈ TB := TBm (tk4 (List.mem_of_getElem? (i := 140) (by decide +kernel))) rfl
theorem ciX9_reads : gCi yX9_reads := ⟨wd524, wd525⟩
theorem wd526 : Cond.code ⟨"CopiedFire", "copy", "(IIIII)I"⟩ prog_1_method_39_code 8 (Option.some Jvm.ClassFile.FieldType.int) ∈ TB := TBm (tk4 (List.mem_of_getElem? (i := 145) (by decide +kernel))) rfl
theorem cwX9_copy : gCw yX9_copy cX9_copy 8 (some .int) 5 := ⟨wd526, wd188, by decide +kernel⟩
theorem wd527 : Cond.instanceMethod ⟨"CopiedFire", "copy", "(IIIII)I"⟩ ∈ TB := TBm (tk4 (List.mem_of_getElem? (i := 143) (by decide +kernel))) rfl
theorem wd528 : Cond.selects "CopiedFire" ⟨"CopiedFire", "copy", "(IIIII)I"⟩ ⟨"CopiedFire", "copy", "(IIIII)I"⟩ ∈ TB := TBm (tk4 (List.mem_of_getElem? (i := 144) (by decide +kernel))) rfl
theorem ciX9_copy : gCi yX9_copy := ⟨wd527, wd528⟩
theorem wd529 : Cond.code ⟨"CopiedFire$Sheet", "hasRow", "(II)Z"⟩ prog_7_method_7_code 3 (Option.some Jvm.ClassFile.FieldType.boolean) ∈ TB := TBm (tk4 (List.mem_of_getElem? (i := 149) (by decide +kernel))) rfl
theorem cwX5_hasRow : gCw yX5_hasRow cX5_hasRow 3 (some .boolean) 2 := ⟨wd529, wd203, by decide +kernel⟩
theorem wd530 : Cond.instanceMethod ⟨"CopiedFire$Sheet", "hasRow", "(II)Z"⟩ ∈ TB := TBm (tk4 (List.mem_of_getElem? (i := 147) (by decide +kernel))) rfl
theorem wd531 : Cond.selects "CopiedFire$Sheet" ⟨"CopiedFire$Sheet", "hasRow", "(II)Z"⟩ ⟨"CopiedFire$Sheet", "hasRow", "(II)Z"⟩ ∈ TB := TBm (tk4 (List.mem_of_getElem? (i := 148) (by decide +kernel))) rfl
theorem ciX5_hasRow : gCi yX5_hasRow := ⟨wd530, wd531⟩
theorem wd532 : Cond.code ⟨"CopiedFire", "lay", "(III)I"⟩ prog_1_method_40_code 6 (Option.some Jvm.ClassFile.FieldType.int) ∈ TB := TBm (tk4 (List.mem_of_getElem? (i := 154) (by decide +kernel))) rfl
theorem cwX9_lay : gCw yX9_lay cX9_lay 6 (some .int) 3 := ⟨wd532, wd188, by decide +kernel⟩
theorem wd533 : Cond.instanceMethod ⟨"CopiedFire", "lay", "(III)I"⟩ ∈ TB := TBm (tk4 (List.mem_of_getElem? (i := 152) (by decide +kernel))) rfl
theorem wd534 : Cond.selects "CopiedFire" ⟨"CopiedFire", "lay", "(III)I"⟩ ⟨"CopiedFire", "lay", "(III)I"⟩ ∈ TB := TBm (tk4 (List.mem_of_getElem? (i := 153) (by decide +kernel))) rfl
theorem ciX9_lay : gCi yX9_lay := ⟨wd533, wd534⟩
theorem wd535 : Cond.code ⟨"CopiedFire", "isSlot", "(I)Z"⟩ prog_1_method_57_code 1 (Option.some Jvm.ClassFile.FieldType.boolean) ∈ TB := TBm (tk4 (List.mem_of_getElem? (i := 157) (by decide +kernel))) rfl
theorem cwX9_isSlot : gCw yX9_isSlot cX9_isSlot 1 (some .boolean) 1 := ⟨wd535, wd188, by decide +kernel⟩
theorem wd536 : Cond.static ⟨"CopiedFire", "isSlot", "(I)Z"⟩ ∈ TB := TBm (tk4 (List.mem_of_getElem? (i := 156) (by decide +kernel))) rfl
theorem csX9_isSlot : gCs yX9_isSlot := wd536
theorem wd537 : Cond.code ⟨"CopiedFire$Sheet", "becomeAs", "(LCopiedFire$Sheet;)V"⟩ prog_7_method_3_code 2 (Option.none : Option Jvm.ClassFile.FieldType) ∈ TB := TBm (tk4 (List.mem_of_getElem? (i := 161) (by decide +kernel))) rfl
theorem cwX5_becomeAs : gCw yX5_becomeAs cX5_becomeAs 2 none 1 := ⟨wd537, wd203, by decide +kernel⟩
theorem wd538 : Cond.instanceMethod ⟨"CopiedFire$Sheet", "becomeAs", "(LCopiedFire$Sheet;)V"⟩ ∈ TB := TBm (tk4 (List.mem_of_getElem? (i := 159) (by decide +kernel))) rfl
theorem wd539 : Cond.selects "CopiedFire$Sheet" ⟨"CopiedFire$Sheet", "becomeAs", "(LCopiedFire$Sheet;)V"⟩ ⟨"CopiedFire$Sheet", "becomeAs", "(LCopiedFire$Sheet;)V"⟩ ∈ TB := TBm (tk4 (List.mem_of_getElem? (i := 160) (by decide +kernel))) rfl
theorem ciX5_becomeAs : gCi yX5_becomeAs := ⟨wd538, wd539⟩
theorem wd540 : Cond.code ⟨"CopiedFire", "ask", "(II)I"⟩ prog_1_method_41_code 5 (Option.some Jvm.ClassFile.FieldType.int) ∈ TB := TBm (tk4 (List.mem_of_getElem? (i := 166) (by decide +kernel))) rfl
theorem cwX9_ask : gCw yX9_ask cX9_ask 5 (some .int) 2 := ⟨wd540, wd188, by decide +kernel⟩
theorem wd541 : Cond.instanceMethod ⟨"CopiedFire", "ask", "(II)I"⟩ ∈ TB := TBm (tk4 (List.mem_of_getElem? (i := 164) (by decide +kernel))) rfl
theorem wd542 : Cond.selects "CopiedFire" ⟨"CopiedFire", "ask", "(II)I"⟩ ⟨"CopiedFire", "ask", "(II)I"⟩ ∈ TB := TBm (tk4 (List.mem_of_getElem? (i := 165) (by decide +kernel))) rfl
theorem ciX9_ask : gCi yX9_ask := ⟨wd541, wd542⟩
theorem wd543 : Cond.code ⟨"CopiedFire", "findingFor", "(II)I"⟩ prog_1_method_62_code 4 (Option.some Jvm.ClassFile.FieldType.int) ∈ TB := TBm (tk4 (List.mem_of_getElem? (i := 170) (by decide +kernel))) rfl
theorem cwX9_findingFor : gCw yX9_findingFor cX9_findingFor 4 (some .int) 2 := ⟨wd543, wd188, by decide +kernel⟩
theorem wd544 : Cond.instanceMethod ⟨"CopiedFire", "findingFor", "(II)I"⟩ ∈ TB := TBm (tk4 (List.mem_of_getElem? (i := 169) (by decide +kernel))) rfl
theorem wd545 : Cond.selects "CopiedFire" ⟨"CopiedFire", "findingFor", "(II)I"⟩ ⟨"CopiedFire", "findingFor", "(II)I"⟩ ∈ TB := TBm (List.mem_of_getElem? (i := 27) (by decide +kernel)) rfl
theorem ciX9_findingFor : gCi yX9_findingFor := ⟨wd544, wd545⟩
theorem wd546 : Cond.code ⟨"CopiedFire", "item", "(II)I"⟩ prog_1_method_42_code 5 (Option.some Jvm.ClassFile.FieldType.int) ∈ TB := TBm (tk4 (List.mem_of_getElem? (i := 174) (by decide +kernel))) rfl
theorem cwX9_item : gCw yX9_item cX9_item 5 (some .int) 2 := ⟨wd546, wd188, by decide +kernel⟩
theorem wd547 : Cond.instanceMethod ⟨"CopiedFire", "item", "(II)I"⟩ ∈ TB := TBm (tk4 (List.mem_of_getElem? (i := 172) (by decide +kernel))) rfl
theorem wd548 : Cond.selects "CopiedFire" ⟨"CopiedFire", "item", "(II)I"⟩ ⟨"CopiedFire", "item", "(II)I"⟩ ∈ TB := TBm (tk4 (List.mem_of_getElem? (i := 173) (by decide +kernel))) rfl
theorem ciX9_item : gCi yX9_item := ⟨wd547, wd548⟩
theorem wd549 : Cond.code ⟨"CopiedFire", "rest", "(II)I"⟩ prog_1_method_43_code 4 (Option.some Jvm.ClassFile.FieldType.int) ∈ TB := TBm (tk4 (List.mem_of_getElem? (i := 178) (by decide +kernel))) rfl
theorem cwX9_rest : gCw yX9_rest cX9_rest 4 (some .int) 2 := ⟨wd549, wd188, by decide +kernel⟩
theorem wd550 : Cond.instanceMethod ⟨"CopiedFire", "rest", "(II)I"⟩ ∈ TB := TBm (tk4 (List.mem_of_getElem? (i := 176) (by decide +kernel))) rfl
theorem wd551 : Cond.selects "CopiedFire" ⟨"CopiedFire", "rest", "(II)I"⟩ ⟨"CopiedFire", "rest", "(II)I"⟩ ∈ TB := TBm (tk4 (List.mem_of_getElem? (i := 177) (by decide +kernel))) rfl
theorem ciX9_rest : gCi yX9_rest := ⟨wd550, wd551⟩
theorem wd552 : Cond.code ⟨"CopiedFire", "tell", "(I)I"⟩ prog_1_method_44_code 2 (Option.some Jvm.ClassFile.FieldType.int) ∈ TB := TBm (tk4 (List.mem_of_getElem? (i := 183) (by decide +kernel))) rfl
theorem cwX9_tell : gCw yX9_tell cX9_tell 2 (some .int) 1 := ⟨wd552, wd188, by decide +kernel⟩
theorem wd553 : Cond.instanceMethod ⟨"CopiedFire", "tell", "(I)I"⟩ ∈ TB := TBm (tk4 (List.mem_of_getElem? (i := 181) (by decide +kernel))) rfl
theorem wd554 : Cond.selects "CopiedFire" ⟨"CopiedFire", "tell", "(I)I"⟩ ⟨"CopiedFire", "tell", "(I)I"⟩ ∈ TB := TBm (tk4 (List.mem_of_getElem? (i := 182) (by decide +kernel))) rfl
theorem ciX9_tell : gCi yX9_tell := ⟨wd553, wd554⟩
theorem wd555 : Cond.code ⟨"CopiedFire", "check", "(I)I"⟩ prog_1_method_45_code 5 (Option.some Jvm.ClassFile.FieldType.int) ∈ TB := TBm (tk4 (List.mem_of_getElem? (i := 187) (by decide +kernel))) rfl
theorem cwX9_check : gCw yX9_check cX9_check 5 (some .int) 1 := ⟨wd555, wd188, by decide +kernel⟩
theorem wd556 : Cond.instanceMethod ⟨"CopiedFire", "check", "(I)I"⟩ ∈ TB := TBm (tk4 (List.mem_of_getElem? (i := 185) (by decide +kernel))) rfl
theorem wd557 : Cond.selects "CopiedFire" ⟨"CopiedFire", "check", "(I)I"⟩ ⟨"CopiedFire", "check", "(I)I"⟩ ∈ TB := TBm (tk4 (List.mem_of_getElem? (i := 186) (by decide +kernel))) rfl
theorem ciX9_check : gCi yX9_check := ⟨wd556, wd557⟩
theorem wd558 : Cond.code ⟨"CopiedFire", "keep", "()I"⟩ prog_1_method_46_code 1 (Option.some Jvm.ClassFile.FieldType.int) ∈ TB := TBm (tk4 (List.mem_of_getElem? (i := 191) (by decide +kernel))) rfl
theorem cwX9_keep : gCw yX9_keep cX9_keep 1 (some .int) 0 := ⟨wd558, wd188, by decide +kernel⟩
theorem wd559 : Cond.instanceMethod ⟨"CopiedFire", "keep", "()I"⟩ ∈ TB := TBm (tk4 (List.mem_of_getElem? (i := 189) (by decide +kernel))) rfl
theorem wd560 : Cond.selects "CopiedFire" ⟨"CopiedFire", "keep", "()I"⟩ ⟨"CopiedFire", "keep", "()I"⟩ ∈ TB := TBm (tk4 (List.mem_of_getElem? (i := 190) (by decide +kernel))) rfl
theorem ciX9_keep : gCi yX9_keep := ⟨wd559, wd560⟩
theorem wd561 : Cond.code ⟨"CopiedFire", "back", "()I"⟩ prog_1_method_47_code 1 (Option.some Jvm.ClassFile.FieldType.int) ∈ TB := TBm (tk4 (List.mem_of_getElem? (i := 195) (by decide +kernel))) rfl
theorem cwX9_back : gCw yX9_back cX9_back 1 (some .int) 0 := ⟨wd561, wd188, by decide +kernel⟩
theorem wd562 : Cond.instanceMethod ⟨"CopiedFire", "back", "()I"⟩ ∈ TB := TBm (tk4 (List.mem_of_getElem? (i := 193) (by decide +kernel))) rfl
theorem wd563 : Cond.selects "CopiedFire" ⟨"CopiedFire", "back", "()I"⟩ ⟨"CopiedFire", "back", "()I"⟩ ∈ TB := TBm (tk4 (List.mem_of_getElem? (i := 194) (by decide +kernel))) rfl
theorem ciX9_back : gCi yX9_back := ⟨wd562, wd563⟩
theorem wd564 : Cond.code ⟨"CopiedFire", "count", "(I)I"⟩ prog_1_method_48_code 2 (Option.some Jvm.ClassFile.FieldType.int) ∈ TB := TBm (tk4 (List.mem_of_getElem? (i := 199) (by decide +kernel))) rfl
theorem cwX9_count : gCw yX9_count cX9_count 2 (some .int) 1 := ⟨wd564, wd188, by decide +kernel⟩
theorem wd565 : Cond.instanceMethod ⟨"CopiedFire", "count", "(I)I"⟩ ∈ TB := TBm (tk4 (List.mem_of_getElem? (i := 197) (by decide +kernel))) rfl
theorem wd566 : Cond.selects "CopiedFire" ⟨"CopiedFire", "count", "(I)I"⟩ ⟨"CopiedFire", "count", "(I)I"⟩ ∈ TB := TBm (tk4 (List.mem_of_getElem? (i := 198) (by decide +kernel))) rfl
theorem ciX9_count : gCi yX9_count := ⟨wd565, wd566⟩
theorem wd567 : Cond.code ⟨"CopiedFireModel", "<init>", "()V"⟩ prog_12_method_1_code 1 (Option.none : Option Jvm.ClassFile.FieldType) ∈ TB := TBm (tk4 (List.mem_of_getElem? (i := 204) (by decide +kernel))) rfl
theorem wd568 : Cond.initialized "CopiedFireModel" ∈ TB := TBm (tk1 (List.mem_of_getElem? (i := 10) (by decide +kernel))) rfl
theorem cwX10_init : gCw yX10_init cX10_init 1 none 0 := ⟨wd567, wd568, by decide +kernel⟩
theorem wd569 : Cond.code ⟨"CopiedFireModel", "thing", "(IIII)I"⟩ prog_12_method_16_code 5 (Option.some Jvm.ClassFile.FieldType.int) ∈ TB := TBm (tk5 (List.mem_of_getElem? (i := 83) (by decide +kernel))) rfl
theorem cwX10_thing : gCw yX10_thing cX10_thing 5 (some .int) 4 := ⟨wd569, wd568, by decide +kernel⟩
theorem wd570 : Cond.instanceMethod ⟨"CopiedFireModel", "thing", "(IIII)I"⟩ ∈ TB := TBm (tk5 (List.mem_of_getElem? (i := 81) (by decide +kernel))) rfl
theorem wd571 : Cond.selects "CopiedFireModel" ⟨"CopiedFireModel", "thing", "(IIII)I"⟩ ⟨"CopiedFireModel", "thing", "(IIII)I"⟩ ∈ TB := TBm (tk5 (List.mem_of_getElem? (i := 82) (by decide +kernel))) rfl
theorem ciX10_thing : gCi yX10_thing := ⟨wd570, wd571⟩
theorem wd572 : Cond.code ⟨"CopiedFireModel", "in", "(III)Z"⟩ prog_12_method_2_code 3 (Option.some Jvm.ClassFile.FieldType.boolean) ∈ TB := TBm (tk5 (List.mem_of_getElem? (i := 86) (by decide +kernel))) rfl
theorem cwX10_in : gCw yX10_in cX10_in 3 (some .boolean) 3 := ⟨wd572, wd568, by decide +kernel⟩
theorem wd573 : Cond.static ⟨"CopiedFireModel", "in", "(III)Z"⟩ ∈ TB := TBm (tk5 (List.mem_of_getElem? (i := 85) (by decide +kernel))) rfl
theorem csX10_in : gCs yX10_in := wd573
theorem wd574 : Cond.code ⟨"CopiedFireModel", "isOf", "(II)Z"⟩ prog_12_method_14_code 2 (Option.some Jvm.ClassFile.FieldType.boolean) ∈ TB := TBm (tk5 (List.mem_of_getElem? (i := 89) (by decide +kernel))) rfl
theorem cwX10_isOf : gCw yX10_isOf cX10_isOf 2 (some .boolean) 2 := ⟨wd574, wd568, by decide +kernel⟩
theorem wd575 : Cond.static ⟨"CopiedFireModel", "isOf", "(II)Z"⟩ ∈ TB := TBm (tk5 (List.mem_of_getElem? (i := 88) (by decide +kernel))) rfl
theorem csX10_isOf : gCs yX10_isOf := wd575
theorem wd576 : Cond.code ⟨"CopiedFireModel", "isRoom", "(I)Z"⟩ prog_12_method_6_code 1 (Option.some Jvm.ClassFile.FieldType.boolean) ∈ TB := TBm (tk5 (List.mem_of_getElem? (i := 92) (by decide +kernel))) rfl
theorem cwX10_isRoom : gCw yX10_isRoom cX10_isRoom 1 (some .boolean) 1 := ⟨wd576, wd568, by decide +kernel⟩
theorem wd577 : Cond.static ⟨"CopiedFireModel", "isRoom", "(I)Z"⟩ ∈ TB := TBm (tk5 (List.mem_of_getElem? (i := 91) (by decide +kernel))) rfl
theorem csX10_isRoom : gCs yX10_isRoom := wd577
theorem wd578 : Cond.code ⟨"CopiedFireModel", "comes", "(IIII)I"⟩ prog_12_method_15_code 6 (Option.some Jvm.ClassFile.FieldType.int) ∈ TB := TBm (tk5 (List.mem_of_getElem? (i := 98) (by decide +kernel))) rfl
theorem cwX10_comes : gCw yX10_comes cX10_comes 6 (some .int) 4 := ⟨wd578, wd568, by decide +kernel⟩
theorem wd579 : Cond.instanceMethod ⟨"CopiedFireModel", "comes", "(IIII)I"⟩ ∈ TB := TBm (tk5 (List.mem_of_getElem? (i := 97) (by decide +kernel))) rfl
theorem wd580 : Cond.selects "CopiedFireModel" ⟨"CopiedFireModel", "comes", "(IIII)I"⟩ ⟨"CopiedFireModel", "comes", "(IIII)I"⟩ ∈ TB := TBm (List.mem_of_getElem? (i := 28) (by decide +kernel)) rfl
theorem ciX10_comes : gCi yX10_comes := ⟨wd579, wd580⟩
theorem wd581 : Cond.code ⟨"CopiedFireModel", "put", "(III)V"⟩ prog_12_method_8_code 4 (Option.none : Option Jvm.ClassFile.FieldType) ∈ TB := TBm (tk5 (List.mem_of_getElem? (i := 102) (by decide +kernel))) rfl
theorem cwX10_put : gCw yX10_put cX10_put 4 none 3 := ⟨wd581, wd568, by decide +kernel⟩
theorem wd582 : Cond.instanceMethod ⟨"CopiedFireModel", "put", "(III)V"⟩ ∈ TB := TBm (tk5 (List.mem_of_getElem? (i := 101) (by decide +kernel))) rfl
theorem wd583 : Cond.selects "CopiedFireModel" ⟨"CopiedFireModel", "put", "(III)V"⟩ ⟨"CopiedFireModel", "put", "(III)V"⟩ ∈ TB := TBm (List.mem_of_getElem? (i := 29) (by decide +kernel)) rfl
theorem ciX10_put : gCi yX10_put := ⟨wd582, wd583⟩
theorem wd584 : Cond.code ⟨"CopiedFireModel", "told", "(II)I"⟩ prog_12_method_17_code 3 (Option.some Jvm.ClassFile.FieldType.int) ∈ TB := TBm (tk5 (List.mem_of_getElem? (i := 106) (by decide +kernel))) rfl
theorem cwX10_told : gCw yX10_told cX10_told 3 (some .int) 2 := ⟨wd584, wd568, by decide +kernel⟩
theorem wd585 : Cond.instanceMethod ⟨"CopiedFireModel", "told", "(II)I"⟩ ∈ TB := TBm (tk5 (List.mem_of_getElem? (i := 104) (by decide +kernel))) rfl
theorem wd586 : Cond.selects "CopiedFireModel" ⟨"CopiedFireModel", "told", "(II)I"⟩ ⟨"CopiedFireModel", "told", "(II)I"⟩ ∈ TB := TBm (tk5 (List.mem_of_getElem? (i := 105) (by decide +kernel))) rfl
theorem ciX10_told : gCi yX10_told := ⟨wd585, wd586⟩
theorem wd587 : Cond.code ⟨"CopiedFireModel", "isThing", "(I)Z"⟩ prog_12_method_5_code 2 (Option.some Jvm.ClassFile.FieldType.boolean) ∈ TB := TBm (tk5 (List.mem_of_getElem? (i := 110) (by decide +kernel))) rfl
theorem cwX10_isThing : gCw yX10_isThing cX10_isThing 2 (some .boolean) 1 := ⟨wd587, wd568, by decide +kernel⟩
theorem wd588 : Cond.instanceMethod ⟨"CopiedFireModel", "isThing", "(I)Z"⟩ ∈ TB := TBm (tk5 (List.mem_of_getElem? (i := 109) (by decide +kernel))) rfl
theorem wd589 : Cond.selects "CopiedFireModel" ⟨"CopiedFireModel", "isThing", "(I)Z"⟩ ⟨"CopiedFireModel", "isThing", "(I)Z"⟩ ∈ TB := TBm (List.mem_of_getElem? (i := 30) (by decide +kernel)) rfl
theorem ciX10_isThing : gCi yX10_isThing := ⟨wd588, wd589⟩
theorem wd590 : Cond.code ⟨"CopiedFireModel", "of", "(II)I"⟩ prog_12_method_7_code 3 (Option.some Jvm.ClassFile.FieldType.int) ∈ TB := TBm (tk5 (List.mem_of_getElem? (i := 114) (by decide +kernel))) rfl
theorem cwX10_of : gCw yX10_of cX10_of 3 (some .int) 2 := ⟨wd590, wd568, by decide +kernel⟩
theorem wd591 : Cond.instanceMethod ⟨"CopiedFireModel", "of", "(II)I"⟩ ∈ TB := TBm (tk5 (List.mem_of_getElem? (i := 113) (by decide +kernel))) rfl
theorem wd592 : Cond.selects "CopiedFireModel" ⟨"CopiedFireModel", "of", "(II)I"⟩ ⟨"CopiedFireModel", "of", "(II)I"⟩ ∈ TB := TBm (List.mem_of_getElem? (i := 31) (by decide +kernel)) rfl
theorem ciX10_of : gCi yX10_of := ⟨wd591, wd592⟩
theorem wd593 : Cond.code ⟨"CopiedFireModel", "burnsOf", "(I)I"⟩ prog_12_method_10_code 4 (Option.some Jvm.ClassFile.FieldType.int) ∈ TB := TBm (tk5 (List.mem_of_getElem? (i := 118) (by decide +kernel))) rfl
theorem cwX10_burnsOf : gCw yX10_burnsOf cX10_burnsOf 4 (some .int) 1 := ⟨wd593, wd568, by decide +kernel⟩
theorem wd594 : Cond.instanceMethod ⟨"CopiedFireModel", "burnsOf", "(I)I"⟩ ∈ TB := TBm (tk5 (List.mem_of_getElem? (i := 117) (by decide +kernel))) rfl
theorem wd595 : Cond.selects "CopiedFireModel" ⟨"CopiedFireModel", "burnsOf", "(I)I"⟩ ⟨"CopiedFireModel", "burnsOf", "(I)I"⟩ ∈ TB := TBm (List.mem_of_getElem? (i := 32) (by decide +kernel)) rfl
theorem ciX10_burnsOf : gCi yX10_burnsOf := ⟨wd594, wd595⟩
theorem wd596 : Cond.code ⟨"CopiedFireModel", "counts", "(I)I"⟩ prog_12_method_77_code 3 (Option.some Jvm.ClassFile.FieldType.int) ∈ TB := TBm (tk5 (List.mem_of_getElem? (i := 122) (by decide +kernel))) rfl
theorem cwX10_counts : gCw yX10_counts cX10_counts 3 (some .int) 1 := ⟨wd596, wd568, by decide +kernel⟩
theorem wd597 : Cond.instanceMethod ⟨"CopiedFireModel", "counts", "(I)I"⟩ ∈ TB := TBm (tk5 (List.mem_of_getElem? (i := 121) (by decide +kernel))) rfl
theorem wd598 : Cond.selects "CopiedFireModel" ⟨"CopiedFireModel", "counts", "(I)I"⟩ ⟨"CopiedFireModel", "counts", "(I)I"⟩ ∈ TB := TBm (List.mem_of_getElem? (i := 33) (by decide +kernel)) rfl
theorem ciX10_counts : gCi yX10_counts := ⟨wd597, wd598⟩
theorem wd599 : Cond.code ⟨"CopiedFireModel", "worksOut", "(I)I"⟩ prog_12_method_80_code 6 (Option.some Jvm.ClassFile.FieldType.int) ∈ TB := TBm (tk5 (List.mem_of_getElem? (i := 126) (by decide +kernel))) rfl
theorem cwX10_worksOut : gCw yX10_worksOut cX10_worksOut 6 (some .int) 1 := ⟨wd599, wd568, by decide +kernel⟩
theorem wd600 : Cond.instanceMethod ⟨"CopiedFireModel", "worksOut", "(I)I"⟩ ∈ TB := TBm (tk5 (List.mem_of_getElem? (i := 125) (by decide +kernel))) rfl
theorem wd601 : Cond.selects "CopiedFireModel" ⟨"CopiedFireModel", "worksOut", "(I)I"⟩ ⟨"CopiedFireModel", "worksOut", "(I)I"⟩ ∈ TB := TBm (List.mem_of_getElem? (i := 34) (by decide +kernel)) rfl
theorem ciX10_worksOut : gCi yX10_worksOut := ⟨wd600, wd601⟩
theorem wd602 : Cond.code ⟨"CopiedFireModel", "two", "(III)I"⟩ prog_12_method_79_code 3 (Option.some Jvm.ClassFile.FieldType.int) ∈ TB := TBm (tk5 (List.mem_of_getElem? (i := 129) (by decide +kernel))) rfl
theorem cwX10_two : gCw yX10_two cX10_two 3 (some .int) 3 := ⟨wd602, wd568, by decide +kernel⟩
theorem wd603 : Cond.static ⟨"CopiedFireModel", "two", "(III)I"⟩ ∈ TB := TBm (tk5 (List.mem_of_getElem? (i := 128) (by decide +kernel))) rfl
theorem csX10_two : gCs yX10_two := wd603
theorem wd604 : Cond.code ⟨"CopiedFireModel", "within", "(III)I"⟩ prog_12_method_3_code 3 (Option.some Jvm.ClassFile.FieldType.int) ∈ TB := TBm (tk5 (List.mem_of_getElem? (i := 132) (by decide +kernel))) rfl
theorem cwX10_within : gCw yX10_within cX10_within 3 (some .int) 3 := ⟨wd604, wd568, by decide +kernel⟩
theorem wd605 : Cond.static ⟨"CopiedFireModel", "within", "(III)I"⟩ ∈ TB := TBm (tk5 (List.mem_of_getElem? (i := 131) (by decide +kernel))) rfl
theorem csX10_within : gCs yX10_within := wd605
theorem wd606 : Cond.code ⟨"CopiedFireModel", "givesOf", "(II)I"⟩ prog_12_method_11_code 3 (Option.some Jvm.ClassFile.FieldType.int) ∈ TB := TBm (tk5 (List.mem_of_getElem? (i := 136) (by decide +kernel))) rfl
theorem cwX10_givesOf : gCw yX10_givesOf cX10_givesOf 3 (some .int) 2 := ⟨wd606, wd568, by decide +kernel⟩
theorem wd607 : Cond.instanceMethod ⟨"CopiedFireModel", "givesOf", "(II)I"⟩ ∈ TB := TBm (tk5 (List.mem_of_getElem? (i := 135) (by decide +kernel))) rfl
theorem wd608 : Cond.selects "CopiedFireModel" ⟨"CopiedFireModel", "givesOf", "(II)I"⟩ ⟨"CopiedFireModel", "givesOf", "(II)I"⟩ ∈ TB := TBm (List.mem_of_getElem? (i := 35) (by decide +kernel)) rfl
theorem ciX10_givesOf : gCi yX10_givesOf := ⟨wd607, wd608⟩
theorem wd609 : Cond.code ⟨"CopiedFireModel", "catchesOf", "(I)I"⟩ prog_12_method_12_code 2 (Option.some Jvm.ClassFile.FieldType.int) ∈ TB := TBm (tk5 (List.mem_of_getElem? (i := 140) (by decide +kernel))) rfl
theorem cwX10_catchesOf : gCw yX10_catchesOf cX10_catchesOf 2 (some .int) 1 := ⟨wd609, wd568, by decide +kernel⟩
theorem wd610 : Cond.instanceMethod ⟨"CopiedFireModel", "catchesOf", "(I)I"⟩ ∈ TB := TBm (tk5 (List.mem_of_getElem? (i := 139) (by decide +kernel))) rfl
theorem wd611 : Cond.selects "CopiedFireModel" ⟨"CopiedFireModel", "catchesOf", "(I)I"⟩ ⟨"CopiedFireModel", "catchesOf", "(I)I"⟩ ∈ TB := TBm (List.mem_of_getElem? (i := 36) (by decide +kernel)) rfl
theorem ciX10_catchesOf : gCi yX10_catchesOf := ⟨wd610, wd611⟩
theorem wd612 : Cond.code ⟨"CopiedFireModel", "worthOf", "(I)I"⟩ prog_12_method_13_code 3 (Option.some Jvm.ClassFile.FieldType.int) ∈ TB := TBm (tk5 (List.mem_of_getElem? (i := 144) (by decide +kernel))) rfl
theorem cwX10_worthOf : gCw yX10_worthOf cX10_worthOf 3 (some .int) 1 := ⟨wd612, wd568, by decide +kernel⟩
theorem wd613 : Cond.instanceMethod ⟨"CopiedFireModel", "worthOf", "(I)I"⟩ ∈ TB := TBm (tk5 (List.mem_of_getElem? (i := 143) (by decide +kernel))) rfl
theorem wd614 : Cond.selects "CopiedFireModel" ⟨"CopiedFireModel", "worthOf", "(I)I"⟩ ⟨"CopiedFireModel", "worthOf", "(I)I"⟩ ∈ TB := TBm (List.mem_of_getElem? (i := 37) (by decide +kernel)) rfl
theorem ciX10_worthOf : gCi yX10_worthOf := ⟨wd613, wd614⟩
theorem wd615 : Cond.code ⟨"CopiedFireModel", "as", "(II)I"⟩ prog_12_method_19_code 3 (Option.some Jvm.ClassFile.FieldType.int) ∈ TB := TBm (tk5 (List.mem_of_getElem? (i := 148) (by decide +kernel))) rfl
theorem cwX10_as : gCw yX10_as cX10_as 3 (some .int) 2 := ⟨wd615, wd568, by decide +kernel⟩
theorem wd616 : Cond.instanceMethod ⟨"CopiedFireModel", "as", "(II)I"⟩ ∈ TB := TBm (tk5 (List.mem_of_getElem? (i := 146) (by decide +kernel))) rfl
theorem wd617 : Cond.selects "CopiedFireModel" ⟨"CopiedFireModel", "as", "(II)I"⟩ ⟨"CopiedFireModel", "as", "(II)I"⟩ ∈ TB := TBm (tk5 (List.mem_of_getElem? (i := 147) (by decide +kernel))) rfl
theorem ciX10_as : gCi yX10_as := ⟨wd616, wd617⟩
theorem wd618 : Cond.code ⟨"CopiedFireModel", "isUnder", "(II)Z"⟩ prog_12_method_18_code 2 (Option.some Jvm.ClassFile.FieldType.boolean) ∈ TB := TBm (tk5 (List.mem_of_getElem? (i := 151) (by decide +kernel))) rfl
theorem cwX10_isUnder : gCw yX10_isUnder cX10_isUnder 2 (some .boolean) 2 := ⟨wd618, wd568, by decide +kernel⟩
theorem wd619 : Cond.static ⟨"CopiedFireModel", "isUnder", "(II)Z"⟩ ∈ TB := TBm (tk5 (List.mem_of_getElem? (i := 150) (by decide +kernel))) rfl
theorem csX10_isUnder : gCs yX10_isUnder := wd619
theorem wd620 : Cond.code ⟨"CopiedFireModel", "turns", "(II)I"⟩ prog_12_method_20_code 3 (Option.some Jvm.ClassFile.FieldType.int) ∈ TB := TBm (tk5 (List.mem_of_getElem? (i := 156) (by decide +kernel))) rfl
theorem cwX10_turns : gCw yX10_turns cX10_turns 3 (some .int) 2 := ⟨wd620, wd568, by decide +kernel⟩
theorem wd621 : Cond.instanceMethod ⟨"CopiedFireModel", "turns", "(II)I"⟩ ∈ TB := TBm (tk5 (List.mem_of_getElem? (i := 154) (by decide +kernel))) rfl
theorem wd622 : Cond.selects "CopiedFireModel" ⟨"CopiedFireModel", "turns", "(II)I"⟩ ⟨"CopiedFireModel", "turns", "(II)I"⟩ ∈ TB := TBm (tk5 (List.mem_of_getElem? (i := 155) (by decide +kernel))) rfl
theorem ciX10_turns : gCi yX10_turns := ⟨wd621, wd622⟩
theorem wd623 : Cond.code ⟨"CopiedFireModel", "swaps", "(II)I"⟩ prog_12_method_9_code 4 (Option.some Jvm.ClassFile.FieldType.int) ∈ TB := TBm (tk5 (List.mem_of_getElem? (i := 160) (by decide +kernel))) rfl
theorem cwX10_swaps : gCw yX10_swaps cX10_swaps 4 (some .int) 2 := ⟨wd623, wd568, by decide +kernel⟩
theorem wd624 : Cond.instanceMethod ⟨"CopiedFireModel", "swaps", "(II)I"⟩ ∈ TB := TBm (tk5 (List.mem_of_getElem? (i := 159) (by decide +kernel))) rfl
theorem wd625 : Cond.selects "CopiedFireModel" ⟨"CopiedFireModel", "swaps", "(II)I"⟩ ⟨"CopiedFireModel", "swaps", "(II)I"⟩ ∈ TB := TBm (List.mem_of_getElem? (i := 38) (by decide +kernel)) rfl
theorem ciX10_swaps : gCi yX10_swaps := ⟨wd624, wd625⟩
theorem wd626 : Cond.code ⟨"CopiedFireModel", "set", "(III)I"⟩ prog_12_method_21_code 4 (Option.some Jvm.ClassFile.FieldType.int) ∈ TB := TBm (tk5 (List.mem_of_getElem? (i := 164) (by decide +kernel))) rfl
theorem cwX10_set : gCw yX10_set cX10_set 4 (some .int) 3 := ⟨wd626, wd568, by decide +kernel⟩
theorem wd627 : Cond.instanceMethod ⟨"CopiedFireModel", "set", "(III)I"⟩ ∈ TB := TBm (tk5 (List.mem_of_getElem? (i := 162) (by decide +kernel))) rfl
theorem wd628 : Cond.selects "CopiedFireModel" ⟨"CopiedFireModel", "set", "(III)I"⟩ ⟨"CopiedFireModel", "set", "(III)I"⟩ ∈ TB := TBm (tk5 (List.mem_of_getElem? (i := 163) (by decide +kernel))) rfl
theorem ciX10_set : gCi yX10_set := ⟨wd627, wd628⟩
theorem wd629 : Cond.code ⟨"CopiedFireModel", "deal", "(I)I"⟩ prog_12_method_23_code 6 (Option.some Jvm.ClassFile.FieldType.int) ∈ TB := TBm (tk5 (List.mem_of_getElem? (i := 168) (by decide +kernel))) rfl
theorem cwX10_deal : gCw yX10_deal cX10_deal 6 (some .int) 1 := ⟨wd629, wd568, by decide +kernel⟩
theorem wd630 : Cond.instanceMethod ⟨"CopiedFireModel", "deal", "(I)I"⟩ ∈ TB := TBm (tk5 (List.mem_of_getElem? (i := 166) (by decide +kernel))) rfl
theorem wd631 : Cond.selects "CopiedFireModel" ⟨"CopiedFireModel", "deal", "(I)I"⟩ ⟨"CopiedFireModel", "deal", "(I)I"⟩ ∈ TB := TBm (tk5 (List.mem_of_getElem? (i := 167) (by decide +kernel))) rfl
theorem ciX10_deal : gCi yX10_deal := ⟨wd630, wd631⟩
theorem wd632 : Cond.code ⟨"CopiedFireModel", "draw", "()I"⟩ prog_12_method_22_code 1 (Option.some Jvm.ClassFile.FieldType.int) ∈ TB := TBm (tk5 (List.mem_of_getElem? (i := 172) (by decide +kernel))) rfl
theorem cwX10_draw : gCw yX10_draw cX10_draw 1 (some .int) 0 := ⟨wd632, wd568, by decide +kernel⟩
theorem wd633 : Cond.instanceMethod ⟨"CopiedFireModel", "draw", "()I"⟩ ∈ TB := TBm (tk5 (List.mem_of_getElem? (i := 171) (by decide +kernel))) rfl
theorem wd634 : Cond.selects "CopiedFireModel" ⟨"CopiedFireModel", "draw", "()I"⟩ ⟨"CopiedFireModel", "draw", "()I"⟩ ∈ TB := TBm (List.mem_of_getElem? (i := 39) (by decide +kernel)) rfl
theorem ciX10_draw : gCi yX10_draw := ⟨wd633, wd634⟩
theorem wd635 : Cond.code ⟨"CopiedFireModel", "seed", "(I)I"⟩ prog_12_method_24_code 2 (Option.some Jvm.ClassFile.FieldType.int) ∈ TB := TBm (tk5 (List.mem_of_getElem? (i := 177) (by decide +kernel))) rfl
theorem cwX10_seed : gCw yX10_seed cX10_seed 2 (some .int) 1 := ⟨wd635, wd568, by decide +kernel⟩
theorem wd636 : Cond.instanceMethod ⟨"CopiedFireModel", "seed", "(I)I"⟩ ∈ TB := TBm (tk5 (List.mem_of_getElem? (i := 175) (by decide +kernel))) rfl
theorem wd637 : Cond.selects "CopiedFireModel" ⟨"CopiedFireModel", "seed", "(I)I"⟩ ⟨"CopiedFireModel", "seed", "(I)I"⟩ ∈ TB := TBm (tk5 (List.mem_of_getElem? (i := 176) (by decide +kernel))) rfl
theorem ciX10_seed : gCi yX10_seed := ⟨wd636, wd637⟩
theorem wd638 : Cond.code ⟨"CopiedFireModel", "heat", "(I)I"⟩ prog_12_method_25_code 2 (Option.some Jvm.ClassFile.FieldType.int) ∈ TB := TBm (tk5 (List.mem_of_getElem? (i := 181) (by decide +kernel))) rfl
theorem cwX10_heat : gCw yX10_heat cX10_heat 2 (some .int) 1 := ⟨wd638, wd568, by decide +kernel⟩
theorem wd639 : Cond.instanceMethod ⟨"CopiedFireModel", "heat", "(I)I"⟩ ∈ TB := TBm (tk5 (List.mem_of_getElem? (i := 179) (by decide +kernel))) rfl
theorem wd640 : Cond.selects "CopiedFireModel" ⟨"CopiedFireModel", "heat", "(I)I"⟩ ⟨"CopiedFireModel", "heat", "(I)I"⟩ ∈ TB := TBm (tk5 (List.mem_of_getElem? (i := 180) (by decide +kernel))) rfl
theorem ciX10_heat : gCi yX10_heat := ⟨wd639, wd640⟩
theorem wd641 : Cond.code ⟨"CopiedFireModel", "heats", "(II)I"⟩ prog_12_method_26_code 3 (Option.some Jvm.ClassFile.FieldType.int) ∈ TB := TBm (tk5 (List.mem_of_getElem? (i := 185) (by decide +kernel))) rfl
theorem cwX10_heats : gCw yX10_heats cX10_heats 3 (some .int) 2 := ⟨wd641, wd568, by decide +kernel⟩
theorem wd642 : Cond.instanceMethod ⟨"CopiedFireModel", "heats", "(II)I"⟩ ∈ TB := TBm (tk5 (List.mem_of_getElem? (i := 183) (by decide +kernel))) rfl
theorem wd643 : Cond.selects "CopiedFireModel" ⟨"CopiedFireModel", "heats", "(II)I"⟩ ⟨"CopiedFireModel", "heats", "(II)I"⟩ ∈ TB := TBm (tk5 (List.mem_of_getElem? (i := 184) (by decide +kernel))) rfl
theorem ciX10_heats : gCi yX10_heats := ⟨wd642, wd643⟩
theorem wd644 : Cond.code ⟨"CopiedFireModel", "door", "(III)I"⟩ prog_12_method_29_code 4 (Option.some Jvm.ClassFile.FieldType.int) ∈ TB := TBm (tk5 (List.mem_of_getElem? (i := 189) (by decide +kernel))) rfl
theorem cwX10_door : gCw yX10_door cX10_door 4 (some .int) 3 := ⟨wd644, wd568, by decide +kernel⟩
theorem wd645 : Cond.instanceMethod ⟨"CopiedFireModel", "door", "(III)I"⟩ ∈ TB := TBm (tk5 (List.mem_of_getElem? (i := 187) (by decide +kernel))) rfl
theorem wd646 : Cond.selects "CopiedFireModel" ⟨"CopiedFireModel", "door", "(III)I"⟩ ⟨"CopiedFireModel", "door", "(III)I"⟩ ∈ TB := TBm (tk5 (List.mem_of_getElem? (i := 188) (by decide +kernel))) rfl
theorem ciX10_door : gCi yX10_door := ⟨wd645, wd646⟩
theorem wd647 : Cond.code ⟨"CopiedFireModel", "areTwo", "(II)Z"⟩ prog_12_method_27_code 2 (Option.some Jvm.ClassFile.FieldType.boolean) ∈ TB := TBm (tk5 (List.mem_of_getElem? (i := 192) (by decide +kernel))) rfl
theorem cwX10_areTwo : gCw yX10_areTwo cX10_areTwo 2 (some .boolean) 2 := ⟨wd647, wd568, by decide +kernel⟩
theorem wd648 : Cond.static ⟨"CopiedFireModel", "areTwo", "(II)Z"⟩ ∈ TB := TBm (tk5 (List.mem_of_getElem? (i := 191) (by decide +kernel))) rfl
theorem csX10_areTwo : gCs yX10_areTwo := wd648
theorem wd649 : Cond.code ⟨"CopiedFireModel", "leaves", "(III)I"⟩ prog_12_method_28_code 4 (Option.some Jvm.ClassFile.FieldType.int) ∈ TB := TBm (tk5 (List.mem_of_getElem? (i := 196) (by decide +kernel))) rfl
theorem cwX10_leaves : gCw yX10_leaves cX10_leaves 4 (some .int) 3 := ⟨wd649, wd568, by decide +kernel⟩
theorem wd650 : Cond.instanceMethod ⟨"CopiedFireModel", "leaves", "(III)I"⟩ ∈ TB := TBm (tk5 (List.mem_of_getElem? (i := 195) (by decide +kernel))) rfl
theorem wd651 : Cond.selects "CopiedFireModel" ⟨"CopiedFireModel", "leaves", "(III)I"⟩ ⟨"CopiedFireModel", "leaves", "(III)I"⟩ ∈ TB := TBm (List.mem_of_getElem? (i := 40) (by decide +kernel)) rfl
theorem ciX10_leaves : gCi yX10_leaves := ⟨wd650, wd651⟩
theorem wd652 : Cond.code ⟨"CopiedFireModel", "doorTold", "(II)I"⟩ prog_12_method_30_code 3 (Option.some Jvm.ClassFile.FieldType.int) ∈ TB := TBm (tk5 (List.mem_of_getElem? (i := 200) (by decide +kernel))) rfl
theorem cwX10_doorTold : gCw yX10_doorTold cX10_doorTold 3 (some .int) 2 := ⟨wd652, wd568, by decide +kernel⟩
theorem wd653 : Cond.instanceMethod ⟨"CopiedFireModel", "doorTold", "(II)I"⟩ ∈ TB := TBm (tk5 (List.mem_of_getElem? (i := 198) (by decide +kernel))) rfl
theorem wd654 : Cond.selects "CopiedFireModel" ⟨"CopiedFireModel", "doorTold", "(II)I"⟩ ⟨"CopiedFireModel", "doorTold", "(II)I"⟩ ∈ TB := TBm (tk5 (List.mem_of_getElem? (i := 199) (by decide +kernel))) rfl
theorem ciX10_doorTold : gCi yX10_doorTold := ⟨wd653, wd654⟩
theorem wd655 : Cond.code ⟨"CopiedFireModel", "rule", "(II)I"⟩ prog_12_method_31_code 3 (Option.some Jvm.ClassFile.FieldType.int) ∈ TB := TBm (tk5 (List.mem_of_getElem? (i := 204) (by decide +kernel))) rfl
theorem cwX10_rule : gCw yX10_rule cX10_rule 3 (some .int) 2 := ⟨wd655, wd568, by decide +kernel⟩
theorem wd656 : Cond.instanceMethod ⟨"CopiedFireModel", "rule", "(II)I"⟩ ∈ TB := TBm (tk5 (List.mem_of_getElem? (i := 202) (by decide +kernel))) rfl
theorem wd657 : Cond.selects "CopiedFireModel" ⟨"CopiedFireModel", "rule", "(II)I"⟩ ⟨"CopiedFireModel", "rule", "(II)I"⟩ ∈ TB := TBm (tk5 (List.mem_of_getElem? (i := 203) (by decide +kernel))) rfl
theorem ciX10_rule : gCi yX10_rule := ⟨wd656, wd657⟩
theorem wd658 : Cond.code ⟨"CopiedFireModel", "visitor", "(I)I"⟩ prog_12_method_32_code 2 (Option.some Jvm.ClassFile.FieldType.int) ∈ TB := TBm (tk5 (List.mem_of_getElem? (i := 208) (by decide +kernel))) rfl
theorem cwX10_visitor : gCw yX10_visitor cX10_visitor 2 (some .int) 1 := ⟨wd658, wd568, by decide +kernel⟩
theorem wd659 : Cond.instanceMethod ⟨"CopiedFireModel", "visitor", "(I)I"⟩ ∈ TB := TBm (tk5 (List.mem_of_getElem? (i := 206) (by decide +kernel))) rfl
theorem wd660 : Cond.selects "CopiedFireModel" ⟨"CopiedFireModel", "visitor", "(I)I"⟩ ⟨"CopiedFireModel", "visitor", "(I)I"⟩ ∈ TB := TBm (tk5 (List.mem_of_getElem? (i := 207) (by decide +kernel))) rfl
theorem ciX10_visitor : gCi yX10_visitor := ⟨wd659, wd660⟩
theorem wd661 : Cond.code ⟨"CopiedFireModel", "likes", "(II)I"⟩ prog_12_method_33_code 3 (Option.some Jvm.ClassFile.FieldType.int) ∈ TB := TBm (tk5 (List.mem_of_getElem? (i := 212) (by decide +kernel))) rfl
theorem cwX10_likes : gCw yX10_likes cX10_likes 3 (some .int) 2 := ⟨wd661, wd568, by decide +kernel⟩
theorem wd662 : Cond.instanceMethod ⟨"CopiedFireModel", "likes", "(II)I"⟩ ∈ TB := TBm (tk5 (List.mem_of_getElem? (i := 210) (by decide +kernel))) rfl
theorem wd663 : Cond.selects "CopiedFireModel" ⟨"CopiedFireModel", "likes", "(II)I"⟩ ⟨"CopiedFireModel", "likes", "(II)I"⟩ ∈ TB := TBm (tk5 (List.mem_of_getElem? (i := 211) (by decide +kernel))) rfl
theorem ciX10_likes : gCi yX10_likes := ⟨wd662, wd663⟩
theorem wd664 : Cond.code ⟨"CopiedFireModel", "seats", "(I)I"⟩ prog_12_method_35_code 2 (Option.some Jvm.ClassFile.FieldType.int) ∈ TB := TBm (tk5 (List.mem_of_getElem? (i := 216) (by decide +kernel))) rfl
theorem cwX10_seats : gCw yX10_seats cX10_seats 2 (some .int) 1 := ⟨wd664, wd568, by decide +kernel⟩
theorem wd665 : Cond.instanceMethod ⟨"CopiedFireModel", "seats", "(I)I"⟩ ∈ TB := TBm (tk5 (List.mem_of_getElem? (i := 214) (by decide +kernel))) rfl
theorem wd666 : Cond.selects "CopiedFireModel" ⟨"CopiedFireModel", "seats", "(I)I"⟩ ⟨"CopiedFireModel", "seats", "(I)I"⟩ ∈ TB := TBm (tk5 (List.mem_of_getElem? (i := 215) (by decide +kernel))) rfl
theorem ciX10_seats : gCi yX10_seats := ⟨wd665, wd666⟩
theorem wd667 : Cond.code ⟨"CopiedFireModel", "gives", "(III)V"⟩ prog_12_method_34_code 5 (Option.none : Option Jvm.ClassFile.FieldType) ∈ TB := TBm (tk5 (List.mem_of_getElem? (i := 220) (by decide +kernel))) rfl
theorem cwX10_gives : gCw yX10_gives cX10_gives 5 none 3 := ⟨wd667, wd568, by decide +kernel⟩
theorem wd668 : Cond.instanceMethod ⟨"CopiedFireModel", "gives", "(III)V"⟩ ∈ TB := TBm (tk5 (List.mem_of_getElem? (i := 219) (by decide +kernel))) rfl
theorem wd669 : Cond.selects "CopiedFireModel" ⟨"CopiedFireModel", "gives", "(III)V"⟩ ⟨"CopiedFireModel", "gives", "(III)V"⟩ ∈ TB := TBm (List.mem_of_getElem? (i := 41) (by decide +kernel)) rfl
theorem ciX10_gives : gCi yX10_gives := ⟨wd668, wd669⟩
theorem wd670 : Cond.code ⟨"CopiedFireModel", "way", "(II)I"⟩ prog_12_method_36_code 7 (Option.some Jvm.ClassFile.FieldType.int) ∈ TB := TBm (tk5 (List.mem_of_getElem? (i := 225) (by decide +kernel))) rfl
theorem cwX10_way : gCw yX10_way cX10_way 7 (some .int) 2 := ⟨wd670, wd568, by decide +kernel⟩
theorem wd671 : Cond.instanceMethod ⟨"CopiedFireModel", "way", "(II)I"⟩ ∈ TB := TBm (tk5 (List.mem_of_getElem? (i := 223) (by decide +kernel))) rfl
theorem wd672 : Cond.selects "CopiedFireModel" ⟨"CopiedFireModel", "way", "(II)I"⟩ ⟨"CopiedFireModel", "way", "(II)I"⟩ ∈ TB := TBm (tk5 (List.mem_of_getElem? (i := 224) (by decide +kernel))) rfl
theorem ciX10_way : gCi yX10_way := ⟨wd671, wd672⟩
theorem wd673 : Cond.code ⟨"CopiedFireModel", "minutes", "(I)I"⟩ prog_12_method_46_code 3 (Option.some Jvm.ClassFile.FieldType.int) ∈ TB := TBm (tk5 (List.mem_of_getElem? (i := 229) (by decide +kernel))) rfl
theorem cwX10_minutes : gCw yX10_minutes cX10_minutes 3 (some .int) 1 := ⟨wd673, wd568, by decide +kernel⟩
theorem wd674 : Cond.instanceMethod ⟨"CopiedFireModel", "minutes", "(I)I"⟩ ∈ TB := TBm (tk5 (List.mem_of_getElem? (i := 227) (by decide +kernel))) rfl
theorem wd675 : Cond.selects "CopiedFireModel" ⟨"CopiedFireModel", "minutes", "(I)I"⟩ ⟨"CopiedFireModel", "minutes", "(I)I"⟩ ∈ TB := TBm (tk5 (List.mem_of_getElem? (i := 228) (by decide +kernel))) rfl
theorem ciX10_minutes : gCi yX10_minutes := ⟨wd674, wd675⟩
theorem wd676 : Cond.code ⟨"CopiedFireModel", "goesOn", "(I)V"⟩ prog_12_method_42_code 3 (Option.none : Option Jvm.ClassFile.FieldType) ∈ TB := TBm (tk5 (List.mem_of_getElem? (i := 233) (by decide +kernel))) rfl
theorem cwX10_goesOn : gCw yX10_goesOn cX10_goesOn 3 none 1 := ⟨wd676, wd568, by decide +kernel⟩
theorem wd677 : Cond.instanceMethod ⟨"CopiedFireModel", "goesOn", "(I)V"⟩ ∈ TB := TBm (tk5 (List.mem_of_getElem? (i := 232) (by decide +kernel))) rfl
theorem wd678 : Cond.selects "CopiedFireModel" ⟨"CopiedFireModel", "goesOn", "(I)V"⟩ ⟨"CopiedFireModel", "goesOn", "(I)V"⟩ ∈ TB := TBm (List.mem_of_getElem? (i := 42) (by decide +kernel)) rfl
theorem ciX10_goesOn : gCi yX10_goesOn := ⟨wd677, wd678⟩
theorem wd679 : Cond.code ⟨"CopiedFireModel", "minute", "()V"⟩ prog_12_method_41_code 2 (Option.none : Option Jvm.ClassFile.FieldType) ∈ TB := TBm (tk5 (List.mem_of_getElem? (i := 237) (by decide +kernel))) rfl
theorem cwX10_minute : gCw yX10_minute cX10_minute 2 none 0 := ⟨wd679, wd568, by decide +kernel⟩
theorem wd680 : Cond.instanceMethod ⟨"CopiedFireModel", "minute", "()V"⟩ ∈ TB := TBm (tk5 (List.mem_of_getElem? (i := 236) (by decide +kernel))) rfl
theorem wd681 : Cond.selects "CopiedFireModel" ⟨"CopiedFireModel", "minute", "()V"⟩ ⟨"CopiedFireModel", "minute", "()V"⟩ ∈ TB := TBm (List.mem_of_getElem? (i := 43) (by decide +kernel)) rfl
theorem ciX10_minute : gCi yX10_minute := ⟨wd680, wd681⟩
theorem wd682 : Cond.code ⟨"CopiedFireModel", "burns", "(I)V"⟩ prog_12_method_37_code 5 (Option.none : Option Jvm.ClassFile.FieldType) ∈ TB := TBm (tk6 (List.mem_of_getElem? (i := 1) (by decide +kernel))) rfl
theorem cwX10_burns : gCw yX10_burns cX10_burns 5 none 1 := ⟨wd682, wd568, by decide +kernel⟩
theorem wd683 : Cond.instanceMethod ⟨"CopiedFireModel", "burns", "(I)V"⟩ ∈ TB := TBm (tk6 (List.mem_of_getElem? (i := 0) (by decide +kernel))) rfl
theorem wd684 : Cond.selects "CopiedFireModel" ⟨"CopiedFireModel", "burns", "(I)V"⟩ ⟨"CopiedFireModel", "burns", "(I)V"⟩ ∈ TB := TBm (List.mem_of_getElem? (i := 44) (by decide +kernel)) rfl
theorem ciX10_burns : gCi yX10_burns := ⟨wd683, wd684⟩
theorem wd685 : Cond.code ⟨"CopiedFireModel", "evens", "()V"⟩ prog_12_method_38_code 4 (Option.none : Option Jvm.ClassFile.FieldType) ∈ TB := TBm (tk6 (List.mem_of_getElem? (i := 5) (by decide +kernel))) rfl
theorem cwX10_evens : gCw yX10_evens cX10_evens 4 none 0 := ⟨wd685, wd568, by decide +kernel⟩
theorem wd686 : Cond.instanceMethod ⟨"CopiedFireModel", "evens", "()V"⟩ ∈ TB := TBm (tk6 (List.mem_of_getElem? (i := 4) (by decide +kernel))) rfl
theorem wd687 : Cond.selects "CopiedFireModel" ⟨"CopiedFireModel", "evens", "()V"⟩ ⟨"CopiedFireModel", "evens", "()V"⟩ ∈ TB := TBm (List.mem_of_getElem? (i := 45) (by decide +kernel)) rfl
theorem ciX10_evens : gCi yX10_evens := ⟨wd686, wd687⟩
theorem wd688 : Cond.code ⟨"CopiedFireModel", "catches", "()V"⟩ prog_12_method_39_code 3 (Option.none : Option Jvm.ClassFile.FieldType) ∈ TB := TBm (tk6 (List.mem_of_getElem? (i := 9) (by decide +kernel))) rfl
theorem cwX10_catches : gCw yX10_catches cX10_catches 3 none 0 := ⟨wd688, wd568, by decide +kernel⟩
theorem wd689 : Cond.instanceMethod ⟨"CopiedFireModel", "catches", "()V"⟩ ∈ TB := TBm (tk6 (List.mem_of_getElem? (i := 8) (by decide +kernel))) rfl
theorem wd690 : Cond.selects "CopiedFireModel" ⟨"CopiedFireModel", "catches", "()V"⟩ ⟨"CopiedFireModel", "catches", "()V"⟩ ∈ TB := TBm (List.mem_of_getElem? (i := 46) (by decide +kernel)) rfl
theorem ciX10_catches : gCi yX10_catches := ⟨wd689, wd690⟩
theorem wd691 : Cond.code ⟨"CopiedFireModel", "blows", "()V"⟩ prog_12_method_40_code 4 (Option.none : Option Jvm.ClassFile.FieldType) ∈ TB := TBm (tk6 (List.mem_of_getElem? (i := 13) (by decide +kernel))) rfl
theorem cwX10_blows : gCw yX10_blows cX10_blows 4 none 0 := ⟨wd691, wd568, by decide +kernel⟩
theorem wd692 : Cond.instanceMethod ⟨"CopiedFireModel", "blows", "()V"⟩ ∈ TB := TBm (tk6 (List.mem_of_getElem? (i := 12) (by decide +kernel))) rfl
theorem wd693 : Cond.selects "CopiedFireModel" ⟨"CopiedFireModel", "blows", "()V"⟩ ⟨"CopiedFireModel", "blows", "()V"⟩ ∈ TB := TBm (List.mem_of_getElem? (i := 47) (by decide +kernel)) rfl
theorem ciX10_blows : gCi yX10_blows := ⟨wd692, wd693⟩
theorem wd694 : Cond.code ⟨"CopiedFireModel", "house", "(I)I"⟩ prog_12_method_47_code 2 (Option.some Jvm.ClassFile.FieldType.int) ∈ TB := TBm (tk6 (List.mem_of_getElem? (i := 17) (by decide +kernel))) rfl
theorem cwX10_house : gCw yX10_house cX10_house 2 (some .int) 1 := ⟨wd694, wd568, by decide +kernel⟩
theorem wd695 : Cond.instanceMethod ⟨"CopiedFireModel", "house", "(I)I"⟩ ∈ TB := TBm (tk6 (List.mem_of_getElem? (i := 15) (by decide +kernel))) rfl
theorem wd696 : Cond.selects "CopiedFireModel" ⟨"CopiedFireModel", "house", "(I)I"⟩ ⟨"CopiedFireModel", "house", "(I)I"⟩ ∈ TB := TBm (tk6 (List.mem_of_getElem? (i := 16) (by decide +kernel))) rfl
theorem ciX10_house : gCi yX10_house := ⟨wd695, wd696⟩
theorem wd697 : Cond.code ⟨"CopiedFireModel", "lit", "()I"⟩ prog_12_method_44_code 3 (Option.some Jvm.ClassFile.FieldType.int) ∈ TB := TBm (tk6 (List.mem_of_getElem? (i := 21) (by decide +kernel))) rfl
theorem cwX10_lit : gCw yX10_lit cX10_lit 3 (some .int) 0 := ⟨wd697, wd568, by decide +kernel⟩
theorem wd698 : Cond.instanceMethod ⟨"CopiedFireModel", "lit", "()I"⟩ ∈ TB := TBm (tk6 (List.mem_of_getElem? (i := 20) (by decide +kernel))) rfl
theorem wd699 : Cond.selects "CopiedFireModel" ⟨"CopiedFireModel", "lit", "()I"⟩ ⟨"CopiedFireModel", "lit", "()I"⟩ ∈ TB := TBm (List.mem_of_getElem? (i := 48) (by decide +kernel)) rfl
theorem ciX10_lit : gCi yX10_lit := ⟨wd698, wd699⟩
theorem wd700 : Cond.code ⟨"CopiedFireModel", "allHeat", "()I"⟩ prog_12_method_43_code 3 (Option.some Jvm.ClassFile.FieldType.int) ∈ TB := TBm (tk6 (List.mem_of_getElem? (i := 25) (by decide +kernel))) rfl
theorem cwX10_allHeat : gCw yX10_allHeat cX10_allHeat 3 (some .int) 0 := ⟨wd700, wd568, by decide +kernel⟩
theorem wd701 : Cond.instanceMethod ⟨"CopiedFireModel", "allHeat", "()I"⟩ ∈ TB := TBm (tk6 (List.mem_of_getElem? (i := 24) (by decide +kernel))) rfl
theorem wd702 : Cond.selects "CopiedFireModel" ⟨"CopiedFireModel", "allHeat", "()I"⟩ ⟨"CopiedFireModel", "allHeat", "()I"⟩ ∈ TB := TBm (List.mem_of_getElem? (i := 49) (by decide +kernel)) rfl
theorem ciX10_allHeat : gCi yX10_allHeat := ⟨wd701, wd702⟩
theorem wd703 : Cond.code ⟨"CopiedFireModel", "behind", "(II)I"⟩ prog_12_method_50_code 4 (Option.some Jvm.ClassFile.FieldType.int) ∈ TB := TBm (tk6 (List.mem_of_getElem? (i := 29) (by decide +kernel))) rfl
theorem cwX10_behind : gCw yX10_behind cX10_behind 4 (some .int) 2 := ⟨wd703, wd568, by decide +kernel⟩
theorem wd704 : Cond.instanceMethod ⟨"CopiedFireModel", "behind", "(II)I"⟩ ∈ TB := TBm (tk6 (List.mem_of_getElem? (i := 27) (by decide +kernel))) rfl
theorem wd705 : Cond.selects "CopiedFireModel" ⟨"CopiedFireModel", "behind", "(II)I"⟩ ⟨"CopiedFireModel", "behind", "(II)I"⟩ ∈ TB := TBm (tk6 (List.mem_of_getElem? (i := 28) (by decide +kernel))) rfl
theorem ciX10_behind : gCi yX10_behind := ⟨wd704, wd705⟩
theorem wd706 : Cond.code ⟨"CopiedFireModel", "thinks", "()V"⟩ prog_12_method_48_code 1 (Option.none : Option Jvm.ClassFile.FieldType) ∈ TB := TBm (tk6 (List.mem_of_getElem? (i := 33) (by decide +kernel))) rfl
theorem cwX10_thinks : gCw yX10_thinks cX10_thinks 1 none 0 := ⟨wd706, wd568, by decide +kernel⟩
theorem wd707 : Cond.instanceMethod ⟨"CopiedFireModel", "thinks", "()V"⟩ ∈ TB := TBm (tk6 (List.mem_of_getElem? (i := 32) (by decide +kernel))) rfl
theorem wd708 : Cond.selects "CopiedFireModel" ⟨"CopiedFireModel", "thinks", "()V"⟩ ⟨"CopiedFireModel", "thinks", "()V"⟩ ∈ TB := TBm (List.mem_of_getElem? (i := 50) (by decide +kernel)) rfl
theorem ciX10_thinks : gCi yX10_thinks := ⟨wd707, wd708⟩
theorem wd709 : Cond.code ⟨"CopiedFireModel", "copyAll", "([I[I)V"⟩ prog_12_method_4_code 3 (Option.none : Option Jvm.ClassFile.FieldType) ∈ TB := TBm (tk6 (List.mem_of_getElem? (i := 36) (by decide +kernel))) rfl
theorem cwX10_copyAll : gCw yX10_copyAll cX10_copyAll 3 none 2 := ⟨wd709, wd568, by decide +kernel⟩
theorem wd710 : Cond.static ⟨"CopiedFireModel", "copyAll", "([I[I)V"⟩ ∈ TB := TBm (tk6 (List.mem_of_getElem? (i := 35) (by decide +kernel))) rfl
theorem csX10_copyAll : gCs yX10_copyAll := wd710
theorem wd711 : Cond.code ⟨"CopiedFireModel", "putsBack", "()V"⟩ prog_12_method_49_code 1 (Option.none : Option Jvm.ClassFile.FieldType) ∈ TB := TBm (tk6 (List.mem_of_getElem? (i := 40) (by decide +kernel))) rfl
theorem cwX10_putsBack : gCw yX10_putsBack cX10_putsBack 1 none 0 := ⟨wd711, wd568, by decide +kernel⟩
theorem wd712 : Cond.instanceMethod ⟨"CopiedFireModel", "putsBack", "()V"⟩ ∈ TB := TBm (tk6 (List.mem_of_getElem? (i := 39) (by decide +kernel))) rfl
theorem wd713 : Cond.selects "CopiedFireModel" ⟨"CopiedFireModel", "putsBack", "()V"⟩ ⟨"CopiedFireModel", "putsBack", "()V"⟩ ∈ TB := TBm (List.mem_of_getElem? (i := 51) (by decide +kernel)) rfl
theorem ciX10_putsBack : gCi yX10_putsBack := ⟨wd712, wd713⟩
theorem wd714 : Cond.code ⟨"CopiedFireModel", "out", "()I"⟩ prog_12_method_51_code 2 (Option.some Jvm.ClassFile.FieldType.int) ∈ TB := TBm (tk6 (List.mem_of_getElem? (i := 44) (by decide +kernel))) rfl
theorem cwX10_out : gCw yX10_out cX10_out 2 (some .int) 0 := ⟨wd714, wd568, by decide +kernel⟩
theorem wd715 : Cond.instanceMethod ⟨"CopiedFireModel", "out", "()I"⟩ ∈ TB := TBm (tk6 (List.mem_of_getElem? (i := 42) (by decide +kernel))) rfl
theorem wd716 : Cond.selects "CopiedFireModel" ⟨"CopiedFireModel", "out", "()I"⟩ ⟨"CopiedFireModel", "out", "()I"⟩ ∈ TB := TBm (tk6 (List.mem_of_getElem? (i := 43) (by decide +kernel))) rfl
theorem ciX10_out : gCi yX10_out := ⟨wd715, wd716⟩
theorem wd717 : Cond.code ⟨"CopiedFireModel", "hot", "(I)I"⟩ prog_12_method_52_code 3 (Option.some Jvm.ClassFile.FieldType.int) ∈ TB := TBm (tk6 (List.mem_of_getElem? (i := 48) (by decide +kernel))) rfl
theorem cwX10_hot : gCw yX10_hot cX10_hot 3 (some .int) 1 := ⟨wd717, wd568, by decide +kernel⟩
theorem wd718 : Cond.instanceMethod ⟨"CopiedFireModel", "hot", "(I)I"⟩ ∈ TB := TBm (tk6 (List.mem_of_getElem? (i := 46) (by decide +kernel))) rfl
theorem wd719 : Cond.selects "CopiedFireModel" ⟨"CopiedFireModel", "hot", "(I)I"⟩ ⟨"CopiedFireModel", "hot", "(I)I"⟩ ∈ TB := TBm (tk6 (List.mem_of_getElem? (i := 47) (by decide +kernel))) rfl
theorem ciX10_hot : gCi yX10_hot := ⟨wd718, wd719⟩
theorem wd720 : Cond.code ⟨"CopiedFireModel", "shut", "(II)I"⟩ prog_12_method_54_code 8 (Option.some Jvm.ClassFile.FieldType.int) ∈ TB := TBm (tk6 (List.mem_of_getElem? (i := 52) (by decide +kernel))) rfl
theorem cwX10_shut : gCw yX10_shut cX10_shut 8 (some .int) 2 := ⟨wd720, wd568, by decide +kernel⟩
theorem wd721 : Cond.instanceMethod ⟨"CopiedFireModel", "shut", "(II)I"⟩ ∈ TB := TBm (tk6 (List.mem_of_getElem? (i := 50) (by decide +kernel))) rfl
theorem wd722 : Cond.selects "CopiedFireModel" ⟨"CopiedFireModel", "shut", "(II)I"⟩ ⟨"CopiedFireModel", "shut", "(II)I"⟩ ∈ TB := TBm (tk6 (List.mem_of_getElem? (i := 51) (by decide +kernel))) rfl
theorem ciX10_shut : gCi yX10_shut := ⟨wd721, wd722⟩
theorem wd723 : Cond.code ⟨"CopiedFireModel", "burntBy", "(I)I"⟩ prog_12_method_53_code 3 (Option.some Jvm.ClassFile.FieldType.int) ∈ TB := TBm (tk6 (List.mem_of_getElem? (i := 56) (by decide +kernel))) rfl
theorem cwX10_burntBy : gCw yX10_burntBy cX10_burntBy 3 (some .int) 1 := ⟨wd723, wd568, by decide +kernel⟩
theorem wd724 : Cond.instanceMethod ⟨"CopiedFireModel", "burntBy", "(I)I"⟩ ∈ TB := TBm (tk6 (List.mem_of_getElem? (i := 55) (by decide +kernel))) rfl
theorem wd725 : Cond.selects "CopiedFireModel" ⟨"CopiedFireModel", "burntBy", "(I)I"⟩ ⟨"CopiedFireModel", "burntBy", "(I)I"⟩ ∈ TB := TBm (List.mem_of_getElem? (i := 52) (by decide +kernel)) rfl
theorem ciX10_burntBy : gCi yX10_burntBy := ⟨wd724, wd725⟩
theorem wd726 : Cond.code ⟨"CopiedFireModel", "hired", "(II)I"⟩ prog_12_method_55_code 7 (Option.some Jvm.ClassFile.FieldType.int) ∈ TB := TBm (tk6 (List.mem_of_getElem? (i := 60) (by decide +kernel))) rfl
theorem cwX10_hired : gCw yX10_hired cX10_hired 7 (some .int) 2 := ⟨wd726, wd568, by decide +kernel⟩
theorem wd727 : Cond.instanceMethod ⟨"CopiedFireModel", "hired", "(II)I"⟩ ∈ TB := TBm (tk6 (List.mem_of_getElem? (i := 58) (by decide +kernel))) rfl
theorem wd728 : Cond.selects "CopiedFireModel" ⟨"CopiedFireModel", "hired", "(II)I"⟩ ⟨"CopiedFireModel", "hired", "(II)I"⟩ ∈ TB := TBm (tk6 (List.mem_of_getElem? (i := 59) (by decide +kernel))) rfl
theorem ciX10_hired : gCi yX10_hired := ⟨wd727, wd728⟩
theorem wd729 : Cond.code ⟨"CopiedFireModel", "becomes", "(III)I"⟩ prog_12_method_56_code 9 (Option.some Jvm.ClassFile.FieldType.int) ∈ TB := TBm (tk6 (List.mem_of_getElem? (i := 64) (by decide +kernel))) rfl
theorem cwX10_becomes : gCw yX10_becomes cX10_becomes 9 (some .int) 3 := ⟨wd729, wd568, by decide +kernel⟩
theorem wd730 : Cond.instanceMethod ⟨"CopiedFireModel", "becomes", "(III)I"⟩ ∈ TB := TBm (tk6 (List.mem_of_getElem? (i := 62) (by decide +kernel))) rfl
theorem wd731 : Cond.selects "CopiedFireModel" ⟨"CopiedFireModel", "becomes", "(III)I"⟩ ⟨"CopiedFireModel", "becomes", "(III)I"⟩ ∈ TB := TBm (tk6 (List.mem_of_getElem? (i := 63) (by decide +kernel))) rfl
theorem ciX10_becomes : gCi yX10_becomes := ⟨wd730, wd731⟩
theorem wd732 : Cond.code ⟨"CopiedFireModel", "began", "(I)I"⟩ prog_12_method_58_code 5 (Option.some Jvm.ClassFile.FieldType.int) ∈ TB := TBm (tk6 (List.mem_of_getElem? (i := 68) (by decide +kernel))) rfl
theorem cwX10_began : gCw yX10_began cX10_began 5 (some .int) 1 := ⟨wd732, wd568, by decide +kernel⟩
theorem wd733 : Cond.instanceMethod ⟨"CopiedFireModel", "began", "(I)I"⟩ ∈ TB := TBm (tk6 (List.mem_of_getElem? (i := 66) (by decide +kernel))) rfl
theorem wd734 : Cond.selects "CopiedFireModel" ⟨"CopiedFireModel", "began", "(I)I"⟩ ⟨"CopiedFireModel", "began", "(I)I"⟩ ∈ TB := TBm (tk6 (List.mem_of_getElem? (i := 67) (by decide +kernel))) rfl
theorem ciX10_began : gCi yX10_began := ⟨wd733, wd734⟩
theorem wd735 : Cond.code ⟨"CopiedFireModel", "isSheet", "(I)Z"⟩ prog_12_method_81_code 1 (Option.some Jvm.ClassFile.FieldType.boolean) ∈ TB := TBm (tk6 (List.mem_of_getElem? (i := 71) (by decide +kernel))) rfl
theorem cwX10_isSheet : gCw yX10_isSheet cX10_isSheet 1 (some .boolean) 1 := ⟨wd735, wd568, by decide +kernel⟩
theorem wd736 : Cond.static ⟨"CopiedFireModel", "isSheet", "(I)Z"⟩ ∈ TB := TBm (tk6 (List.mem_of_getElem? (i := 70) (by decide +kernel))) rfl
theorem csX10_isSheet : gCs yX10_isSheet := wd736
theorem wd737 : Cond.code ⟨"CopiedFireModel", "isSo", "(I)Z"⟩ prog_12_method_57_code 5 (Option.some Jvm.ClassFile.FieldType.boolean) ∈ TB := TBm (tk6 (List.mem_of_getElem? (i := 76) (by decide +kernel))) rfl
theorem cwX10_isSo : gCw yX10_isSo cX10_isSo 5 (some .boolean) 1 := ⟨wd737, wd568, by decide +kernel⟩
theorem wd738 : Cond.instanceMethod ⟨"CopiedFireModel", "isSo", "(I)Z"⟩ ∈ TB := TBm (tk6 (List.mem_of_getElem? (i := 75) (by decide +kernel))) rfl
theorem wd739 : Cond.selects "CopiedFireModel" ⟨"CopiedFireModel", "isSo", "(I)Z"⟩ ⟨"CopiedFireModel", "isSo", "(I)Z"⟩ ∈ TB := TBm (List.mem_of_getElem? (i := 53) (by decide +kernel)) rfl
theorem ciX10_isSo : gCi yX10_isSo := ⟨wd738, wd739⟩
theorem wd740 : Cond.code ⟨"CopiedFireModel", "bits", "(I)I"⟩ prog_12_method_45_code 3 (Option.some Jvm.ClassFile.FieldType.int) ∈ TB := TBm (tk6 (List.mem_of_getElem? (i := 79) (by decide +kernel))) rfl
theorem cwX10_bits : gCw yX10_bits cX10_bits 3 (some .int) 1 := ⟨wd740, wd568, by decide +kernel⟩
theorem wd741 : Cond.static ⟨"CopiedFireModel", "bits", "(I)I"⟩ ∈ TB := TBm (tk6 (List.mem_of_getElem? (i := 78) (by decide +kernel))) rfl
theorem csX10_bits : gCs yX10_bits := wd741
theorem wd742 : Cond.code ⟨"CopiedFireModel", "like", "(II)I"⟩ prog_12_method_59_code 7 (Option.some Jvm.ClassFile.FieldType.int) ∈ TB := TBm (tk6 (List.mem_of_getElem? (i := 83) (by decide +kernel))) rfl
theorem cwX10_like : gCw yX10_like cX10_like 7 (some .int) 2 := ⟨wd742, wd568, by decide +kernel⟩
theorem wd743 : Cond.instanceMethod ⟨"CopiedFireModel", "like", "(II)I"⟩ ∈ TB := TBm (tk6 (List.mem_of_getElem? (i := 81) (by decide +kernel))) rfl
theorem wd744 : Cond.selects "CopiedFireModel" ⟨"CopiedFireModel", "like", "(II)I"⟩ ⟨"CopiedFireModel", "like", "(II)I"⟩ ∈ TB := TBm (tk6 (List.mem_of_getElem? (i := 82) (by decide +kernel))) rfl
theorem ciX10_like : gCi yX10_like := ⟨wd743, wd744⟩
theorem wd745 : Cond.code ⟨"CopiedFireModel", "fee", "()I"⟩ prog_12_method_60_code 2 (Option.some Jvm.ClassFile.FieldType.int) ∈ TB := TBm (tk6 (List.mem_of_getElem? (i := 87) (by decide +kernel))) rfl
theorem cwX10_fee : gCw yX10_fee cX10_fee 2 (some .int) 0 := ⟨wd745, wd568, by decide +kernel⟩
theorem wd746 : Cond.instanceMethod ⟨"CopiedFireModel", "fee", "()I"⟩ ∈ TB := TBm (tk6 (List.mem_of_getElem? (i := 85) (by decide +kernel))) rfl
theorem wd747 : Cond.selects "CopiedFireModel" ⟨"CopiedFireModel", "fee", "()I"⟩ ⟨"CopiedFireModel", "fee", "()I"⟩ ∈ TB := TBm (tk6 (List.mem_of_getElem? (i := 86) (by decide +kernel))) rfl
theorem ciX10_fee : gCi yX10_fee := ⟨wd746, wd747⟩
theorem wd748 : Cond.code ⟨"CopiedFireModel", "fine", "(I)I"⟩ prog_12_method_61_code 3 (Option.some Jvm.ClassFile.FieldType.int) ∈ TB := TBm (tk6 (List.mem_of_getElem? (i := 91) (by decide +kernel))) rfl
theorem cwX10_fine : gCw yX10_fine cX10_fine 3 (some .int) 1 := ⟨wd748, wd568, by decide +kernel⟩
theorem wd749 : Cond.instanceMethod ⟨"CopiedFireModel", "fine", "(I)I"⟩ ∈ TB := TBm (tk6 (List.mem_of_getElem? (i := 89) (by decide +kernel))) rfl
theorem wd750 : Cond.selects "CopiedFireModel" ⟨"CopiedFireModel", "fine", "(I)I"⟩ ⟨"CopiedFireModel", "fine", "(I)I"⟩ ∈ TB := TBm (tk6 (List.mem_of_getElem? (i := 90) (by decide +kernel))) rfl
theorem ciX10_fine : gCi yX10_fine := ⟨wd749, wd750⟩
theorem wd751 : Cond.code ⟨"CopiedFireModel", "feed", "(III)I"⟩ prog_12_method_62_code 6 (Option.some Jvm.ClassFile.FieldType.int) ∈ TB := TBm (tk6 (List.mem_of_getElem? (i := 95) (by decide +kernel))) rfl
theorem cwX10_feed : gCw yX10_feed cX10_feed 6 (some .int) 3 := ⟨wd751, wd568, by decide +kernel⟩
theorem wd752 : Cond.instanceMethod ⟨"CopiedFireModel", "feed", "(III)I"⟩ ∈ TB := TBm (tk6 (List.mem_of_getElem? (i := 93) (by decide +kernel))) rfl
theorem wd753 : Cond.selects "CopiedFireModel" ⟨"CopiedFireModel", "feed", "(III)I"⟩ ⟨"CopiedFireModel", "feed", "(III)I"⟩ ∈ TB := TBm (tk6 (List.mem_of_getElem? (i := 94) (by decide +kernel))) rfl
theorem ciX10_feed : gCi yX10_feed := ⟨wd752, wd753⟩
theorem wd754 : Cond.code ⟨"CopiedFireModel", "trim", "(I)I"⟩ prog_12_method_63_code 2 (Option.some Jvm.ClassFile.FieldType.int) ∈ TB := TBm (tk6 (List.mem_of_getElem? (i := 99) (by decide +kernel))) rfl
theorem cwX10_trim : gCw yX10_trim cX10_trim 2 (some .int) 1 := ⟨wd754, wd568, by decide +kernel⟩
theorem wd755 : Cond.instanceMethod ⟨"CopiedFireModel", "trim", "(I)I"⟩ ∈ TB := TBm (tk6 (List.mem_of_getElem? (i := 97) (by decide +kernel))) rfl
theorem wd756 : Cond.selects "CopiedFireModel" ⟨"CopiedFireModel", "trim", "(I)I"⟩ ⟨"CopiedFireModel", "trim", "(I)I"⟩ ∈ TB := TBm (tk6 (List.mem_of_getElem? (i := 98) (by decide +kernel))) rfl
theorem ciX10_trim : gCi yX10_trim := ⟨wd755, wd756⟩
theorem wd757 : Cond.code ⟨"CopiedFireModel", "text", "()I"⟩ prog_12_method_75_code 4 (Option.some Jvm.ClassFile.FieldType.int) ∈ TB := TBm (tk6 (List.mem_of_getElem? (i := 103) (by decide +kernel))) rfl
theorem cwX10_text : gCw yX10_text cX10_text 4 (some .int) 0 := ⟨wd757, wd568, by decide +kernel⟩
theorem wd758 : Cond.instanceMethod ⟨"CopiedFireModel", "text", "()I"⟩ ∈ TB := TBm (tk6 (List.mem_of_getElem? (i := 101) (by decide +kernel))) rfl
theorem wd759 : Cond.selects "CopiedFireModel" ⟨"CopiedFireModel", "text", "()I"⟩ ⟨"CopiedFireModel", "text", "()I"⟩ ∈ TB := TBm (tk6 (List.mem_of_getElem? (i := 102) (by decide +kernel))) rfl
theorem ciX10_text : gCi yX10_text := ⟨wd758, wd759⟩
theorem wd760 : Cond.code ⟨"CopiedFireModel", "go", "()V"⟩ prog_12_method_66_code 2 (Option.none : Option Jvm.ClassFile.FieldType) ∈ TB := TBm (tk6 (List.mem_of_getElem? (i := 107) (by decide +kernel))) rfl
theorem cwX10_go : gCw yX10_go cX10_go 2 none 0 := ⟨wd760, wd568, by decide +kernel⟩
theorem wd761 : Cond.instanceMethod ⟨"CopiedFireModel", "go", "()V"⟩ ∈ TB := TBm (tk6 (List.mem_of_getElem? (i := 106) (by decide +kernel))) rfl
theorem wd762 : Cond.selects "CopiedFireModel" ⟨"CopiedFireModel", "go", "()V"⟩ ⟨"CopiedFireModel", "go", "()V"⟩ ∈ TB := TBm (List.mem_of_getElem? (i := 54) (by decide +kernel)) rfl
theorem ciX10_go : gCi yX10_go := ⟨wd761, wd762⟩
theorem wd763 : Cond.code ⟨"CopiedFireModel", "isLetter", "(I)Z"⟩ prog_12_method_64_code 2 (Option.some Jvm.ClassFile.FieldType.boolean) ∈ TB := TBm (tk6 (List.mem_of_getElem? (i := 111) (by decide +kernel))) rfl
theorem cwX10_isLetter : gCw yX10_isLetter cX10_isLetter 2 (some .boolean) 1 := ⟨wd763, wd568, by decide +kernel⟩
theorem wd764 : Cond.instanceMethod ⟨"CopiedFireModel", "isLetter", "(I)Z"⟩ ∈ TB := TBm (tk6 (List.mem_of_getElem? (i := 110) (by decide +kernel))) rfl
theorem wd765 : Cond.selects "CopiedFireModel" ⟨"CopiedFireModel", "isLetter", "(I)Z"⟩ ⟨"CopiedFireModel", "isLetter", "(I)Z"⟩ ∈ TB := TBm (List.mem_of_getElem? (i := 55) (by decide +kernel)) rfl
theorem ciX10_isLetter : gCi yX10_isLetter := ⟨wd764, wd765⟩
theorem wd766 : Cond.code ⟨"CopiedFireModel", "isFigure", "(I)Z"⟩ prog_12_method_65_code 2 (Option.some Jvm.ClassFile.FieldType.boolean) ∈ TB := TBm (tk6 (List.mem_of_getElem? (i := 115) (by decide +kernel))) rfl
theorem cwX10_isFigure : gCw yX10_isFigure cX10_isFigure 2 (some .boolean) 1 := ⟨wd766, wd568, by decide +kernel⟩
theorem wd767 : Cond.instanceMethod ⟨"CopiedFireModel", "isFigure", "(I)Z"⟩ ∈ TB := TBm (tk6 (List.mem_of_getElem? (i := 114) (by decide +kernel))) rfl
theorem wd768 : Cond.selects "CopiedFireModel" ⟨"CopiedFireModel", "isFigure", "(I)Z"⟩ ⟨"CopiedFireModel", "isFigure", "(I)Z"⟩ ∈ TB := TBm (List.mem_of_getElem? (i := 56) (by decide +kernel)) rfl
theorem ciX10_isFigure : gCi yX10_isFigure := ⟨wd767, wd768⟩
theorem wd769 : Cond.code ⟨"CopiedFireModel", "takesKey", "()Z"⟩ prog_12_method_67_code 5 (Option.some Jvm.ClassFile.FieldType.boolean) ∈ TB := TBm (tk6 (List.mem_of_getElem? (i := 119) (by decide +kernel))) rfl
theorem cwX10_takesKey : gCw yX10_takesKey cX10_takesKey 5 (some .boolean) 0 := ⟨wd769, wd568, by decide +kernel⟩
theorem wd770 : Cond.instanceMethod ⟨"CopiedFireModel", "takesKey", "()Z"⟩ ∈ TB := TBm (tk6 (List.mem_of_getElem? (i := 118) (by decide +kernel))) rfl
theorem wd771 : Cond.selects "CopiedFireModel" ⟨"CopiedFireModel", "takesKey", "()Z"⟩ ⟨"CopiedFireModel", "takesKey", "()Z"⟩ ∈ TB := TBm (List.mem_of_getElem? (i := 57) (by decide +kernel)) rfl
theorem ciX10_takesKey : gCi yX10_takesKey := ⟨wd770, wd771⟩
theorem wd772 : Cond.code ⟨"CopiedFireModel", "takesE", "()Z"⟩ prog_12_method_73_code 5 (Option.some Jvm.ClassFile.FieldType.boolean) ∈ TB := TBm (tk6 (List.mem_of_getElem? (i := 123) (by decide +kernel))) rfl
theorem cwX10_takesE : gCw yX10_takesE cX10_takesE 5 (some .boolean) 0 := ⟨wd772, wd568, by decide +kernel⟩
theorem wd773 : Cond.instanceMethod ⟨"CopiedFireModel", "takesE", "()Z"⟩ ∈ TB := TBm (tk6 (List.mem_of_getElem? (i := 122) (by decide +kernel))) rfl
theorem wd774 : Cond.selects "CopiedFireModel" ⟨"CopiedFireModel", "takesE", "()Z"⟩ ⟨"CopiedFireModel", "takesE", "()Z"⟩ ∈ TB := TBm (List.mem_of_getElem? (i := 58) (by decide +kernel)) rfl
theorem ciX10_takesE : gCi yX10_takesE := ⟨wd773, wd774⟩
theorem wd775 : Cond.code ⟨"CopiedFireModel", "takesPart", "()Z"⟩ prog_12_method_72_code 2 (Option.some Jvm.ClassFile.FieldType.boolean) ∈ TB := TBm (tk6 (List.mem_of_getElem? (i := 127) (by decide +kernel))) rfl
theorem cwX10_takesPart : gCw yX10_takesPart cX10_takesPart 2 (some .boolean) 0 := ⟨wd775, wd568, by decide +kernel⟩
theorem wd776 : Cond.instanceMethod ⟨"CopiedFireModel", "takesPart", "()Z"⟩ ∈ TB := TBm (tk6 (List.mem_of_getElem? (i := 126) (by decide +kernel))) rfl
theorem wd777 : Cond.selects "CopiedFireModel" ⟨"CopiedFireModel", "takesPart", "()Z"⟩ ⟨"CopiedFireModel", "takesPart", "()Z"⟩ ∈ TB := TBm (List.mem_of_getElem? (i := 59) (by decide +kernel)) rfl
theorem ciX10_takesPart : gCi yX10_takesPart := ⟨wd776, wd777⟩
theorem wd778 : Cond.code ⟨"CopiedFireModel", "nameOf", "(I)I"⟩ prog_12_method_68_code 2 (Option.some Jvm.ClassFile.FieldType.int) ∈ TB := TBm (tk6 (List.mem_of_getElem? (i := 131) (by decide +kernel))) rfl
theorem cwX10_nameOf : gCw yX10_nameOf cX10_nameOf 2 (some .int) 1 := ⟨wd778, wd568, by decide +kernel⟩
theorem wd779 : Cond.instanceMethod ⟨"CopiedFireModel", "nameOf", "(I)I"⟩ ∈ TB := TBm (tk6 (List.mem_of_getElem? (i := 130) (by decide +kernel))) rfl
theorem wd780 : Cond.selects "CopiedFireModel" ⟨"CopiedFireModel", "nameOf", "(I)I"⟩ ⟨"CopiedFireModel", "nameOf", "(I)I"⟩ ∈ TB := TBm (List.mem_of_getElem? (i := 60) (by decide +kernel)) rfl
theorem ciX10_nameOf : gCi yX10_nameOf := ⟨wd779, wd780⟩
theorem wd781 : Cond.code ⟨"CopiedFireModel", "settle", "(I)V"⟩ prog_12_method_70_code 2 (Option.none : Option Jvm.ClassFile.FieldType) ∈ TB := TBm (tk6 (List.mem_of_getElem? (i := 135) (by decide +kernel))) rfl
theorem cwX10_settle : gCw yX10_settle cX10_settle 2 none 1 := ⟨wd781, wd568, by decide +kernel⟩
theorem wd782 : Cond.instanceMethod ⟨"CopiedFireModel", "settle", "(I)V"⟩ ∈ TB := TBm (tk6 (List.mem_of_getElem? (i := 134) (by decide +kernel))) rfl
theorem wd783 : Cond.selects "CopiedFireModel" ⟨"CopiedFireModel", "settle", "(I)V"⟩ ⟨"CopiedFireModel", "settle", "(I)V"⟩ ∈ TB := TBm (List.mem_of_getElem? (i := 61) (by decide +kernel)) rfl
theorem ciX10_settle : gCi yX10_settle := ⟨wd782, wd783⟩
theorem wd784 : Cond.code ⟨"CopiedFireModel", "rank", "(I)I"⟩ prog_12_method_69_code 1 (Option.some Jvm.ClassFile.FieldType.int) ∈ TB := TBm (tk6 (List.mem_of_getElem? (i := 138) (by decide +kernel))) rfl
theorem cwX10_rank : gCw yX10_rank cX10_rank 1 (some .int) 1 := ⟨wd784, wd568, by decide +kernel⟩
theorem wd785 : Cond.static ⟨"CopiedFireModel", "rank", "(I)I"⟩ ∈ TB := TBm (tk6 (List.mem_of_getElem? (i := 137) (by decide +kernel))) rfl
theorem csX10_rank : gCs yX10_rank := wd785
theorem wd786 : Cond.code ⟨"CopiedFireModel", "notsOpen", "()I"⟩ prog_12_method_74_code 3 (Option.some Jvm.ClassFile.FieldType.int) ∈ TB := TBm (tk6 (List.mem_of_getElem? (i := 142) (by decide +kernel))) rfl
theorem cwX10_notsOpen : gCw yX10_notsOpen cX10_notsOpen 3 (some .int) 0 := ⟨wd786, wd568, by decide +kernel⟩
theorem wd787 : Cond.instanceMethod ⟨"CopiedFireModel", "notsOpen", "()I"⟩ ∈ TB := TBm (tk6 (List.mem_of_getElem? (i := 141) (by decide +kernel))) rfl
theorem wd788 : Cond.selects "CopiedFireModel" ⟨"CopiedFireModel", "notsOpen", "()I"⟩ ⟨"CopiedFireModel", "notsOpen", "()I"⟩ ∈ TB := TBm (List.mem_of_getElem? (i := 62) (by decide +kernel)) rfl
theorem ciX10_notsOpen : gCi yX10_notsOpen := ⟨wd787, wd788⟩
theorem wd789 : Cond.code ⟨"CopiedFireModel", "signHere", "()I"⟩ prog_12_method_71_code 1 (Option.some Jvm.ClassFile.FieldType.int) ∈ TB := TBm (tk6 (List.mem_of_getElem? (i := 146) (by decide +kernel))) rfl
theorem cwX10_signHere : gCw yX10_signHere cX10_signHere 1 (some .int) 0 := ⟨wd789, wd568, by decide +kernel⟩
theorem wd790 : Cond.instanceMethod ⟨"CopiedFireModel", "signHere", "()I"⟩ ∈ TB := TBm (tk6 (List.mem_of_getElem? (i := 145) (by decide +kernel))) rfl
theorem wd791 : Cond.selects "CopiedFireModel" ⟨"CopiedFireModel", "signHere", "()I"⟩ ⟨"CopiedFireModel", "signHere", "()I"⟩ ∈ TB := TBm (List.mem_of_getElem? (i := 63) (by decide +kernel)) rfl
theorem ciX10_signHere : gCi yX10_signHere := ⟨wd790, wd791⟩
theorem wd792 : Cond.code ⟨"CopiedFireModel", "textTold", "(II)I"⟩ prog_12_method_76_code 3 (Option.some Jvm.ClassFile.FieldType.int) ∈ TB := TBm (tk6 (List.mem_of_getElem? (i := 150) (by decide +kernel))) rfl
theorem cwX10_textTold : gCw yX10_textTold cX10_textTold 3 (some .int) 2 := ⟨wd792, wd568, by decide +kernel⟩
theorem wd793 : Cond.instanceMethod ⟨"CopiedFireModel", "textTold", "(II)I"⟩ ∈ TB := TBm (tk6 (List.mem_of_getElem? (i := 148) (by decide +kernel))) rfl
theorem wd794 : Cond.selects "CopiedFireModel" ⟨"CopiedFireModel", "textTold", "(II)I"⟩ ⟨"CopiedFireModel", "textTold", "(II)I"⟩ ∈ TB := TBm (tk6 (List.mem_of_getElem? (i := 149) (by decide +kernel))) rfl
theorem ciX10_textTold : gCi yX10_textTold := ⟨wd793, wd794⟩
theorem wd795 : Cond.code ⟨"CopiedFireModel", "why", "(I)I"⟩ prog_12_method_78_code 3 (Option.some Jvm.ClassFile.FieldType.int) ∈ TB := TBm (tk6 (List.mem_of_getElem? (i := 154) (by decide +kernel))) rfl
theorem cwX10_why : gCw yX10_why cX10_why 3 (some .int) 1 := ⟨wd795, wd568, by decide +kernel⟩
theorem wd796 : Cond.instanceMethod ⟨"CopiedFireModel", "why", "(I)I"⟩ ∈ TB := TBm (tk6 (List.mem_of_getElem? (i := 152) (by decide +kernel))) rfl
theorem wd797 : Cond.selects "CopiedFireModel" ⟨"CopiedFireModel", "why", "(I)I"⟩ ⟨"CopiedFireModel", "why", "(I)I"⟩ ∈ TB := TBm (tk6 (List.mem_of_getElem? (i := 153) (by decide +kernel))) rfl
theorem ciX10_why : gCi yX10_why := ⟨wd796, wd797⟩
theorem wd798 : Cond.code ⟨"CopiedFireModel", "sheet", "(III)I"⟩ prog_12_method_83_code 5 (Option.some Jvm.ClassFile.FieldType.int) ∈ TB := TBm (tk6 (List.mem_of_getElem? (i := 158) (by decide +kernel))) rfl
theorem cwX10_sheet : gCw yX10_sheet cX10_sheet 5 (some .int) 3 := ⟨wd798, wd568, by decide +kernel⟩
theorem wd799 : Cond.instanceMethod ⟨"CopiedFireModel", "sheet", "(III)I"⟩ ∈ TB := TBm (tk6 (List.mem_of_getElem? (i := 156) (by decide +kernel))) rfl
theorem wd800 : Cond.selects "CopiedFireModel" ⟨"CopiedFireModel", "sheet", "(III)I"⟩ ⟨"CopiedFireModel", "sheet", "(III)I"⟩ ∈ TB := TBm (tk6 (List.mem_of_getElem? (i := 157) (by decide +kernel))) rfl
theorem ciX10_sheet : gCi yX10_sheet := ⟨wd799, wd800⟩
theorem wd801 : Cond.code ⟨"CopiedFireModel", "mark", "(III)I"⟩ prog_12_method_84_code 4 (Option.some Jvm.ClassFile.FieldType.int) ∈ TB := TBm (tk6 (List.mem_of_getElem? (i := 163) (by decide +kernel))) rfl
theorem cwX10_mark : gCw yX10_mark cX10_mark 4 (some .int) 3 := ⟨wd801, wd568, by decide +kernel⟩
theorem wd802 : Cond.instanceMethod ⟨"CopiedFireModel", "mark", "(III)I"⟩ ∈ TB := TBm (tk6 (List.mem_of_getElem? (i := 161) (by decide +kernel))) rfl
theorem wd803 : Cond.selects "CopiedFireModel" ⟨"CopiedFireModel", "mark", "(III)I"⟩ ⟨"CopiedFireModel", "mark", "(III)I"⟩ ∈ TB := TBm (tk6 (List.mem_of_getElem? (i := 162) (by decide +kernel))) rfl
theorem ciX10_mark : gCi yX10_mark := ⟨wd802, wd803⟩
theorem wd804 : Cond.code ⟨"CopiedFireModel", "pour", "(I)I"⟩ prog_12_method_85_code 6 (Option.some Jvm.ClassFile.FieldType.int) ∈ TB := TBm (tk6 (List.mem_of_getElem? (i := 170) (by decide +kernel))) rfl
theorem cwX10_pour : gCw yX10_pour cX10_pour 6 (some .int) 1 := ⟨wd804, wd568, by decide +kernel⟩
theorem wd805 : Cond.instanceMethod ⟨"CopiedFireModel", "pour", "(I)I"⟩ ∈ TB := TBm (tk6 (List.mem_of_getElem? (i := 168) (by decide +kernel))) rfl
theorem wd806 : Cond.selects "CopiedFireModel" ⟨"CopiedFireModel", "pour", "(I)I"⟩ ⟨"CopiedFireModel", "pour", "(I)I"⟩ ∈ TB := TBm (tk6 (List.mem_of_getElem? (i := 169) (by decide +kernel))) rfl
theorem ciX10_pour : gCi yX10_pour := ⟨wd805, wd806⟩
theorem wd807 : Cond.code ⟨"CopiedFireModel", "reads", "(I)I"⟩ prog_12_method_86_code 4 (Option.some Jvm.ClassFile.FieldType.int) ∈ TB := TBm (tk6 (List.mem_of_getElem? (i := 174) (by decide +kernel))) rfl
theorem cwX10_reads : gCw yX10_reads cX10_reads 4 (some .int) 1 := ⟨wd807, wd568, by decide +kernel⟩
theorem wd808 : Cond.instanceMethod ⟨"CopiedFireModel", "reads", "(I)I"⟩ ∈ TB := TBm (tk6 (List.mem_of_getElem? (i := 172) (by decide +kernel))) rfl
theorem wd809 : Cond.selects "CopiedFireModel" ⟨"CopiedFireModel", "reads", "(I)I"⟩ ⟨"CopiedFireModel", "reads", "(I)I"⟩ ∈ TB := TBm (tk6 (List.mem_of_getElem? (i := 173) (by decide +kernel))) rfl
theorem ciX10_reads : gCi yX10_reads := ⟨wd808, wd809⟩
theorem wd810 : Cond.code ⟨"CopiedFireModel", "copy", "(IIIII)I"⟩ prog_12_method_87_code 7 (Option.some Jvm.ClassFile.FieldType.int) ∈ TB := TBm (tk6 (List.mem_of_getElem? (i := 178) (by decide +kernel))) rfl
theorem cwX10_copy : gCw yX10_copy cX10_copy 7 (some .int) 5 := ⟨wd810, wd568, by decide +kernel⟩
theorem wd811 : Cond.instanceMethod ⟨"CopiedFireModel", "copy", "(IIIII)I"⟩ ∈ TB := TBm (tk6 (List.mem_of_getElem? (i := 176) (by decide +kernel))) rfl
theorem wd812 : Cond.selects "CopiedFireModel" ⟨"CopiedFireModel", "copy", "(IIIII)I"⟩ ⟨"CopiedFireModel", "copy", "(IIIII)I"⟩ ∈ TB := TBm (tk6 (List.mem_of_getElem? (i := 177) (by decide +kernel))) rfl
theorem ciX10_copy : gCi yX10_copy := ⟨wd811, wd812⟩
theorem wd813 : Cond.code ⟨"CopiedFireModel", "lay", "(III)I"⟩ prog_12_method_88_code 6 (Option.some Jvm.ClassFile.FieldType.int) ∈ TB := TBm (tk6 (List.mem_of_getElem? (i := 182) (by decide +kernel))) rfl
theorem cwX10_lay : gCw yX10_lay cX10_lay 6 (some .int) 3 := ⟨wd813, wd568, by decide +kernel⟩
theorem wd814 : Cond.instanceMethod ⟨"CopiedFireModel", "lay", "(III)I"⟩ ∈ TB := TBm (tk6 (List.mem_of_getElem? (i := 180) (by decide +kernel))) rfl
theorem wd815 : Cond.selects "CopiedFireModel" ⟨"CopiedFireModel", "lay", "(III)I"⟩ ⟨"CopiedFireModel", "lay", "(III)I"⟩ ∈ TB := TBm (tk6 (List.mem_of_getElem? (i := 181) (by decide +kernel))) rfl
theorem ciX10_lay : gCi yX10_lay := ⟨wd814, wd815⟩
theorem wd816 : Cond.code ⟨"CopiedFireModel", "isSlot", "(I)Z"⟩ prog_12_method_82_code 1 (Option.some Jvm.ClassFile.FieldType.boolean) ∈ TB := TBm (tk6 (List.mem_of_getElem? (i := 185) (by decide +kernel))) rfl
theorem cwX10_isSlot : gCw yX10_isSlot cX10_isSlot 1 (some .boolean) 1 := ⟨wd816, wd568, by decide +kernel⟩
theorem wd817 : Cond.static ⟨"CopiedFireModel", "isSlot", "(I)Z"⟩ ∈ TB := TBm (tk6 (List.mem_of_getElem? (i := 184) (by decide +kernel))) rfl
theorem csX10_isSlot : gCs yX10_isSlot := wd817
theorem wd818 : Cond.code ⟨"CopiedFireModel", "ask", "(II)I"⟩ prog_12_method_89_code 3 (Option.some Jvm.ClassFile.FieldType.int) ∈ TB := TBm (tk6 (List.mem_of_getElem? (i := 189) (by decide +kernel))) rfl
theorem cwX10_ask : gCw yX10_ask cX10_ask 3 (some .int) 2 := ⟨wd818, wd568, by decide +kernel⟩
theorem wd819 : Cond.instanceMethod ⟨"CopiedFireModel", "ask", "(II)I"⟩ ∈ TB := TBm (tk6 (List.mem_of_getElem? (i := 187) (by decide +kernel))) rfl
theorem wd820 : Cond.selects "CopiedFireModel" ⟨"CopiedFireModel", "ask", "(II)I"⟩ ⟨"CopiedFireModel", "ask", "(II)I"⟩ ∈ TB := TBm (tk6 (List.mem_of_getElem? (i := 188) (by decide +kernel))) rfl
theorem ciX10_ask : gCi yX10_ask := ⟨wd819, wd820⟩
theorem wd821 : Cond.code ⟨"CopiedFireModel", "item", "(II)I"⟩ prog_12_method_90_code 4 (Option.some Jvm.ClassFile.FieldType.int) ∈ TB := TBm (tk6 (List.mem_of_getElem? (i := 193) (by decide +kernel))) rfl
theorem cwX10_item : gCw yX10_item cX10_item 4 (some .int) 2 := ⟨wd821, wd568, by decide +kernel⟩
theorem wd822 : Cond.instanceMethod ⟨"CopiedFireModel", "item", "(II)I"⟩ ∈ TB := TBm (tk6 (List.mem_of_getElem? (i := 191) (by decide +kernel))) rfl
theorem wd823 : Cond.selects "CopiedFireModel" ⟨"CopiedFireModel", "item", "(II)I"⟩ ⟨"CopiedFireModel", "item", "(II)I"⟩ ∈ TB := TBm (tk6 (List.mem_of_getElem? (i := 192) (by decide +kernel))) rfl
theorem ciX10_item : gCi yX10_item := ⟨wd822, wd823⟩
theorem wd824 : Cond.code ⟨"CopiedFireModel", "rest", "(II)I"⟩ prog_12_method_91_code 3 (Option.some Jvm.ClassFile.FieldType.int) ∈ TB := TBm (tk6 (List.mem_of_getElem? (i := 197) (by decide +kernel))) rfl
theorem cwX10_rest : gCw yX10_rest cX10_rest 3 (some .int) 2 := ⟨wd824, wd568, by decide +kernel⟩
theorem wd825 : Cond.instanceMethod ⟨"CopiedFireModel", "rest", "(II)I"⟩ ∈ TB := TBm (tk6 (List.mem_of_getElem? (i := 195) (by decide +kernel))) rfl
theorem wd826 : Cond.selects "CopiedFireModel" ⟨"CopiedFireModel", "rest", "(II)I"⟩ ⟨"CopiedFireModel", "rest", "(II)I"⟩ ∈ TB := TBm (tk6 (List.mem_of_getElem? (i := 196) (by decide +kernel))) rfl
theorem ciX10_rest : gCi yX10_rest := ⟨wd825, wd826⟩
theorem wd827 : Cond.code ⟨"CopiedFireModel", "tell", "(I)I"⟩ prog_12_method_92_code 2 (Option.some Jvm.ClassFile.FieldType.int) ∈ TB := TBm (tk6 (List.mem_of_getElem? (i := 202) (by decide +kernel))) rfl
theorem cwX10_tell : gCw yX10_tell cX10_tell 2 (some .int) 1 := ⟨wd827, wd568, by decide +kernel⟩
theorem wd828 : Cond.instanceMethod ⟨"CopiedFireModel", "tell", "(I)I"⟩ ∈ TB := TBm (tk6 (List.mem_of_getElem? (i := 200) (by decide +kernel))) rfl
theorem wd829 : Cond.selects "CopiedFireModel" ⟨"CopiedFireModel", "tell", "(I)I"⟩ ⟨"CopiedFireModel", "tell", "(I)I"⟩ ∈ TB := TBm (tk6 (List.mem_of_getElem? (i := 201) (by decide +kernel))) rfl
theorem ciX10_tell : gCi yX10_tell := ⟨wd828, wd829⟩
theorem wd830 : Cond.code ⟨"CopiedFireModel", "check", "(I)I"⟩ prog_12_method_93_code 6 (Option.some Jvm.ClassFile.FieldType.int) ∈ TB := TBm (tk6 (List.mem_of_getElem? (i := 206) (by decide +kernel))) rfl
theorem cwX10_check : gCw yX10_check cX10_check 6 (some .int) 1 := ⟨wd830, wd568, by decide +kernel⟩
theorem wd831 : Cond.instanceMethod ⟨"CopiedFireModel", "check", "(I)I"⟩ ∈ TB := TBm (tk6 (List.mem_of_getElem? (i := 204) (by decide +kernel))) rfl
theorem wd832 : Cond.selects "CopiedFireModel" ⟨"CopiedFireModel", "check", "(I)I"⟩ ⟨"CopiedFireModel", "check", "(I)I"⟩ ∈ TB := TBm (tk6 (List.mem_of_getElem? (i := 205) (by decide +kernel))) rfl
theorem ciX10_check : gCi yX10_check := ⟨wd831, wd832⟩
theorem wd833 : Cond.code ⟨"CopiedFireModel", "keep", "()I"⟩ prog_12_method_94_code 1 (Option.some Jvm.ClassFile.FieldType.int) ∈ TB := TBm (tk6 (List.mem_of_getElem? (i := 210) (by decide +kernel))) rfl
theorem cwX10_keep : gCw yX10_keep cX10_keep 1 (some .int) 0 := ⟨wd833, wd568, by decide +kernel⟩
theorem wd834 : Cond.instanceMethod ⟨"CopiedFireModel", "keep", "()I"⟩ ∈ TB := TBm (tk6 (List.mem_of_getElem? (i := 208) (by decide +kernel))) rfl
theorem wd835 : Cond.selects "CopiedFireModel" ⟨"CopiedFireModel", "keep", "()I"⟩ ⟨"CopiedFireModel", "keep", "()I"⟩ ∈ TB := TBm (tk6 (List.mem_of_getElem? (i := 209) (by decide +kernel))) rfl
theorem ciX10_keep : gCi yX10_keep := ⟨wd834, wd835⟩
theorem wd836 : Cond.code ⟨"CopiedFireModel", "back", "()I"⟩ prog_12_method_95_code 1 (Option.some Jvm.ClassFile.FieldType.int) ∈ TB := TBm (tk6 (List.mem_of_getElem? (i := 214) (by decide +kernel))) rfl
theorem cwX10_back : gCw yX10_back cX10_back 1 (some .int) 0 := ⟨wd836, wd568, by decide +kernel⟩
theorem wd837 : Cond.instanceMethod ⟨"CopiedFireModel", "back", "()I"⟩ ∈ TB := TBm (tk6 (List.mem_of_getElem? (i := 212) (by decide +kernel))) rfl
theorem wd838 : Cond.selects "CopiedFireModel" ⟨"CopiedFireModel", "back", "()I"⟩ ⟨"CopiedFireModel", "back", "()I"⟩ ∈ TB := TBm (tk6 (List.mem_of_getElem? (i := 213) (by decide +kernel))) rfl
theorem ciX10_back : gCi yX10_back := ⟨wd837, wd838⟩
theorem wd839 : Cond.code ⟨"CopiedFireModel", "count", "(I)I"⟩ prog_12_method_96_code 2 (Option.some Jvm.ClassFile.FieldType.int) ∈ TB := TBm (tk6 (List.mem_of_getElem? (i := 218) (by decide +kernel))) rfl
theorem cwX10_count : gCw yX10_count cX10_count 2 (some .int) 1 := ⟨wd839, wd568, by decide +kernel⟩
theorem wd840 : Cond.instanceMethod ⟨"CopiedFireModel", "count", "(I)I"⟩ ∈ TB := TBm (tk6 (List.mem_of_getElem? (i := 216) (by decide +kernel))) rfl
theorem wd841 : Cond.selects "CopiedFireModel" ⟨"CopiedFireModel", "count", "(I)I"⟩ ⟨"CopiedFireModel", "count", "(I)I"⟩ ∈ TB := TBm (tk6 (List.mem_of_getElem? (i := 217) (by decide +kernel))) rfl
theorem ciX10_count : gCi yX10_count := ⟨wd840, wd841⟩
theorem wd842 : Cond.methodLink "CopiedFireLaw" 9 ⟨"CopiedFire", "<init>", "()V"⟩ ∈ TB := TBm (tk1 (List.mem_of_getElem? (i := 23) (by decide +kernel))) rfl
theorem cnL_9 : gCn RL 9 yX9_init := Or.inl wd842
theorem wd843 : Cond.methodLink "CopiedFire" 9 ⟨"CopiedFire$Laws", "<init>", "()V"⟩ ∈ TB := TBm (tk1 (List.mem_of_getElem? (i := 31) (by decide +kernel))) rfl
theorem cnX9_9 : gCn RX9 9 yX2_init := Or.inl wd843
theorem wd844 : Cond.methodLink "CopiedFire" 18 ⟨"CopiedFire$House", "<init>", "(LCopiedFire$Laws;)V"⟩ ∈ TB := TBm (tk1 (List.mem_of_getElem? (i := 47) (by decide +kernel))) rfl
theorem cnX9_18 : gCn RX9 18 yX0_init := Or.inl wd844
theorem wd845 : Cond.methodLink "CopiedFire$House" 40 ⟨"java/util/Arrays", "fill", "([II)V"⟩ ∈ TB := TBm (tk1 (List.mem_of_getElem? (i := 51) (by decide +kernel))) rfl
theorem cnX0_40 : gCn RX0 40 yJA_fill := Or.inl wd845
theorem wd846 : Cond.methodLink "CopiedFire" 33 ⟨"CopiedFire$Seating", "<init>", "()V"⟩ ∈ TB := TBm (tk1 (List.mem_of_getElem? (i := 134) (by decide +kernel))) rfl
theorem cnX9_33 : gCn RX9 33 yX4_init := Or.inl wd846
theorem wd847 : Cond.methodLink "CopiedFire" 40 ⟨"CopiedFire$Tape", "<init>", "()V"⟩ ∈ TB := TBm (tk1 (List.mem_of_getElem? (i := 148) (by decide +kernel))) rfl
theorem cnX9_40 : gCn RX9 40 yX7_init := Or.inl wd847
theorem wd848 : Cond.methodLink "CopiedFire" 47 ⟨"CopiedFire$Reader", "<init>", "(LCopiedFire$Tape;)V"⟩ ∈ TB := TBm (tk1 (List.mem_of_getElem? (i := 164) (by decide +kernel))) rfl
theorem cnX9_47 : gCn RX9 47 yX3_init := Or.inl wd848
theorem wd849 : Cond.methodLink "CopiedFire" 60 ⟨"CopiedFire$Sheet", "<init>", "()V"⟩ ∈ TB := TBm (tk1 (List.mem_of_getElem? (i := 201) (by decide +kernel))) rfl
theorem cnX9_60 : gCn RX9 60 yX5_init := Or.inl wd849
theorem wd850 : Cond.methodLink "CopiedFire" 67 ⟨"CopiedFire$Slot", "<init>", "()V"⟩ ∈ TB := TBm (tk1 (List.mem_of_getElem? (i := 221) (by decide +kernel))) rfl
theorem cnX9_67 : gCn RX9 67 yX6_init := Or.inl wd850
theorem wd851 : Cond.methodLink "CopiedFire$Slot" 11 ⟨"CopiedFire$Sheet", "<init>", "()V"⟩ ∈ TB := TBm (tk1 (List.mem_of_getElem? (i := 226) (by decide +kernel))) rfl
theorem cnX6_11 : gCn RX6 11 yX5_init := Or.inl wd851
theorem wd852 : Cond.methodLink "CopiedFireLaw" 13 ⟨"CopiedFire", "thing", "(IIII)I"⟩ ∈ TB := TBm (tk2 (List.mem_of_getElem? (i := 45) (by decide +kernel))) rfl
theorem cnL_13 : gCn RL 13 yX9_thing := Or.inl wd852
theorem wd853 : Cond.methodLink "CopiedFire" 83 ⟨"CopiedFire", "isKind", "(I)Z"⟩ ∈ TB := TBm (tk2 (List.mem_of_getElem? (i := 49) (by decide +kernel))) rfl
theorem cnX9_83 : gCn RX9 83 yX9_isKind := Or.inl wd853
theorem wd854 : Cond.methodLink "CopiedFire" 90 ⟨"CopiedFire", "within", "(III)Z"⟩ ∈ TB := TBm (tk2 (List.mem_of_getElem? (i := 52) (by decide +kernel))) rfl
theorem cnX9_90 : gCn RX9 90 yX9_within := Or.inl wd854
theorem wd855 : Cond.methodLink "CopiedFire" 87 ⟨"CopiedFire", "isRoom", "(I)Z"⟩ ∈ TB := TBm (tk2 (List.mem_of_getElem? (i := 55) (by decide +kernel))) rfl
theorem cnX9_87 : gCn RX9 87 yX9_isRoom := Or.inl wd855
theorem wd856 : Cond.methodLink "CopiedFire" 99 ⟨"CopiedFire$House", "addThing", "(IIII)I"⟩ ∈ TB := TBm (tk2 (List.mem_of_getElem? (i := 60) (by decide +kernel))) rfl
theorem cnX9_99 : gCn RX9 99 yX0_addThing := Or.inl wd856
theorem wd857 : Cond.methodLink "CopiedFireLaw" 18 ⟨"CopiedFire", "told", "(II)I"⟩ ∈ TB := TBm (tk2 (List.mem_of_getElem? (i := 64) (by decide +kernel))) rfl
theorem cnL_18 : gCn RL 18 yX9_told := Or.inl wd857
theorem wd858 : Cond.methodLink "CopiedFire" 103 ⟨"CopiedFire", "isThing", "(I)Z"⟩ ∈ TB := TBm (tk2 (List.mem_of_getElem? (i := 68) (by decide +kernel))) rfl
theorem cnX9_103 : gCn RX9 103 yX9_isThing := Or.inl wd858
theorem wd859 : Cond.methodLink "CopiedFire" 118 ⟨"CopiedFire$House", "burnsOf", "(I)I"⟩ ∈ TB := TBm (tk2 (List.mem_of_getElem? (i := 72) (by decide +kernel))) rfl
theorem cnX9_118 : gCn RX9 118 yX0_burnsOf := Or.inl wd859
theorem wd860 : Cond.methodLink "CopiedFire$House" 95 ⟨"CopiedFire$Laws", "work", "(IIII)I"⟩ ∈ TB := TBm (tk2 (List.mem_of_getElem? (i := 76) (by decide +kernel))) rfl
theorem cnX0_95 : gCn RX0 95 yX2_work := Or.inl wd860
theorem wd861 : Cond.methodLink "CopiedFire$Laws" 25 ⟨"CopiedFire$Laws", "has", "(I)Z"⟩ ∈ TB := TBm (tk2 (List.mem_of_getElem? (i := 80) (by decide +kernel))) rfl
theorem cnX2_25 : gCn RX2 25 yX2_has := Or.inl wd861
theorem wn37 : Cond.methodLinkNest "CopiedFire$Laws" 21 ⟨"CopiedFire", "within", "(III)Z"⟩ "CopiedFire" ∈ NW := NWm (tk2 (List.mem_of_getElem? (i := 84) (by decide +kernel))) rfl
theorem cnX2_21 : gCn RX2 21 yX9_within := Or.inr ⟨_, wn37⟩
theorem wd862 : Cond.methodLink "CopiedFire$Laws" 40 ⟨"CopiedFire$Laws", "joined", "(III)I"⟩ ∈ TB := TBm (tk2 (List.mem_of_getElem? (i := 85) (by decide +kernel))) rfl
theorem cnX2_40 : gCn RX2 40 yX2_joined := Or.inl wd862
theorem wn38 : Cond.methodLinkNest "CopiedFire$House" 100 ⟨"CopiedFire", "held", "(II)I"⟩ "CopiedFire" ∈ NW := NWm (tk2 (List.mem_of_getElem? (i := 88) (by decide +kernel))) rfl
theorem cnX0_100 : gCn RX0 100 yX9_held := Or.inr ⟨_, wn38⟩
theorem wd863 : Cond.methodLink "CopiedFire" 143 ⟨"java/lang/Math", "min", "(II)I"⟩ ∈ TB := TBm (tk2 (List.mem_of_getElem? (i := 91) (by decide +kernel))) rfl
theorem cnX9_143 : Cond.methodLink RX9 143 Lib.Math.min.name ∈ TB := wd863
theorem wd864 : Cond.methodLink "CopiedFire" 336 ⟨"java/lang/Math", "max", "(II)I"⟩ ∈ TB := TBm (tk2 (List.mem_of_getElem? (i := 94) (by decide +kernel))) rfl
theorem cnX9_336 : Cond.methodLink RX9 336 Lib.Math.max.name ∈ TB := wd864
theorem wd865 : Cond.methodLink "CopiedFire$House" 103 ⟨"CopiedFire$Kinds", "burns", "(II)I"⟩ ∈ TB := TBm (tk2 (List.mem_of_getElem? (i := 97) (by decide +kernel))) rfl
theorem cnX0_103 : gCn RX0 103 yX1_burns := Or.inl wd865
theorem wd866 : Cond.methodLink "CopiedFire$Kinds" 13 ⟨"java/lang/Math", "max", "(II)I"⟩ ∈ TB := TBm (tk2 (List.mem_of_getElem? (i := 100) (by decide +kernel))) rfl
theorem cnX1_13 : Cond.methodLink RX1 13 Lib.Math.max.name ∈ TB := wd866
theorem wd867 : Cond.methodLink "CopiedFire" 122 ⟨"CopiedFire$Kinds", "gives", "(II)I"⟩ ∈ TB := TBm (tk2 (List.mem_of_getElem? (i := 101) (by decide +kernel))) rfl
theorem cnX9_122 : gCn RX9 122 yX1_gives := Or.inl wd867
theorem wd868 : Cond.methodLink "CopiedFire" 128 ⟨"CopiedFire$Kinds", "catchesFrom", "(I)I"⟩ ∈ TB := TBm (tk2 (List.mem_of_getElem? (i := 104) (by decide +kernel))) rfl
theorem cnX9_128 : gCn RX9 128 yX1_catchesFrom := Or.inl wd868
theorem wd869 : Cond.methodLink "CopiedFire" 131 ⟨"CopiedFire$Kinds", "worth", "(II)I"⟩ ∈ TB := TBm (tk2 (List.mem_of_getElem? (i := 107) (by decide +kernel))) rfl
theorem cnX9_131 : gCn RX9 131 yX1_worth := Or.inl wd869
theorem wd870 : Cond.methodLink "CopiedFireLaw" 23 ⟨"CopiedFire", "as", "(II)I"⟩ ∈ TB := TBm (tk2 (List.mem_of_getElem? (i := 110) (by decide +kernel))) rfl
theorem cnL_23 : gCn RL 23 yX9_as := Or.inl wd870
theorem wd871 : Cond.methodLink "CopiedFire" 134 ⟨"CopiedFire$Kinds", "isOf", "(II)Z"⟩ ∈ TB := TBm (tk2 (List.mem_of_getElem? (i := 114) (by decide +kernel))) rfl
theorem cnX9_134 : gCn RX9 134 yX1_isOf := Or.inl wd871
theorem wd872 : Cond.methodLink "CopiedFireLaw" 27 ⟨"CopiedFire", "turns", "(II)I"⟩ ∈ TB := TBm (tk2 (List.mem_of_getElem? (i := 120) (by decide +kernel))) rfl
theorem cnL_27 : gCn RL 27 yX9_turns := Or.inl wd872
theorem wd873 : Cond.methodLink "CopiedFireLaw" 31 ⟨"CopiedFire", "set", "(III)I"⟩ ∈ TB := TBm (tk2 (List.mem_of_getElem? (i := 124) (by decide +kernel))) rfl
theorem cnL_31 : gCn RL 31 yX9_set := Or.inl wd873
theorem wd874 : Cond.methodLink "CopiedFire" 139 ⟨"CopiedFire", "replaced", "([IIII)I"⟩ ∈ TB := TBm (tk2 (List.mem_of_getElem? (i := 128) (by decide +kernel))) rfl
theorem cnX9_139 : gCn RX9 139 yX9_replaced := Or.inl wd874
theorem wd875 : Cond.methodLink "CopiedFireLaw" 36 ⟨"CopiedFire", "deal", "(I)I"⟩ ∈ TB := TBm (tk2 (List.mem_of_getElem? (i := 131) (by decide +kernel))) rfl
theorem cnL_36 : gCn RL 36 yX9_deal := Or.inl wd875
theorem wd876 : Cond.methodLink "CopiedFire" 148 ⟨"CopiedFire$House", "drawThing", "()V"⟩ ∈ TB := TBm (tk2 (List.mem_of_getElem? (i := 135) (by decide +kernel))) rfl
theorem cnX9_148 : gCn RX9 148 yX0_drawThing := Or.inl wd876
theorem wd877 : Cond.methodLink "CopiedFire$House" 83 ⟨"CopiedFire$House", "draw", "()I"⟩ ∈ TB := TBm (tk2 (List.mem_of_getElem? (i := 139) (by decide +kernel))) rfl
theorem cnX0_83 : gCn RX0 83 yX0_draw := Or.inl wd877
theorem wd878 : Cond.methodLink "CopiedFire$House" 87 ⟨"CopiedFire$House", "addThing", "(IIII)I"⟩ ∈ TB := TBm (tk2 (List.mem_of_getElem? (i := 144) (by decide +kernel))) rfl
theorem cnX0_87 : gCn RX0 87 yX0_addThing := Or.inl wd878
theorem wd879 : Cond.methodLink "CopiedFireLaw" 41 ⟨"CopiedFire", "seed", "(I)I"⟩ ∈ TB := TBm (tk2 (List.mem_of_getElem? (i := 145) (by decide +kernel))) rfl
theorem cnL_41 : gCn RL 41 yX9_seed := Or.inl wd879
theorem wd880 : Cond.methodLink "CopiedFireLaw" 45 ⟨"CopiedFire", "heat", "(I)I"⟩ ∈ TB := TBm (tk2 (List.mem_of_getElem? (i := 149) (by decide +kernel))) rfl
theorem cnL_45 : gCn RL 45 yX9_heat := Or.inl wd880
theorem wd881 : Cond.methodLink "CopiedFireLaw" 49 ⟨"CopiedFire", "heats", "(II)I"⟩ ∈ TB := TBm (tk2 (List.mem_of_getElem? (i := 153) (by decide +kernel))) rfl
theorem cnL_49 : gCn RL 49 yX9_heats := Or.inl wd881
theorem wd882 : Cond.methodLink "CopiedFireLaw" 53 ⟨"CopiedFire", "door", "(III)I"⟩ ∈ TB := TBm (tk2 (List.mem_of_getElem? (i := 157) (by decide +kernel))) rfl
theorem cnL_53 : gCn RL 53 yX9_door := Or.inl wd882
theorem wd883 : Cond.methodLink "CopiedFire" 157 ⟨"CopiedFire", "areTwoRooms", "(II)Z"⟩ ∈ TB := TBm (tk2 (List.mem_of_getElem? (i := 161) (by decide +kernel))) rfl
theorem cnX9_157 : gCn RX9 157 yX9_areTwoRooms := Or.inl wd883
theorem wd884 : Cond.methodLink "CopiedFire" 160 ⟨"CopiedFire$House", "doorBetween", "(II)I"⟩ ∈ TB := TBm (tk2 (List.mem_of_getElem? (i := 164) (by decide +kernel))) rfl
theorem cnX9_160 : gCn RX9 160 yX0_doorBetween := Or.inl wd884
theorem wd885 : Cond.methodLink "CopiedFire" 163 ⟨"CopiedFire$House", "putDoor", "(III)V"⟩ ∈ TB := TBm (tk2 (List.mem_of_getElem? (i := 168) (by decide +kernel))) rfl
theorem cnX9_163 : gCn RX9 163 yX0_putDoor := Or.inl wd885
theorem wd886 : Cond.methodLink "CopiedFireLaw" 57 ⟨"CopiedFire", "doorTold", "(II)I"⟩ ∈ TB := TBm (tk2 (List.mem_of_getElem? (i := 172) (by decide +kernel))) rfl
theorem cnL_57 : gCn RL 57 yX9_doorTold := Or.inl wd886
theorem wd887 : Cond.methodLink "CopiedFireLaw" 61 ⟨"CopiedFire", "rule", "(II)I"⟩ ∈ TB := TBm (tk2 (List.mem_of_getElem? (i := 176) (by decide +kernel))) rfl
theorem cnL_61 : gCn RL 61 yX9_rule := Or.inl wd887
theorem wd888 : Cond.methodLink "CopiedFireLaw" 65 ⟨"CopiedFire", "visitor", "(I)I"⟩ ∈ TB := TBm (tk2 (List.mem_of_getElem? (i := 180) (by decide +kernel))) rfl
theorem cnL_65 : gCn RL 65 yX9_visitor := Or.inl wd888
theorem wd889 : Cond.methodLink "CopiedFireLaw" 69 ⟨"CopiedFire", "likes", "(II)I"⟩ ∈ TB := TBm (tk2 (List.mem_of_getElem? (i := 184) (by decide +kernel))) rfl
theorem cnL_69 : gCn RL 69 yX9_likes := Or.inl wd889
theorem wd890 : Cond.methodLink "CopiedFire" 179 ⟨"CopiedFire", "isVisitor", "(I)Z"⟩ ∈ TB := TBm (tk2 (List.mem_of_getElem? (i := 188) (by decide +kernel))) rfl
theorem cnX9_179 : gCn RX9 179 yX9_isVisitor := Or.inl wd890
theorem wd891 : Cond.methodLink "CopiedFireLaw" 73 ⟨"CopiedFire", "seats", "(I)I"⟩ ∈ TB := TBm (tk2 (List.mem_of_getElem? (i := 192) (by decide +kernel))) rfl
theorem cnL_73 : gCn RL 73 yX9_seats := Or.inl wd891
theorem wd892 : Cond.methodLink "CopiedFire" 182 ⟨"CopiedFire$Seating", "seatAll", "(LCopiedFire$House;)I"⟩ ∈ TB := TBm (tk2 (List.mem_of_getElem? (i := 196) (by decide +kernel))) rfl
theorem cnX9_182 : gCn RX9 182 yX4_seatAll := Or.inl wd892
theorem wd893 : Cond.methodLink "CopiedFire$Seating" 18 ⟨"CopiedFire$Seating", "gatherLikes", "(LCopiedFire$House;)V"⟩ ∈ TB := TBm (tk2 (List.mem_of_getElem? (i := 200) (by decide +kernel))) rfl
theorem cnX4_18 : gCn RX4 18 yX4_gatherLikes := Or.inl wd893
theorem wd894 : Cond.methodLink "CopiedFire$Seating" 28 ⟨"CopiedFire$Seating", "mostSeated", "(III)I"⟩ ∈ TB := TBm (tk2 (List.mem_of_getElem? (i := 204) (by decide +kernel))) rfl
theorem cnX4_28 : gCn RX4 28 yX4_mostSeated := Or.inl wd894
theorem wd895 : Cond.methodLink "CopiedFire$Seating" 43 ⟨"java/lang/Integer", "bitCount", "(I)I"⟩ ∈ TB := TBm (tk2 (List.mem_of_getElem? (i := 208) (by decide +kernel))) rfl
theorem cnX4_43 : gCn RX4 43 yJI_bitCount := Or.inl wd895
theorem wd896 : Cond.methodLink "CopiedFire$Seating" 49 ⟨"java/lang/Math", "min", "(II)I"⟩ ∈ TB := TBm (tk2 (List.mem_of_getElem? (i := 214) (by decide +kernel))) rfl
theorem cnX4_49 : Cond.methodLink RX4 49 Lib.Math.min.name ∈ TB := wd896
theorem wd897 : Cond.methodLink "CopiedFire$Seating" 32 ⟨"CopiedFire$Seating", "leastRoom", "(IIII)I"⟩ ∈ TB := TBm (tk2 (List.mem_of_getElem? (i := 215) (by decide +kernel))) rfl
theorem cnX4_32 : gCn RX4 32 yX4_leastRoom := Or.inl wd897
theorem wd898 : Cond.methodLink "CopiedFireLaw" 77 ⟨"CopiedFire", "way", "(II)I"⟩ ∈ TB := TBm (tk2 (List.mem_of_getElem? (i := 220) (by decide +kernel))) rfl
theorem cnL_77 : gCn RL 77 yX9_way := Or.inl wd898
theorem wd899 : Cond.methodLink "CopiedFire" 189 ⟨"CopiedFire$House", "reachedNext", "(I)I"⟩ ∈ TB := TBm (tk2 (List.mem_of_getElem? (i := 224) (by decide +kernel))) rfl
theorem cnX9_189 : gCn RX9 189 yX0_reachedNext := Or.inl wd899
theorem wd900 : Cond.methodLink "CopiedFire$House" 91 ⟨"CopiedFire$House", "doorBetween", "(II)I"⟩ ∈ TB := TBm (tk2 (List.mem_of_getElem? (i := 228) (by decide +kernel))) rfl
theorem cnX0_91 : gCn RX0 91 yX0_doorBetween := Or.inl wd900
theorem wd901 : Cond.methodLink "CopiedFireLaw" 81 ⟨"CopiedFire", "minutes", "(I)I"⟩ ∈ TB := TBm (tk2 (List.mem_of_getElem? (i := 230) (by decide +kernel))) rfl
theorem cnL_81 : gCn RL 81 yX9_minutes := Or.inl wd901
theorem wd902 : Cond.methodLink "CopiedFire" 199 ⟨"CopiedFire$House", "passMinute", "()V"⟩ ∈ TB := TBm (tk2 (List.mem_of_getElem? (i := 234) (by decide +kernel))) rfl
theorem cnX9_199 : gCn RX9 199 yX0_passMinute := Or.inl wd902
theorem wd903 : Cond.methodLink "CopiedFire$House" 108 ⟨"CopiedFire$House", "burnThings", "()V"⟩ ∈ TB := TBm (tk2 (List.mem_of_getElem? (i := 238) (by decide +kernel))) rfl
theorem cnX0_108 : gCn RX0 108 yX0_burnThings := Or.inl wd903
theorem wd904 : Cond.methodLink "CopiedFire$House" 123 ⟨"CopiedFire$House", "burnsOf", "(I)I"⟩ ∈ TB := TBm (tk3 (List.mem_of_getElem? (i := 2) (by decide +kernel))) rfl
theorem cnX0_123 : gCn RX0 123 yX0_burnsOf := Or.inl wd904
theorem wd905 : Cond.methodLink "CopiedFire$House" 127 ⟨"java/lang/Math", "min", "(II)I"⟩ ∈ TB := TBm (tk3 (List.mem_of_getElem? (i := 3) (by decide +kernel))) rfl
theorem cnX0_127 : Cond.methodLink RX0 127 Lib.Math.min.name ∈ TB := wd905
theorem wd906 : Cond.methodLink "CopiedFire$House" 132 ⟨"CopiedFire$Kinds", "gives", "(II)I"⟩ ∈ TB := TBm (tk3 (List.mem_of_getElem? (i := 4) (by decide +kernel))) rfl
theorem cnX0_132 : gCn RX0 132 yX1_gives := Or.inl wd906
theorem wd907 : Cond.methodLink "CopiedFire$House" 111 ⟨"CopiedFire$House", "spreadHeat", "()V"⟩ ∈ TB := TBm (tk3 (List.mem_of_getElem? (i := 5) (by decide +kernel))) rfl
theorem cnX0_111 : gCn RX0 111 yX0_spreadHeat := Or.inl wd907
theorem wd908 : Cond.methodLink "CopiedFire$House" 114 ⟨"CopiedFire$House", "coolRooms", "()V"⟩ ∈ TB := TBm (tk3 (List.mem_of_getElem? (i := 9) (by decide +kernel))) rfl
theorem cnX0_114 : gCn RX0 114 yX0_coolRooms := Or.inl wd908
theorem wd909 : Cond.methodLink "CopiedFire$House" 135 ⟨"java/lang/Math", "max", "(II)I"⟩ ∈ TB := TBm (tk3 (List.mem_of_getElem? (i := 13) (by decide +kernel))) rfl
theorem cnX0_135 : Cond.methodLink RX0 135 Lib.Math.max.name ∈ TB := wd909
theorem wd910 : Cond.methodLink "CopiedFire$House" 117 ⟨"CopiedFire$House", "lightThings", "()V"⟩ ∈ TB := TBm (tk3 (List.mem_of_getElem? (i := 14) (by decide +kernel))) rfl
theorem cnX0_117 : gCn RX0 117 yX0_lightThings := Or.inl wd910
theorem wd911 : Cond.methodLink "CopiedFire$House" 138 ⟨"CopiedFire$Kinds", "catchesFrom", "(I)I"⟩ ∈ TB := TBm (tk3 (List.mem_of_getElem? (i := 18) (by decide +kernel))) rfl
theorem cnX0_138 : gCn RX0 138 yX1_catchesFrom := Or.inl wd911
theorem wd912 : Cond.methodLink "CopiedFire$House" 120 ⟨"CopiedFire$House", "blowWind", "()V"⟩ ∈ TB := TBm (tk3 (List.mem_of_getElem? (i := 19) (by decide +kernel))) rfl
theorem cnX0_120 : gCn RX0 120 yX0_blowWind := Or.inl wd912
theorem wd913 : Cond.methodLink "CopiedFire$House" 141 ⟨"CopiedFire$House", "putDoor", "(III)V"⟩ ∈ TB := TBm (tk3 (List.mem_of_getElem? (i := 23) (by decide +kernel))) rfl
theorem cnX0_141 : gCn RX0 141 yX0_putDoor := Or.inl wd913
theorem wd914 : Cond.methodLink "CopiedFireLaw" 85 ⟨"CopiedFire", "house", "(I)I"⟩ ∈ TB := TBm (tk3 (List.mem_of_getElem? (i := 24) (by decide +kernel))) rfl
theorem cnL_85 : gCn RL 85 yX9_house := Or.inl wd914
theorem wd915 : Cond.methodLink "CopiedFire" 208 ⟨"CopiedFire$House", "litSet", "()I"⟩ ∈ TB := TBm (tk3 (List.mem_of_getElem? (i := 28) (by decide +kernel))) rfl
theorem cnX9_208 : gCn RX9 208 yX0_litSet := Or.inl wd915
theorem wd916 : Cond.methodLink "CopiedFire" 212 ⟨"CopiedFire$House", "heatTogether", "()I"⟩ ∈ TB := TBm (tk3 (List.mem_of_getElem? (i := 32) (by decide +kernel))) rfl
theorem cnX9_212 : gCn RX9 212 yX0_heatTogether := Or.inl wd916
theorem wd917 : Cond.methodLink "CopiedFireLaw" 89 ⟨"CopiedFire", "behind", "(II)I"⟩ ∈ TB := TBm (tk3 (List.mem_of_getElem? (i := 36) (by decide +kernel))) rfl
theorem cnL_89 : gCn RL 89 yX9_behind := Or.inl wd917
theorem wd918 : Cond.methodLink "CopiedFire" 215 ⟨"CopiedFire$House", "becomeAs", "(LCopiedFire$House;)V"⟩ ∈ TB := TBm (tk3 (List.mem_of_getElem? (i := 40) (by decide +kernel))) rfl
theorem cnX9_215 : gCn RX9 215 yX0_becomeAs := Or.inl wd918
theorem wd919 : Cond.methodLink "CopiedFire$House" 56 ⟨"java/lang/System", "arraycopy", "(Ljava/lang/Object;ILjava/lang/Object;II)V"⟩ ∈ TB := TBm (tk3 (List.mem_of_getElem? (i := 44) (by decide +kernel))) rfl
theorem cnX0_56 : Cond.methodLink RX0 56 arraycopyName ∈ TB := wd919
theorem wd920 : Cond.methodLink "CopiedFire" 220 ⟨"CopiedFire", "thinkOn", "(II)I"⟩ ∈ TB := TBm (tk3 (List.mem_of_getElem? (i := 48) (by decide +kernel))) rfl
theorem cnX9_220 : gCn RX9 220 yX9_thinkOn := Or.inl wd920
theorem wd921 : Cond.methodLink "CopiedFireLaw" 93 ⟨"CopiedFire", "out", "()I"⟩ ∈ TB := TBm (tk3 (List.mem_of_getElem? (i := 52) (by decide +kernel))) rfl
theorem cnL_93 : gCn RL 93 yX9_out := Or.inl wd921
theorem wd922 : Cond.methodLink "CopiedFireLaw" 98 ⟨"CopiedFire", "hot", "(I)I"⟩ ∈ TB := TBm (tk3 (List.mem_of_getElem? (i := 56) (by decide +kernel))) rfl
theorem cnL_98 : gCn RL 98 yX9_hot := Or.inl wd922
theorem wd923 : Cond.methodLink "CopiedFireLaw" 102 ⟨"CopiedFire", "shut", "(II)I"⟩ ∈ TB := TBm (tk3 (List.mem_of_getElem? (i := 60) (by decide +kernel))) rfl
theorem cnL_102 : gCn RL 102 yX9_shut := Or.inl wd923
theorem wd924 : Cond.methodLink "CopiedFireLaw" 106 ⟨"CopiedFire", "hired", "(II)I"⟩ ∈ TB := TBm (tk3 (List.mem_of_getElem? (i := 64) (by decide +kernel))) rfl
theorem cnL_106 : gCn RL 106 yX9_hired := Or.inl wd924
theorem wd925 : Cond.methodLink "CopiedFireLaw" 110 ⟨"CopiedFire", "becomes", "(III)I"⟩ ∈ TB := TBm (tk3 (List.mem_of_getElem? (i := 68) (by decide +kernel))) rfl
theorem cnL_110 : gCn RL 110 yX9_becomes := Or.inl wd925
theorem wd926 : Cond.methodLink "CopiedFireLaw" 114 ⟨"CopiedFire", "began", "(I)I"⟩ ∈ TB := TBm (tk3 (List.mem_of_getElem? (i := 72) (by decide +kernel))) rfl
theorem cnL_114 : gCn RL 114 yX9_began := Or.inl wd926
theorem wd927 : Cond.methodLink "CopiedFire" 223 ⟨"CopiedFire", "isSheet", "(I)Z"⟩ ∈ TB := TBm (tk3 (List.mem_of_getElem? (i := 76) (by decide +kernel))) rfl
theorem cnX9_223 : gCn RX9 223 yX9_isSheet := Or.inl wd927
theorem wd928 : Cond.methodLink "CopiedFire" 226 ⟨"CopiedFire$Sheet", "isMissing", "()Z"⟩ ∈ TB := TBm (tk3 (List.mem_of_getElem? (i := 79) (by decide +kernel))) rfl
theorem cnX9_226 : gCn RX9 226 yX5_isMissing := Or.inl wd928
theorem wd929 : Cond.methodLink "CopiedFire" 231 ⟨"CopiedFire", "canHaveBegunBy", "(ILCopiedFire$Sheet;)Z"⟩ ∈ TB := TBm (tk3 (List.mem_of_getElem? (i := 84) (by decide +kernel))) rfl
theorem cnX9_231 : gCn RX9 231 yX9_canHaveBegunBy := Or.inl wd929
theorem wd930 : Cond.methodLink "CopiedFire" 339 ⟨"java/util/Arrays", "fill", "([II)V"⟩ ∈ TB := TBm (tk3 (List.mem_of_getElem? (i := 88) (by decide +kernel))) rfl
theorem cnX9_339 : gCn RX9 339 yJA_fill := Or.inl wd930
theorem wd931 : Cond.methodLink "CopiedFire" 295 ⟨"CopiedFire$Sheet", "hasNumber", "(I)Z"⟩ ∈ TB := TBm (tk3 (List.mem_of_getElem? (i := 89) (by decide +kernel))) rfl
theorem cnX9_295 : gCn RX9 295 yX5_hasNumber := Or.inl wd931
theorem wd932 : Cond.methodLink "CopiedFire$Sheet" 38 ⟨"CopiedFire$Sheet", "hasPlace", "(I)Z"⟩ ∈ TB := TBm (tk3 (List.mem_of_getElem? (i := 93) (by decide +kernel))) rfl
theorem cnX5_38 : gCn RX5 38 yX5_hasPlace := Or.inl wd932
theorem wn39 : Cond.methodLinkNest "CopiedFire$Sheet" 34 ⟨"CopiedFire", "within", "(III)Z"⟩ "CopiedFire" ∈ NW := NWm (tk3 (List.mem_of_getElem? (i := 97) (by decide +kernel))) rfl
theorem cnX5_34 : gCn RX5 34 yX9_within := Or.inr ⟨_, wn39⟩
theorem wd933 : Cond.methodLink "CopiedFire" 345 ⟨"java/lang/Integer", "bitCount", "(I)I"⟩ ∈ TB := TBm (tk3 (List.mem_of_getElem? (i := 99) (by decide +kernel))) rfl
theorem cnX9_345 : gCn RX9 345 yJI_bitCount := Or.inl wd933
theorem wd934 : Cond.methodLink "CopiedFireLaw" 118 ⟨"CopiedFire", "like", "(II)I"⟩ ∈ TB := TBm (tk3 (List.mem_of_getElem? (i := 100) (by decide +kernel))) rfl
theorem cnL_118 : gCn RL 118 yX9_like := Or.inl wd934
theorem wd935 : Cond.methodLink "CopiedFire" 235 ⟨"CopiedFire", "sumDifferences", "(LCopiedFire$Sheet;)V"⟩ ∈ TB := TBm (tk3 (List.mem_of_getElem? (i := 104) (by decide +kernel))) rfl
theorem cnX9_235 : gCn RX9 235 yX9_sumDifferences := Or.inl wd935
theorem wd936 : Cond.methodLink "CopiedFire" 350 ⟨"java/lang/Math", "abs", "(I)I"⟩ ∈ TB := TBm (tk3 (List.mem_of_getElem? (i := 108) (by decide +kernel))) rfl
theorem cnX9_350 : Cond.methodLink RX9 350 Lib.Math.abs.name ∈ TB := wd936
theorem wd937 : Cond.methodLink "CopiedFireLaw" 122 ⟨"CopiedFire", "fee", "()I"⟩ ∈ TB := TBm (tk3 (List.mem_of_getElem? (i := 111) (by decide +kernel))) rfl
theorem cnL_122 : gCn RL 122 yX9_fee := Or.inl wd937
theorem wd938 : Cond.methodLink "CopiedFire" 242 ⟨"CopiedFire$Laws", "work", "(IIII)I"⟩ ∈ TB := TBm (tk3 (List.mem_of_getElem? (i := 115) (by decide +kernel))) rfl
theorem cnX9_242 : gCn RX9 242 yX2_work := Or.inl wd938
theorem wd939 : Cond.methodLink "CopiedFireLaw" 126 ⟨"CopiedFire", "fine", "(I)I"⟩ ∈ TB := TBm (tk3 (List.mem_of_getElem? (i := 116) (by decide +kernel))) rfl
theorem cnL_126 : gCn RL 126 yX9_fine := Or.inl wd939
theorem wd940 : Cond.methodLink "CopiedFireLaw" 130 ⟨"CopiedFire", "feed", "(III)I"⟩ ∈ TB := TBm (tk3 (List.mem_of_getElem? (i := 120) (by decide +kernel))) rfl
theorem cnL_130 : gCn RL 130 yX9_feed := Or.inl wd940
theorem wd941 : Cond.methodLink "CopiedFire" 248 ⟨"CopiedFire$Tape", "addFour", "(I)V"⟩ ∈ TB := TBm (tk3 (List.mem_of_getElem? (i := 124) (by decide +kernel))) rfl
theorem cnX9_248 : gCn RX9 248 yX7_addFour := Or.inl wd941
theorem wd942 : Cond.methodLink "CopiedFireLaw" 134 ⟨"CopiedFire", "trim", "(I)I"⟩ ∈ TB := TBm (tk3 (List.mem_of_getElem? (i := 128) (by decide +kernel))) rfl
theorem cnL_134 : gCn RL 134 yX9_trim := Or.inl wd942
theorem wd943 : Cond.methodLink "CopiedFireLaw" 138 ⟨"CopiedFire", "text", "()I"⟩ ∈ TB := TBm (tk3 (List.mem_of_getElem? (i := 132) (by decide +kernel))) rfl
theorem cnL_138 : gCn RL 138 yX9_text := Or.inl wd943
theorem wd944 : Cond.methodLink "CopiedFire" 252 ⟨"CopiedFire$Reader", "readText", "()V"⟩ ∈ TB := TBm (tk3 (List.mem_of_getElem? (i := 136) (by decide +kernel))) rfl
theorem cnX9_252 : gCn RX9 252 yX3_readText := Or.inl wd944
theorem wd945 : Cond.methodLink "CopiedFire$Reader" 35 ⟨"CopiedFire$Reader", "goOn", "()V"⟩ ∈ TB := TBm (tk3 (List.mem_of_getElem? (i := 140) (by decide +kernel))) rfl
theorem cnX3_35 : gCn RX3 35 yX3_goOn := Or.inl wd945
theorem wd946 : Cond.methodLink "CopiedFire$Reader" 66 ⟨"CopiedFire$Reader", "endOfRow", "(III)I"⟩ ∈ TB := TBm (tk3 (List.mem_of_getElem? (i := 144) (by decide +kernel))) rfl
theorem cnX3_66 : gCn RX3 66 yX3_endOfRow := Or.inl wd946
theorem wn40 : Cond.methodLinkNest "CopiedFire$Reader" 78 ⟨"CopiedFire", "within", "(III)Z"⟩ "CopiedFire" ∈ NW := NWm (tk3 (List.mem_of_getElem? (i := 148) (by decide +kernel))) rfl
theorem cnX3_78 : gCn RX3 78 yX9_within := Or.inr ⟨_, wn40⟩
theorem wd947 : Cond.methodLink "CopiedFire$Reader" 38 ⟨"CopiedFire$Reader", "keyRead", "()I"⟩ ∈ TB := TBm (tk3 (List.mem_of_getElem? (i := 149) (by decide +kernel))) rfl
theorem cnX3_38 : gCn RX3 38 yX3_keyRead := Or.inl wd947
theorem wd948 : Cond.methodLink "CopiedFire$Reader" 84 ⟨"CopiedFire$Reader", "isWord", "(Ljava/lang/String;)Z"⟩ ∈ TB := TBm (tk3 (List.mem_of_getElem? (i := 154) (by decide +kernel))) rfl
theorem cnX3_84 : gCn RX3 84 yX3_isWord := Or.inl wd948
theorem wd949 : Cond.methodLink "CopiedFire$Reader" 92 ⟨"java/lang/String", "length", "()I"⟩ ∈ TB := TBm (tk3 (List.mem_of_getElem? (i := 158) (by decide +kernel))) rfl
theorem cnX3_92 : gCn RX3 92 yJS_length := Or.inl wd949
theorem wd950 : Cond.methodLink "java/lang/String" 335 ⟨"java/lang/String", "coder", "()B"⟩ ∈ TB := TBm (tk3 (List.mem_of_getElem? (i := 162) (by decide +kernel))) rfl
theorem cnJS_335 : gCn RJS 335 yJS_coder := Or.inl wd950
theorem wd951 : Cond.methodLink "CopiedFire$Reader" 96 ⟨"java/lang/String", "charAt", "(I)C"⟩ ∈ TB := TBm (tk3 (List.mem_of_getElem? (i := 168) (by decide +kernel))) rfl
theorem cnX3_96 : gCn RX3 96 yJS_charAt := Or.inl wd951
theorem wd952 : Cond.methodLink "java/lang/String" 492 ⟨"java/lang/String", "isLatin1", "()Z"⟩ ∈ TB := TBm (tk3 (List.mem_of_getElem? (i := 172) (by decide +kernel))) rfl
theorem cnJS_492 : gCn RJS 492 yJS_isLatin1 := Or.inl wd952
theorem wd953 : Cond.methodLink "java/lang/String" 495 ⟨"java/lang/StringLatin1", "charAt", "([BI)C"⟩ ∈ TB := TBm (tk3 (List.mem_of_getElem? (i := 176) (by decide +kernel))) rfl
theorem cnJS_495 : gCn RJS 495 yJL_charAt := Or.inl wd953
theorem wd954 : Cond.methodLink "java/lang/StringLatin1" 9 ⟨"java/lang/String", "checkIndex", "(II)V"⟩ ∈ TB := TBm (tk3 (List.mem_of_getElem? (i := 179) (by decide +kernel))) rfl
theorem cnJL_9 : gCn RJL 9 yJS_checkIndex := Or.inl wd954
theorem wd955 : Cond.methodLink "java/lang/String" 1059 ⟨"jdk/internal/util/Preconditions", "checkIndex", "(IILjava/util/function/BiFunction;)I"⟩ ∈ TB := TBm (tk3 (List.mem_of_getElem? (i := 184) (by decide +kernel))) rfl
theorem cnJS_1059 : gCn RJS 1059 yJP_checkIndex := Or.inl wd955
theorem wd956 : Cond.methodLink "CopiedFire$Reader" 45 ⟨"CopiedFire$Reader", "stop", "()V"⟩ ∈ TB := TBm (tk3 (List.mem_of_getElem? (i := 208) (by decide +kernel))) rfl
theorem cnX3_45 : gCn RX3 45 yX3_stop := Or.inl wd956
theorem wd957 : Cond.methodLink "CopiedFire$Reader" 48 ⟨"CopiedFire$Reader", "readLevel", "(III)V"⟩ ∈ TB := TBm (tk3 (List.mem_of_getElem? (i := 212) (by decide +kernel))) rfl
theorem cnX3_48 : gCn RX3 48 yX3_readLevel := Or.inl wd957
theorem wd958 : Cond.methodLink "CopiedFire$Reader" 110 ⟨"CopiedFire$Reader", "readPiece", "(II)V"⟩ ∈ TB := TBm (tk3 (List.mem_of_getElem? (i := 216) (by decide +kernel))) rfl
theorem cnX3_110 : gCn RX3 110 yX3_readPiece := Or.inl wd958
theorem wd959 : Cond.methodLink "CopiedFire$Reader" 122 ⟨"CopiedFire$Reader", "nameRead", "()I"⟩ ∈ TB := TBm (tk3 (List.mem_of_getElem? (i := 220) (by decide +kernel))) rfl
theorem cnX3_122 : gCn RX3 122 yX3_nameRead := Or.inl wd959
theorem wd960 : Cond.methodLink "CopiedFire$Reader" 106 ⟨"java/lang/String", "indexOf", "(I)I"⟩ ∈ TB := TBm (tk3 (List.mem_of_getElem? (i := 227) (by decide +kernel))) rfl
theorem cnX3_106 : gCn RX3 106 yJS_indexOf := Or.inl wd960
theorem wd961 : Cond.methodLink "java/lang/String" 633 ⟨"java/lang/String", "indexOf", "(II)I"⟩ ∈ TB := TBm (tk3 (List.mem_of_getElem? (i := 231) (by decide +kernel))) rfl
theorem cnJS_633 : gCn RJS 633 yJS_indexOf2 := Or.inl wd961
theorem wd962 : Cond.methodLink "java/lang/String" 505 ⟨"java/lang/String", "length", "()I"⟩ ∈ TB := TBm (tk3 (List.mem_of_getElem? (i := 235) (by decide +kernel))) rfl
theorem cnJS_505 : gCn RJS 505 yJS_length := Or.inl wd962
theorem wd963 : Cond.methodLink "java/lang/String" 637 ⟨"java/lang/StringLatin1", "indexOf", "([BIII)I"⟩ ∈ TB := TBm (tk3 (List.mem_of_getElem? (i := 236) (by decide +kernel))) rfl
theorem cnJS_637 : gCn RJS 637 yJL_indexOf := Or.inl wd963
theorem wd964 : Cond.methodLink "java/lang/StringLatin1" 88 ⟨"java/lang/StringLatin1", "canEncode", "(I)Z"⟩ ∈ TB := TBm (tk3 (List.mem_of_getElem? (i := 239) (by decide +kernel))) rfl
theorem cnJL_88 : gCn RJL 88 yJL_canEncode := Or.inl wd964
theorem wd965 : Cond.methodLink "java/lang/StringLatin1" 92 ⟨"java/lang/Math", "max", "(II)I"⟩ ∈ TB := TBm (tk4 (List.mem_of_getElem? (i := 2) (by decide +kernel))) rfl
theorem cnJL_92 : Cond.methodLink RJL 92 Lib.Math.max.name ∈ TB := wd965
theorem wd966 : Cond.methodLink "java/lang/StringLatin1" 38 ⟨"java/lang/Math", "min", "(II)I"⟩ ∈ TB := TBm (tk4 (List.mem_of_getElem? (i := 3) (by decide +kernel))) rfl
theorem cnJL_38 : Cond.methodLink RJL 38 Lib.Math.min.name ∈ TB := wd966
theorem wd967 : Cond.methodLink "java/lang/StringLatin1" 95 ⟨"java/lang/StringLatin1", "indexOfChar", "([BIII)I"⟩ ∈ TB := TBm (tk4 (List.mem_of_getElem? (i := 4) (by decide +kernel))) rfl
theorem cnJL_95 : gCn RJL 95 yJL_indexOfChar := Or.inl wd967
theorem wd968 : Cond.methodLink "CopiedFire$Reader" 127 ⟨"CopiedFire$Reader", "addOperand", "(I)V"⟩ ∈ TB := TBm (tk4 (List.mem_of_getElem? (i := 42) (by decide +kernel))) rfl
theorem cnX3_127 : gCn RX3 127 yX3_addOperand := Or.inl wd968
theorem wd969 : Cond.methodLink "CopiedFire$Reader" 118 ⟨"CopiedFire$Reader", "addStep", "(I)V"⟩ ∈ TB := TBm (tk4 (List.mem_of_getElem? (i := 46) (by decide +kernel))) rfl
theorem cnX3_118 : gCn RX3 118 yX3_addStep := Or.inl wd969
theorem wd970 : Cond.methodLink "CopiedFire$Reader" 130 ⟨"CopiedFire$Reader", "numberRead", "()I"⟩ ∈ TB := TBm (tk4 (List.mem_of_getElem? (i := 50) (by decide +kernel))) rfl
theorem cnX3_130 : gCn RX3 130 yX3_numberRead := Or.inl wd970
theorem wd971 : Cond.methodLink "CopiedFire$Reader" 114 ⟨"CopiedFire$Reader", "isSignOf", "(I)Z"⟩ ∈ TB := TBm (tk4 (List.mem_of_getElem? (i := 54) (by decide +kernel))) rfl
theorem cnX3_114 : gCn RX3 114 yX3_isSignOf := Or.inl wd971
theorem wd972 : Cond.methodLink "CopiedFire" 261 ⟨"CopiedFire$Reader", "madeText", "()LCopiedFire$Text;"⟩ ∈ TB := TBm (tk4 (List.mem_of_getElem? (i := 58) (by decide +kernel))) rfl
theorem cnX9_261 : gCn RX9 261 yX3_madeText := Or.inl wd972
theorem wd973 : Cond.methodLink "CopiedFire$Reader" 54 ⟨"java/util/Arrays", "copyOf", "([II)[I"⟩ ∈ TB := TBm (tk4 (List.mem_of_getElem? (i := 64) (by decide +kernel))) rfl
theorem cnX3_54 : gCn RX3 54 yJA_copyOf := Or.inl wd973
theorem wd974 : Cond.methodLink "java/util/Arrays" 304 ⟨"java/lang/Math", "min", "(II)I"⟩ ∈ TB := TBm (tk4 (List.mem_of_getElem? (i := 74) (by decide +kernel))) rfl
theorem cnJA_304 : Cond.methodLink RJA 304 Lib.Math.min.name ∈ TB := wd974
theorem wd975 : Cond.methodLink "java/util/Arrays" 150 ⟨"java/lang/System", "arraycopy", "(Ljava/lang/Object;ILjava/lang/Object;II)V"⟩ ∈ TB := TBm (tk4 (List.mem_of_getElem? (i := 75) (by decide +kernel))) rfl
theorem cnJA_150 : Cond.methodLink RJA 150 arraycopyName ∈ TB := wd975
theorem wd976 : Cond.methodLink "CopiedFire$Reader" 60 ⟨"CopiedFire$Text", "<init>", "(II[I)V"⟩ ∈ TB := TBm (tk4 (List.mem_of_getElem? (i := 76) (by decide +kernel))) rfl
theorem cnX3_60 : gCn RX3 60 yX8_init := Or.inl wd976
theorem wd977 : Cond.methodLink "CopiedFire" 265 ⟨"CopiedFire$Laws", "put", "(ILCopiedFire$Text;)V"⟩ ∈ TB := TBm (tk4 (List.mem_of_getElem? (i := 94) (by decide +kernel))) rfl
theorem cnX9_265 : gCn RX9 265 yX2_put := Or.inl wd977
theorem wd978 : Cond.methodLink "CopiedFireLaw" 142 ⟨"CopiedFire", "textTold", "(II)I"⟩ ∈ TB := TBm (tk4 (List.mem_of_getElem? (i := 98) (by decide +kernel))) rfl
theorem cnL_142 : gCn RL 142 yX9_textTold := Or.inl wd978
theorem wd979 : Cond.methodLink "CopiedFire" 272 ⟨"CopiedFire$Laws", "keyOf", "(I)I"⟩ ∈ TB := TBm (tk4 (List.mem_of_getElem? (i := 102) (by decide +kernel))) rfl
theorem cnX9_272 : gCn RX9 272 yX2_keyOf := Or.inl wd979
theorem wd980 : Cond.methodLink "CopiedFire" 275 ⟨"CopiedFire$Laws", "operandsOf", "(I)I"⟩ ∈ TB := TBm (tk4 (List.mem_of_getElem? (i := 107) (by decide +kernel))) rfl
theorem cnX9_275 : gCn RX9 275 yX2_operandsOf := Or.inl wd980
theorem wd981 : Cond.methodLink "CopiedFireLaw" 146 ⟨"CopiedFire", "why", "(I)I"⟩ ∈ TB := TBm (tk4 (List.mem_of_getElem? (i := 111) (by decide +kernel))) rfl
theorem cnL_146 : gCn RL 146 yX9_why := Or.inl wd981
theorem wd982 : Cond.methodLink "CopiedFireLaw" 150 ⟨"CopiedFire", "sheet", "(III)I"⟩ ∈ TB := TBm (tk4 (List.mem_of_getElem? (i := 115) (by decide +kernel))) rfl
theorem cnL_150 : gCn RL 150 yX9_sheet := Or.inl wd982
theorem wd983 : Cond.methodLink "CopiedFire" 278 ⟨"CopiedFire$Sheet", "renew", "(II)V"⟩ ∈ TB := TBm (tk4 (List.mem_of_getElem? (i := 119) (by decide +kernel))) rfl
theorem cnX9_278 : gCn RX9 278 yX5_renew := Or.inl wd983
theorem wd984 : Cond.methodLink "CopiedFire$Sheet" 22 ⟨"java/util/Arrays", "fill", "([II)V"⟩ ∈ TB := TBm (tk4 (List.mem_of_getElem? (i := 123) (by decide +kernel))) rfl
theorem cnX5_22 : gCn RX5 22 yJA_fill := Or.inl wd984
theorem wd985 : Cond.methodLink "CopiedFireLaw" 154 ⟨"CopiedFire", "mark", "(III)I"⟩ ∈ TB := TBm (tk4 (List.mem_of_getElem? (i := 125) (by decide +kernel))) rfl
theorem cnL_154 : gCn RL 154 yX9_mark := Or.inl wd985
theorem wd986 : Cond.methodLink "CopiedFire" 283 ⟨"CopiedFire$Sheet", "hasPlace", "(I)Z"⟩ ∈ TB := TBm (tk4 (List.mem_of_getElem? (i := 129) (by decide +kernel))) rfl
theorem cnX9_283 : gCn RX9 283 yX5_hasPlace := Or.inl wd986
theorem wd987 : Cond.methodLink "CopiedFireLaw" 158 ⟨"CopiedFire", "pour", "(I)I"⟩ ∈ TB := TBm (tk4 (List.mem_of_getElem? (i := 133) (by decide +kernel))) rfl
theorem cnL_158 : gCn RL 158 yX9_pour := Or.inl wd987
theorem wd988 : Cond.methodLink "CopiedFire" 298 ⟨"CopiedFire", "held", "(II)I"⟩ ∈ TB := TBm (tk4 (List.mem_of_getElem? (i := 137) (by decide +kernel))) rfl
theorem cnX9_298 : gCn RX9 298 yX9_held := Or.inl wd988
theorem wd989 : Cond.methodLink "CopiedFireLaw" 162 ⟨"CopiedFire", "reads", "(I)I"⟩ ∈ TB := TBm (tk4 (List.mem_of_getElem? (i := 138) (by decide +kernel))) rfl
theorem cnL_162 : gCn RL 162 yX9_reads := Or.inl wd989
theorem wd990 : Cond.methodLink "CopiedFireLaw" 166 ⟨"CopiedFire", "copy", "(IIIII)I"⟩ ∈ TB := TBm (tk4 (List.mem_of_getElem? (i := 142) (by decide +kernel))) rfl
theorem cnL_166 : gCn RL 166 yX9_copy := Or.inl wd990
theorem wd991 : Cond.methodLink "CopiedFire" 302 ⟨"CopiedFire$Sheet", "hasRow", "(II)Z"⟩ ∈ TB := TBm (tk4 (List.mem_of_getElem? (i := 146) (by decide +kernel))) rfl
theorem cnX9_302 : gCn RX9 302 yX5_hasRow := Or.inl wd991
theorem wd992 : Cond.methodLink "CopiedFire" 305 ⟨"java/lang/System", "arraycopy", "(Ljava/lang/Object;ILjava/lang/Object;II)V"⟩ ∈ TB := TBm (tk4 (List.mem_of_getElem? (i := 150) (by decide +kernel))) rfl
theorem cnX9_305 : Cond.methodLink RX9 305 arraycopyName ∈ TB := wd992
theorem wd993 : Cond.methodLink "CopiedFireLaw" 171 ⟨"CopiedFire", "lay", "(III)I"⟩ ∈ TB := TBm (tk4 (List.mem_of_getElem? (i := 151) (by decide +kernel))) rfl
theorem cnL_171 : gCn RL 171 yX9_lay := Or.inl wd993
theorem wd994 : Cond.methodLink "CopiedFire" 311 ⟨"CopiedFire", "isSlot", "(I)Z"⟩ ∈ TB := TBm (tk4 (List.mem_of_getElem? (i := 155) (by decide +kernel))) rfl
theorem cnX9_311 : gCn RX9 311 yX9_isSlot := Or.inl wd994
theorem wd995 : Cond.methodLink "CopiedFire" 327 ⟨"CopiedFire$Sheet", "becomeAs", "(LCopiedFire$Sheet;)V"⟩ ∈ TB := TBm (tk4 (List.mem_of_getElem? (i := 158) (by decide +kernel))) rfl
theorem cnX9_327 : gCn RX9 327 yX5_becomeAs := Or.inl wd995
theorem wd996 : Cond.methodLink "CopiedFire$Sheet" 28 ⟨"java/lang/System", "arraycopy", "(Ljava/lang/Object;ILjava/lang/Object;II)V"⟩ ∈ TB := TBm (tk4 (List.mem_of_getElem? (i := 162) (by decide +kernel))) rfl
theorem cnX5_28 : Cond.methodLink RX5 28 arraycopyName ∈ TB := wd996
theorem wd997 : Cond.methodLink "CopiedFireLaw" 175 ⟨"CopiedFire", "ask", "(II)I"⟩ ∈ TB := TBm (tk4 (List.mem_of_getElem? (i := 163) (by decide +kernel))) rfl
theorem cnL_175 : gCn RL 175 yX9_ask := Or.inl wd997
theorem wd998 : Cond.methodLink "CopiedFire" 332 ⟨"CopiedFire", "findingFor", "(II)I"⟩ ∈ TB := TBm (tk4 (List.mem_of_getElem? (i := 167) (by decide +kernel))) rfl
theorem cnX9_332 : gCn RX9 332 yX9_findingFor := Or.inl wd998
theorem wd999 : Cond.methodLink "CopiedFireLaw" 179 ⟨"CopiedFire", "item", "(II)I"⟩ ∈ TB := TBm (tk4 (List.mem_of_getElem? (i := 171) (by decide +kernel))) rfl
theorem cnL_179 : gCn RL 179 yX9_item := Or.inl wd999
theorem wd1000 : Cond.methodLink "CopiedFireLaw" 183 ⟨"CopiedFire", "rest", "(II)I"⟩ ∈ TB := TBm (tk4 (List.mem_of_getElem? (i := 175) (by decide +kernel))) rfl
theorem cnL_183 : gCn RL 183 yX9_rest := Or.inl wd1000
theorem wd1001 : Cond.methodLink "CopiedFireLaw" 187 ⟨"CopiedFire", "tell", "(I)I"⟩ ∈ TB := TBm (tk4 (List.mem_of_getElem? (i := 180) (by decide +kernel))) rfl
theorem cnL_187 : gCn RL 187 yX9_tell := Or.inl wd1001
theorem wd1002 : Cond.methodLink "CopiedFireLaw" 191 ⟨"CopiedFire", "check", "(I)I"⟩ ∈ TB := TBm (tk4 (List.mem_of_getElem? (i := 184) (by decide +kernel))) rfl
theorem cnL_191 : gCn RL 191 yX9_check := Or.inl wd1002
theorem wd1003 : Cond.methodLink "CopiedFireLaw" 195 ⟨"CopiedFire", "keep", "()I"⟩ ∈ TB := TBm (tk4 (List.mem_of_getElem? (i := 188) (by decide +kernel))) rfl
theorem cnL_195 : gCn RL 195 yX9_keep := Or.inl wd1003
theorem wd1004 : Cond.methodLink "CopiedFireLaw" 199 ⟨"CopiedFire", "back", "()I"⟩ ∈ TB := TBm (tk4 (List.mem_of_getElem? (i := 192) (by decide +kernel))) rfl
theorem cnL_199 : gCn RL 199 yX9_back := Or.inl wd1004
theorem wd1005 : Cond.methodLink "CopiedFireLaw" 203 ⟨"CopiedFire", "count", "(I)I"⟩ ∈ TB := TBm (tk4 (List.mem_of_getElem? (i := 196) (by decide +kernel))) rfl
theorem cnL_203 : gCn RL 203 yX9_count := Or.inl wd1005
theorem wd1006 : Cond.methodLink "CopiedFireLaw" 12 ⟨"CopiedFireModel", "<init>", "()V"⟩ ∈ TB := TBm (tk4 (List.mem_of_getElem? (i := 202) (by decide +kernel))) rfl
theorem cnL_12 : gCn RL 12 yX10_init := Or.inl wd1006
theorem wd1007 : Cond.methodLink "CopiedFireLaw" 17 ⟨"CopiedFireModel", "thing", "(IIII)I"⟩ ∈ TB := TBm (tk5 (List.mem_of_getElem? (i := 80) (by decide +kernel))) rfl
theorem cnL_17 : gCn RL 17 yX10_thing := Or.inl wd1007
theorem wd1008 : Cond.methodLink "CopiedFireModel" 84 ⟨"CopiedFireModel", "in", "(III)Z"⟩ ∈ TB := TBm (tk5 (List.mem_of_getElem? (i := 84) (by decide +kernel))) rfl
theorem cnX10_84 : gCn RX10 84 yX10_in := Or.inl wd1008
theorem wd1009 : Cond.methodLink "CopiedFireModel" 111 ⟨"CopiedFireModel", "isOf", "(II)Z"⟩ ∈ TB := TBm (tk5 (List.mem_of_getElem? (i := 87) (by decide +kernel))) rfl
theorem cnX10_111 : gCn RX10 111 yX10_isOf := Or.inl wd1009
theorem wd1010 : Cond.methodLink "CopiedFireModel" 103 ⟨"CopiedFireModel", "isRoom", "(I)Z"⟩ ∈ TB := TBm (tk5 (List.mem_of_getElem? (i := 90) (by decide +kernel))) rfl
theorem cnX10_103 : gCn RX10 103 yX10_isRoom := Or.inl wd1010
theorem wd1011 : Cond.methodLink "CopiedFireModel" 117 ⟨"CopiedFireModel", "comes", "(IIII)I"⟩ ∈ TB := TBm (tk5 (List.mem_of_getElem? (i := 95) (by decide +kernel))) rfl
theorem cnX10_117 : gCn RX10 117 yX10_comes := Or.inl wd1011
theorem wd1012 : Cond.methodLink "CopiedFireModel" 107 ⟨"CopiedFireModel", "put", "(III)V"⟩ ∈ TB := TBm (tk5 (List.mem_of_getElem? (i := 99) (by decide +kernel))) rfl
theorem cnX10_107 : gCn RX10 107 yX10_put := Or.inl wd1012
theorem wd1013 : Cond.methodLink "CopiedFireLaw" 22 ⟨"CopiedFireModel", "told", "(II)I"⟩ ∈ TB := TBm (tk5 (List.mem_of_getElem? (i := 103) (by decide +kernel))) rfl
theorem cnL_22 : gCn RL 22 yX10_told := Or.inl wd1013
theorem wd1014 : Cond.methodLink "CopiedFireModel" 121 ⟨"CopiedFireModel", "isThing", "(I)Z"⟩ ∈ TB := TBm (tk5 (List.mem_of_getElem? (i := 107) (by decide +kernel))) rfl
theorem cnX10_121 : gCn RX10 121 yX10_isThing := Or.inl wd1014
theorem wd1015 : Cond.methodLink "CopiedFireModel" 92 ⟨"CopiedFireModel", "of", "(II)I"⟩ ∈ TB := TBm (tk5 (List.mem_of_getElem? (i := 111) (by decide +kernel))) rfl
theorem cnX10_92 : gCn RX10 92 yX10_of := Or.inl wd1015
theorem wd1016 : Cond.methodLink "CopiedFireModel" 124 ⟨"CopiedFireModel", "burnsOf", "(I)I"⟩ ∈ TB := TBm (tk5 (List.mem_of_getElem? (i := 115) (by decide +kernel))) rfl
theorem cnX10_124 : gCn RX10 124 yX10_burnsOf := Or.inl wd1016
theorem wd1017 : Cond.methodLink "CopiedFireModel" 88 ⟨"CopiedFireModel", "counts", "(I)I"⟩ ∈ TB := TBm (tk5 (List.mem_of_getElem? (i := 119) (by decide +kernel))) rfl
theorem cnX10_88 : gCn RX10 88 yX10_counts := Or.inl wd1017
theorem wd1018 : Cond.methodLink "CopiedFireModel" 96 ⟨"CopiedFireModel", "worksOut", "(I)I"⟩ ∈ TB := TBm (tk5 (List.mem_of_getElem? (i := 123) (by decide +kernel))) rfl
theorem cnX10_96 : gCn RX10 96 yX10_worksOut := Or.inl wd1018
theorem wd1019 : Cond.methodLink "CopiedFireModel" 274 ⟨"CopiedFireModel", "two", "(III)I"⟩ ∈ TB := TBm (tk5 (List.mem_of_getElem? (i := 127) (by decide +kernel))) rfl
theorem cnX10_274 : gCn RX10 274 yX10_two := Or.inl wd1019
theorem wd1020 : Cond.methodLink "CopiedFireModel" 99 ⟨"CopiedFireModel", "within", "(III)I"⟩ ∈ TB := TBm (tk5 (List.mem_of_getElem? (i := 130) (by decide +kernel))) rfl
theorem cnX10_99 : gCn RX10 99 yX10_within := Or.inl wd1020
theorem wd1021 : Cond.methodLink "CopiedFireModel" 127 ⟨"CopiedFireModel", "givesOf", "(II)I"⟩ ∈ TB := TBm (tk5 (List.mem_of_getElem? (i := 133) (by decide +kernel))) rfl
theorem cnX10_127 : gCn RX10 127 yX10_givesOf := Or.inl wd1021
theorem wd1022 : Cond.methodLink "CopiedFireModel" 130 ⟨"CopiedFireModel", "catchesOf", "(I)I"⟩ ∈ TB := TBm (tk5 (List.mem_of_getElem? (i := 137) (by decide +kernel))) rfl
theorem cnX10_130 : gCn RX10 130 yX10_catchesOf := Or.inl wd1022
theorem wd1023 : Cond.methodLink "CopiedFireModel" 133 ⟨"CopiedFireModel", "worthOf", "(I)I"⟩ ∈ TB := TBm (tk5 (List.mem_of_getElem? (i := 141) (by decide +kernel))) rfl
theorem cnX10_133 : gCn RX10 133 yX10_worthOf := Or.inl wd1023
theorem wd1024 : Cond.methodLink "CopiedFireLaw" 26 ⟨"CopiedFireModel", "as", "(II)I"⟩ ∈ TB := TBm (tk5 (List.mem_of_getElem? (i := 145) (by decide +kernel))) rfl
theorem cnL_26 : gCn RL 26 yX10_as := Or.inl wd1024
theorem wd1025 : Cond.methodLink "CopiedFireModel" 136 ⟨"CopiedFireModel", "isUnder", "(II)Z"⟩ ∈ TB := TBm (tk5 (List.mem_of_getElem? (i := 149) (by decide +kernel))) rfl
theorem cnX10_136 : gCn RX10 136 yX10_isUnder := Or.inl wd1025
theorem wd1026 : Cond.methodLink "CopiedFireLaw" 30 ⟨"CopiedFireModel", "turns", "(II)I"⟩ ∈ TB := TBm (tk5 (List.mem_of_getElem? (i := 153) (by decide +kernel))) rfl
theorem cnL_30 : gCn RL 30 yX10_turns := Or.inl wd1026
theorem wd1027 : Cond.methodLink "CopiedFireModel" 140 ⟨"CopiedFireModel", "swaps", "(II)I"⟩ ∈ TB := TBm (tk5 (List.mem_of_getElem? (i := 157) (by decide +kernel))) rfl
theorem cnX10_140 : gCn RX10 140 yX10_swaps := Or.inl wd1027
theorem wd1028 : Cond.methodLink "CopiedFireLaw" 35 ⟨"CopiedFireModel", "set", "(III)I"⟩ ∈ TB := TBm (tk5 (List.mem_of_getElem? (i := 161) (by decide +kernel))) rfl
theorem cnL_35 : gCn RL 35 yX10_set := Or.inl wd1028
theorem wd1029 : Cond.methodLink "CopiedFireLaw" 40 ⟨"CopiedFireModel", "deal", "(I)I"⟩ ∈ TB := TBm (tk5 (List.mem_of_getElem? (i := 165) (by decide +kernel))) rfl
theorem cnL_40 : gCn RL 40 yX10_deal := Or.inl wd1029
theorem wd1030 : Cond.methodLink "CopiedFireModel" 144 ⟨"CopiedFireModel", "draw", "()I"⟩ ∈ TB := TBm (tk5 (List.mem_of_getElem? (i := 169) (by decide +kernel))) rfl
theorem cnX10_144 : gCn RX10 144 yX10_draw := Or.inl wd1030
theorem wd1031 : Cond.methodLink "CopiedFireLaw" 44 ⟨"CopiedFireModel", "seed", "(I)I"⟩ ∈ TB := TBm (tk5 (List.mem_of_getElem? (i := 174) (by decide +kernel))) rfl
theorem cnL_44 : gCn RL 44 yX10_seed := Or.inl wd1031
theorem wd1032 : Cond.methodLink "CopiedFireLaw" 48 ⟨"CopiedFireModel", "heat", "(I)I"⟩ ∈ TB := TBm (tk5 (List.mem_of_getElem? (i := 178) (by decide +kernel))) rfl
theorem cnL_48 : gCn RL 48 yX10_heat := Or.inl wd1032
theorem wd1033 : Cond.methodLink "CopiedFireLaw" 52 ⟨"CopiedFireModel", "heats", "(II)I"⟩ ∈ TB := TBm (tk5 (List.mem_of_getElem? (i := 182) (by decide +kernel))) rfl
theorem cnL_52 : gCn RL 52 yX10_heats := Or.inl wd1033
theorem wd1034 : Cond.methodLink "CopiedFireLaw" 56 ⟨"CopiedFireModel", "door", "(III)I"⟩ ∈ TB := TBm (tk5 (List.mem_of_getElem? (i := 186) (by decide +kernel))) rfl
theorem cnL_56 : gCn RL 56 yX10_door := Or.inl wd1034
theorem wd1035 : Cond.methodLink "CopiedFireModel" 148 ⟨"CopiedFireModel", "areTwo", "(II)Z"⟩ ∈ TB := TBm (tk5 (List.mem_of_getElem? (i := 190) (by decide +kernel))) rfl
theorem cnX10_148 : gCn RX10 148 yX10_areTwo := Or.inl wd1035
theorem wd1036 : Cond.methodLink "CopiedFireModel" 151 ⟨"CopiedFireModel", "leaves", "(III)I"⟩ ∈ TB := TBm (tk5 (List.mem_of_getElem? (i := 193) (by decide +kernel))) rfl
theorem cnX10_151 : gCn RX10 151 yX10_leaves := Or.inl wd1036
theorem wd1037 : Cond.methodLink "CopiedFireLaw" 60 ⟨"CopiedFireModel", "doorTold", "(II)I"⟩ ∈ TB := TBm (tk5 (List.mem_of_getElem? (i := 197) (by decide +kernel))) rfl
theorem cnL_60 : gCn RL 60 yX10_doorTold := Or.inl wd1037
theorem wd1038 : Cond.methodLink "CopiedFireLaw" 64 ⟨"CopiedFireModel", "rule", "(II)I"⟩ ∈ TB := TBm (tk5 (List.mem_of_getElem? (i := 201) (by decide +kernel))) rfl
theorem cnL_64 : gCn RL 64 yX10_rule := Or.inl wd1038
theorem wd1039 : Cond.methodLink "CopiedFireLaw" 68 ⟨"CopiedFireModel", "visitor", "(I)I"⟩ ∈ TB := TBm (tk5 (List.mem_of_getElem? (i := 205) (by decide +kernel))) rfl
theorem cnL_68 : gCn RL 68 yX10_visitor := Or.inl wd1039
theorem wd1040 : Cond.methodLink "CopiedFireLaw" 72 ⟨"CopiedFireModel", "likes", "(II)I"⟩ ∈ TB := TBm (tk5 (List.mem_of_getElem? (i := 209) (by decide +kernel))) rfl
theorem cnL_72 : gCn RL 72 yX10_likes := Or.inl wd1040
theorem wd1041 : Cond.methodLink "CopiedFireLaw" 76 ⟨"CopiedFireModel", "seats", "(I)I"⟩ ∈ TB := TBm (tk5 (List.mem_of_getElem? (i := 213) (by decide +kernel))) rfl
theorem cnL_76 : gCn RL 76 yX10_seats := Or.inl wd1041
theorem wd1042 : Cond.methodLink "CopiedFireModel" 158 ⟨"CopiedFireModel", "gives", "(III)V"⟩ ∈ TB := TBm (tk5 (List.mem_of_getElem? (i := 217) (by decide +kernel))) rfl
theorem cnX10_158 : gCn RX10 158 yX10_gives := Or.inl wd1042
theorem wd1043 : Cond.methodLink "CopiedFireLaw" 80 ⟨"CopiedFireModel", "way", "(II)I"⟩ ∈ TB := TBm (tk5 (List.mem_of_getElem? (i := 222) (by decide +kernel))) rfl
theorem cnL_80 : gCn RL 80 yX10_way := Or.inl wd1043
theorem wd1044 : Cond.methodLink "CopiedFireLaw" 84 ⟨"CopiedFireModel", "minutes", "(I)I"⟩ ∈ TB := TBm (tk5 (List.mem_of_getElem? (i := 226) (by decide +kernel))) rfl
theorem cnL_84 : gCn RL 84 yX10_minutes := Or.inl wd1044
theorem wd1045 : Cond.methodLink "CopiedFireModel" 178 ⟨"CopiedFireModel", "goesOn", "(I)V"⟩ ∈ TB := TBm (tk5 (List.mem_of_getElem? (i := 230) (by decide +kernel))) rfl
theorem cnX10_178 : gCn RX10 178 yX10_goesOn := Or.inl wd1045
theorem wd1046 : Cond.methodLink "CopiedFireModel" 175 ⟨"CopiedFireModel", "minute", "()V"⟩ ∈ TB := TBm (tk5 (List.mem_of_getElem? (i := 234) (by decide +kernel))) rfl
theorem cnX10_175 : gCn RX10 175 yX10_minute := Or.inl wd1046
theorem wd1047 : Cond.methodLink "CopiedFireModel" 162 ⟨"CopiedFireModel", "burns", "(I)V"⟩ ∈ TB := TBm (tk5 (List.mem_of_getElem? (i := 238) (by decide +kernel))) rfl
theorem cnX10_162 : gCn RX10 162 yX10_burns := Or.inl wd1047
theorem wd1048 : Cond.methodLink "CopiedFireModel" 166 ⟨"CopiedFireModel", "evens", "()V"⟩ ∈ TB := TBm (tk6 (List.mem_of_getElem? (i := 2) (by decide +kernel))) rfl
theorem cnX10_166 : gCn RX10 166 yX10_evens := Or.inl wd1048
theorem wd1049 : Cond.methodLink "CopiedFireModel" 169 ⟨"CopiedFireModel", "catches", "()V"⟩ ∈ TB := TBm (tk6 (List.mem_of_getElem? (i := 6) (by decide +kernel))) rfl
theorem cnX10_169 : gCn RX10 169 yX10_catches := Or.inl wd1049
theorem wd1050 : Cond.methodLink "CopiedFireModel" 172 ⟨"CopiedFireModel", "blows", "()V"⟩ ∈ TB := TBm (tk6 (List.mem_of_getElem? (i := 10) (by decide +kernel))) rfl
theorem cnX10_172 : gCn RX10 172 yX10_blows := Or.inl wd1050
theorem wd1051 : Cond.methodLink "CopiedFireLaw" 88 ⟨"CopiedFireModel", "house", "(I)I"⟩ ∈ TB := TBm (tk6 (List.mem_of_getElem? (i := 14) (by decide +kernel))) rfl
theorem cnL_88 : gCn RL 88 yX10_house := Or.inl wd1051
theorem wd1052 : Cond.methodLink "CopiedFireModel" 181 ⟨"CopiedFireModel", "lit", "()I"⟩ ∈ TB := TBm (tk6 (List.mem_of_getElem? (i := 18) (by decide +kernel))) rfl
theorem cnX10_181 : gCn RX10 181 yX10_lit := Or.inl wd1052
theorem wd1053 : Cond.methodLink "CopiedFireModel" 184 ⟨"CopiedFireModel", "allHeat", "()I"⟩ ∈ TB := TBm (tk6 (List.mem_of_getElem? (i := 22) (by decide +kernel))) rfl
theorem cnX10_184 : gCn RX10 184 yX10_allHeat := Or.inl wd1053
theorem wd1054 : Cond.methodLink "CopiedFireLaw" 92 ⟨"CopiedFireModel", "behind", "(II)I"⟩ ∈ TB := TBm (tk6 (List.mem_of_getElem? (i := 26) (by decide +kernel))) rfl
theorem cnL_92 : gCn RL 92 yX10_behind := Or.inl wd1054
theorem wd1055 : Cond.methodLink "CopiedFireModel" 191 ⟨"CopiedFireModel", "thinks", "()V"⟩ ∈ TB := TBm (tk6 (List.mem_of_getElem? (i := 30) (by decide +kernel))) rfl
theorem cnX10_191 : gCn RX10 191 yX10_thinks := Or.inl wd1055
theorem wd1056 : Cond.methodLink "CopiedFireModel" 187 ⟨"CopiedFireModel", "copyAll", "([I[I)V"⟩ ∈ TB := TBm (tk6 (List.mem_of_getElem? (i := 34) (by decide +kernel))) rfl
theorem cnX10_187 : gCn RX10 187 yX10_copyAll := Or.inl wd1056
theorem wd1057 : Cond.methodLink "CopiedFireModel" 194 ⟨"CopiedFireModel", "putsBack", "()V"⟩ ∈ TB := TBm (tk6 (List.mem_of_getElem? (i := 37) (by decide +kernel))) rfl
theorem cnX10_194 : gCn RX10 194 yX10_putsBack := Or.inl wd1057
theorem wd1058 : Cond.methodLink "CopiedFireLaw" 97 ⟨"CopiedFireModel", "out", "()I"⟩ ∈ TB := TBm (tk6 (List.mem_of_getElem? (i := 41) (by decide +kernel))) rfl
theorem cnL_97 : gCn RL 97 yX10_out := Or.inl wd1058
theorem wd1059 : Cond.methodLink "CopiedFireLaw" 101 ⟨"CopiedFireModel", "hot", "(I)I"⟩ ∈ TB := TBm (tk6 (List.mem_of_getElem? (i := 45) (by decide +kernel))) rfl
theorem cnL_101 : gCn RL 101 yX10_hot := Or.inl wd1059
theorem wd1060 : Cond.methodLink "CopiedFireLaw" 105 ⟨"CopiedFireModel", "shut", "(II)I"⟩ ∈ TB := TBm (tk6 (List.mem_of_getElem? (i := 49) (by decide +kernel))) rfl
theorem cnL_105 : gCn RL 105 yX10_shut := Or.inl wd1060
theorem wd1061 : Cond.methodLink "CopiedFireModel" 197 ⟨"CopiedFireModel", "burntBy", "(I)I"⟩ ∈ TB := TBm (tk6 (List.mem_of_getElem? (i := 53) (by decide +kernel))) rfl
theorem cnX10_197 : gCn RX10 197 yX10_burntBy := Or.inl wd1061
theorem wd1062 : Cond.methodLink "CopiedFireLaw" 109 ⟨"CopiedFireModel", "hired", "(II)I"⟩ ∈ TB := TBm (tk6 (List.mem_of_getElem? (i := 57) (by decide +kernel))) rfl
theorem cnL_109 : gCn RL 109 yX10_hired := Or.inl wd1062
theorem wd1063 : Cond.methodLink "CopiedFireLaw" 113 ⟨"CopiedFireModel", "becomes", "(III)I"⟩ ∈ TB := TBm (tk6 (List.mem_of_getElem? (i := 61) (by decide +kernel))) rfl
theorem cnL_113 : gCn RL 113 yX10_becomes := Or.inl wd1063
theorem wd1064 : Cond.methodLink "CopiedFireLaw" 117 ⟨"CopiedFireModel", "began", "(I)I"⟩ ∈ TB := TBm (tk6 (List.mem_of_getElem? (i := 65) (by decide +kernel))) rfl
theorem cnL_117 : gCn RL 117 yX10_began := Or.inl wd1064
theorem wd1065 : Cond.methodLink "CopiedFireModel" 203 ⟨"CopiedFireModel", "isSheet", "(I)Z"⟩ ∈ TB := TBm (tk6 (List.mem_of_getElem? (i := 69) (by decide +kernel))) rfl
theorem cnX10_203 : gCn RX10 203 yX10_isSheet := Or.inl wd1065
theorem wd1066 : Cond.methodLink "CopiedFireModel" 207 ⟨"CopiedFireModel", "isSo", "(I)Z"⟩ ∈ TB := TBm (tk6 (List.mem_of_getElem? (i := 73) (by decide +kernel))) rfl
theorem cnX10_207 : gCn RX10 207 yX10_isSo := Or.inl wd1066
theorem wd1067 : Cond.methodLink "CopiedFireModel" 200 ⟨"CopiedFireModel", "bits", "(I)I"⟩ ∈ TB := TBm (tk6 (List.mem_of_getElem? (i := 77) (by decide +kernel))) rfl
theorem cnX10_200 : gCn RX10 200 yX10_bits := Or.inl wd1067
theorem wd1068 : Cond.methodLink "CopiedFireLaw" 121 ⟨"CopiedFireModel", "like", "(II)I"⟩ ∈ TB := TBm (tk6 (List.mem_of_getElem? (i := 80) (by decide +kernel))) rfl
theorem cnL_121 : gCn RL 121 yX10_like := Or.inl wd1068
theorem wd1069 : Cond.methodLink "CopiedFireLaw" 125 ⟨"CopiedFireModel", "fee", "()I"⟩ ∈ TB := TBm (tk6 (List.mem_of_getElem? (i := 84) (by decide +kernel))) rfl
theorem cnL_125 : gCn RL 125 yX10_fee := Or.inl wd1069
theorem wd1070 : Cond.methodLink "CopiedFireLaw" 129 ⟨"CopiedFireModel", "fine", "(I)I"⟩ ∈ TB := TBm (tk6 (List.mem_of_getElem? (i := 88) (by decide +kernel))) rfl
theorem cnL_129 : gCn RL 129 yX10_fine := Or.inl wd1070
theorem wd1071 : Cond.methodLink "CopiedFireLaw" 133 ⟨"CopiedFireModel", "feed", "(III)I"⟩ ∈ TB := TBm (tk6 (List.mem_of_getElem? (i := 92) (by decide +kernel))) rfl
theorem cnL_133 : gCn RL 133 yX10_feed := Or.inl wd1071
theorem wd1072 : Cond.methodLink "CopiedFireLaw" 137 ⟨"CopiedFireModel", "trim", "(I)I"⟩ ∈ TB := TBm (tk6 (List.mem_of_getElem? (i := 96) (by decide +kernel))) rfl
theorem cnL_137 : gCn RL 137 yX10_trim := Or.inl wd1072
theorem wd1073 : Cond.methodLink "CopiedFireLaw" 141 ⟨"CopiedFireModel", "text", "()I"⟩ ∈ TB := TBm (tk6 (List.mem_of_getElem? (i := 100) (by decide +kernel))) rfl
theorem cnL_141 : gCn RL 141 yX10_text := Or.inl wd1073
theorem wd1074 : Cond.methodLink "CopiedFireModel" 237 ⟨"CopiedFireModel", "go", "()V"⟩ ∈ TB := TBm (tk6 (List.mem_of_getElem? (i := 104) (by decide +kernel))) rfl
theorem cnX10_237 : gCn RX10 237 yX10_go := Or.inl wd1074
theorem wd1075 : Cond.methodLink "CopiedFireModel" 225 ⟨"CopiedFireModel", "isLetter", "(I)Z"⟩ ∈ TB := TBm (tk6 (List.mem_of_getElem? (i := 108) (by decide +kernel))) rfl
theorem cnX10_225 : gCn RX10 225 yX10_isLetter := Or.inl wd1075
theorem wd1076 : Cond.methodLink "CopiedFireModel" 231 ⟨"CopiedFireModel", "isFigure", "(I)Z"⟩ ∈ TB := TBm (tk6 (List.mem_of_getElem? (i := 112) (by decide +kernel))) rfl
theorem cnX10_231 : gCn RX10 231 yX10_isFigure := Or.inl wd1076
theorem wd1077 : Cond.methodLink "CopiedFireModel" 268 ⟨"CopiedFireModel", "takesKey", "()Z"⟩ ∈ TB := TBm (tk6 (List.mem_of_getElem? (i := 116) (by decide +kernel))) rfl
theorem cnX10_268 : gCn RX10 268 yX10_takesKey := Or.inl wd1077
theorem wd1078 : Cond.methodLink "CopiedFireModel" 271 ⟨"CopiedFireModel", "takesE", "()Z"⟩ ∈ TB := TBm (tk6 (List.mem_of_getElem? (i := 120) (by decide +kernel))) rfl
theorem cnX10_271 : gCn RX10 271 yX10_takesE := Or.inl wd1078
theorem wd1079 : Cond.methodLink "CopiedFireModel" 258 ⟨"CopiedFireModel", "takesPart", "()Z"⟩ ∈ TB := TBm (tk6 (List.mem_of_getElem? (i := 124) (by decide +kernel))) rfl
theorem cnX10_258 : gCn RX10 258 yX10_takesPart := Or.inl wd1079
theorem wd1080 : Cond.methodLink "CopiedFireModel" 249 ⟨"CopiedFireModel", "nameOf", "(I)I"⟩ ∈ TB := TBm (tk6 (List.mem_of_getElem? (i := 128) (by decide +kernel))) rfl
theorem cnX10_249 : gCn RX10 249 yX10_nameOf := Or.inl wd1080
theorem wd1081 : Cond.methodLink "CopiedFireModel" 255 ⟨"CopiedFireModel", "settle", "(I)V"⟩ ∈ TB := TBm (tk6 (List.mem_of_getElem? (i := 132) (by decide +kernel))) rfl
theorem cnX10_255 : gCn RX10 255 yX10_settle := Or.inl wd1081
theorem wd1082 : Cond.methodLink "CopiedFireModel" 243 ⟨"CopiedFireModel", "rank", "(I)I"⟩ ∈ TB := TBm (tk6 (List.mem_of_getElem? (i := 136) (by decide +kernel))) rfl
theorem cnX10_243 : gCn RX10 243 yX10_rank := Or.inl wd1082
theorem wd1083 : Cond.methodLink "CopiedFireModel" 262 ⟨"CopiedFireModel", "notsOpen", "()I"⟩ ∈ TB := TBm (tk6 (List.mem_of_getElem? (i := 139) (by decide +kernel))) rfl
theorem cnX10_262 : gCn RX10 262 yX10_notsOpen := Or.inl wd1083
theorem wd1084 : Cond.methodLink "CopiedFireModel" 265 ⟨"CopiedFireModel", "signHere", "()I"⟩ ∈ TB := TBm (tk6 (List.mem_of_getElem? (i := 143) (by decide +kernel))) rfl
theorem cnX10_265 : gCn RX10 265 yX10_signHere := Or.inl wd1084
theorem wd1085 : Cond.methodLink "CopiedFireLaw" 145 ⟨"CopiedFireModel", "textTold", "(II)I"⟩ ∈ TB := TBm (tk6 (List.mem_of_getElem? (i := 147) (by decide +kernel))) rfl
theorem cnL_145 : gCn RL 145 yX10_textTold := Or.inl wd1085
theorem wd1086 : Cond.methodLink "CopiedFireLaw" 149 ⟨"CopiedFireModel", "why", "(I)I"⟩ ∈ TB := TBm (tk6 (List.mem_of_getElem? (i := 151) (by decide +kernel))) rfl
theorem cnL_149 : gCn RL 149 yX10_why := Or.inl wd1086
theorem wd1087 : Cond.methodLink "CopiedFireLaw" 153 ⟨"CopiedFireModel", "sheet", "(III)I"⟩ ∈ TB := TBm (tk6 (List.mem_of_getElem? (i := 155) (by decide +kernel))) rfl
theorem cnL_153 : gCn RL 153 yX10_sheet := Or.inl wd1087
theorem wd1088 : Cond.methodLink "CopiedFireLaw" 157 ⟨"CopiedFireModel", "mark", "(III)I"⟩ ∈ TB := TBm (tk6 (List.mem_of_getElem? (i := 160) (by decide +kernel))) rfl
theorem cnL_157 : gCn RL 157 yX10_mark := Or.inl wd1088
theorem wd1089 : Cond.methodLink "CopiedFireLaw" 161 ⟨"CopiedFireModel", "pour", "(I)I"⟩ ∈ TB := TBm (tk6 (List.mem_of_getElem? (i := 167) (by decide +kernel))) rfl
theorem cnL_161 : gCn RL 161 yX10_pour := Or.inl wd1089
theorem wd1090 : Cond.methodLink "CopiedFireLaw" 165 ⟨"CopiedFireModel", "reads", "(I)I"⟩ ∈ TB := TBm (tk6 (List.mem_of_getElem? (i := 171) (by decide +kernel))) rfl
theorem cnL_165 : gCn RL 165 yX10_reads := Or.inl wd1090
theorem wd1091 : Cond.methodLink "CopiedFireLaw" 170 ⟨"CopiedFireModel", "copy", "(IIIII)I"⟩ ∈ TB := TBm (tk6 (List.mem_of_getElem? (i := 175) (by decide +kernel))) rfl
theorem cnL_170 : gCn RL 170 yX10_copy := Or.inl wd1091
theorem wd1092 : Cond.methodLink "CopiedFireLaw" 174 ⟨"CopiedFireModel", "lay", "(III)I"⟩ ∈ TB := TBm (tk6 (List.mem_of_getElem? (i := 179) (by decide +kernel))) rfl
theorem cnL_174 : gCn RL 174 yX10_lay := Or.inl wd1092
theorem wd1093 : Cond.methodLink "CopiedFireModel" 281 ⟨"CopiedFireModel", "isSlot", "(I)Z"⟩ ∈ TB := TBm (tk6 (List.mem_of_getElem? (i := 183) (by decide +kernel))) rfl
theorem cnX10_281 : gCn RX10 281 yX10_isSlot := Or.inl wd1093
theorem wd1094 : Cond.methodLink "CopiedFireLaw" 178 ⟨"CopiedFireModel", "ask", "(II)I"⟩ ∈ TB := TBm (tk6 (List.mem_of_getElem? (i := 186) (by decide +kernel))) rfl
theorem cnL_178 : gCn RL 178 yX10_ask := Or.inl wd1094
theorem wd1095 : Cond.methodLink "CopiedFireLaw" 182 ⟨"CopiedFireModel", "item", "(II)I"⟩ ∈ TB := TBm (tk6 (List.mem_of_getElem? (i := 190) (by decide +kernel))) rfl
theorem cnL_182 : gCn RL 182 yX10_item := Or.inl wd1095
theorem wd1096 : Cond.methodLink "CopiedFireLaw" 186 ⟨"CopiedFireModel", "rest", "(II)I"⟩ ∈ TB := TBm (tk6 (List.mem_of_getElem? (i := 194) (by decide +kernel))) rfl
theorem cnL_186 : gCn RL 186 yX10_rest := Or.inl wd1096
theorem wd1097 : Cond.methodLink "CopiedFireLaw" 190 ⟨"CopiedFireModel", "tell", "(I)I"⟩ ∈ TB := TBm (tk6 (List.mem_of_getElem? (i := 199) (by decide +kernel))) rfl
theorem cnL_190 : gCn RL 190 yX10_tell := Or.inl wd1097
theorem wd1098 : Cond.methodLink "CopiedFireLaw" 194 ⟨"CopiedFireModel", "check", "(I)I"⟩ ∈ TB := TBm (tk6 (List.mem_of_getElem? (i := 203) (by decide +kernel))) rfl
theorem cnL_194 : gCn RL 194 yX10_check := Or.inl wd1098
theorem wd1099 : Cond.methodLink "CopiedFireLaw" 198 ⟨"CopiedFireModel", "keep", "()I"⟩ ∈ TB := TBm (tk6 (List.mem_of_getElem? (i := 207) (by decide +kernel))) rfl
theorem cnL_198 : gCn RL 198 yX10_keep := Or.inl wd1099
theorem wd1100 : Cond.methodLink "CopiedFireLaw" 202 ⟨"CopiedFireModel", "back", "()I"⟩ ∈ TB := TBm (tk6 (List.mem_of_getElem? (i := 211) (by decide +kernel))) rfl
theorem cnL_202 : gCn RL 202 yX10_back := Or.inl wd1100
theorem wd1101 : Cond.methodLink "CopiedFireLaw" 206 ⟨"CopiedFireModel", "count", "(I)I"⟩ ∈ TB := TBm (tk6 (List.mem_of_getElem? (i := 215) (by decide +kernel))) rfl
theorem cnL_206 : gCn RL 206 yX10_count := Or.inl wd1101
theorem wd1102 : Cond.static ⟨"java/lang/Math", "max", "(II)I"⟩ ∈ TB := TBm (tk2 (List.mem_of_getElem? (i := 95) (by decide +kernel))) rfl
theorem wd1103 : Cond.initialized "java/lang/Math" ∈ TB := TBm (tk1 (List.mem_of_getElem? (i := 11) (by decide +kernel))) rfl
theorem wm_max : Cond.static Lib.Math.max.name ∈ TB ∧ Cond.initialized "java/lang/Math" ∈ TB ∧ Cond.code Lib.Math.max.name Lib.Math.max.code 2 (some .int) ∈ TB := ⟨wd1102, wd1103, TBm (tk2 (List.mem_of_getElem? (i := 96) (by decide +kernel))) rfl⟩
theorem wd1104 : Cond.static ⟨"java/lang/Math", "min", "(II)I"⟩ ∈ TB := TBm (tk2 (List.mem_of_getElem? (i := 92) (by decide +kernel))) rfl
theorem wm_min : Cond.static Lib.Math.min.name ∈ TB ∧ Cond.initialized "java/lang/Math" ∈ TB ∧ Cond.code Lib.Math.min.name Lib.Math.min.code 2 (some .int) ∈ TB := ⟨wd1104, wd1103, TBm (tk2 (List.mem_of_getElem? (i := 93) (by decide +kernel))) rfl⟩
theorem wd1105 : Cond.static ⟨"java/lang/Math", "abs", "(I)I"⟩ ∈ TB := TBm (tk3 (List.mem_of_getElem? (i := 109) (by decide +kernel))) rfl
theorem wm_abs : Cond.static Lib.Math.abs.name ∈ TB ∧ Cond.initialized "java/lang/Math" ∈ TB ∧ Cond.code Lib.Math.abs.name Lib.Math.abs.code 1 (some .int) ∈ TB := ⟨wd1105, wd1103, TBm (tk3 (List.mem_of_getElem? (i := 110) (by decide +kernel))) rfl⟩
theorem wd1106 : Cond.native ⟨"java/lang/System", "arraycopy", "(Ljava/lang/Object;ILjava/lang/Object;II)V"⟩ ∈ TB := TBm (tk3 (List.mem_of_getElem? (i := 46) (by decide +kernel))) rfl
theorem wd1107 : Cond.static ⟨"java/lang/System", "arraycopy", "(Ljava/lang/Object;ILjava/lang/Object;II)V"⟩ ∈ TB := TBm (tk3 (List.mem_of_getElem? (i := 45) (by decide +kernel))) rfl
theorem wd1108 : Cond.initialized "java/lang/System" ∈ TB := TBm (tk1 (List.mem_of_getElem? (i := 14) (by decide +kernel))) rfl
theorem wm_copy : Cond.native arraycopyName ∈ TB ∧ Cond.static arraycopyName ∈ TB ∧ Cond.initialized "java/lang/System" ∈ TB := ⟨wd1106, wd1107, wd1108⟩
theorem wd1109 : Cond.constant "CopiedFire" 94 (-1000000001) ∈ TB := TBm (tk2 (List.mem_of_getElem? (i := 58) (by decide +kernel))) rfl
theorem kcX9_94 : Cond.constant RX9 94 (-1000000001) ∈ TB := wd1109
theorem wd1110 : Cond.constant "CopiedFire" 98 (-1000000003) ∈ TB := TBm (tk2 (List.mem_of_getElem? (i := 59) (by decide +kernel))) rfl
theorem kcX9_98 : Cond.constant RX9 98 (-1000000003) ∈ TB := wd1110
theorem wd1111 : Cond.constant "CopiedFire" 138 (-1000000012) ∈ TB := TBm (tk2 (List.mem_of_getElem? (i := 119) (by decide +kernel))) rfl
theorem kcX9_138 : Cond.constant RX9 138 (-1000000012) ∈ TB := wd1111
theorem wd1112 : Cond.constant "CopiedFire$House" 145 1103515245 ∈ TB := TBm (tk2 (List.mem_of_getElem? (i := 143) (by decide +kernel))) rfl
theorem kcX0_145 : Cond.constant RX0 145 (1103515245) ∈ TB := wd1112
theorem wd1113 : Cond.constant "java/lang/Integer" 265 1431655765 ∈ TB := TBm (tk2 (List.mem_of_getElem? (i := 211) (by decide +kernel))) rfl
theorem kcJI_265 : Cond.constant RJI 265 (1431655765) ∈ TB := wd1113
theorem wd1114 : Cond.constant "java/lang/Integer" 266 858993459 ∈ TB := TBm (tk2 (List.mem_of_getElem? (i := 212) (by decide +kernel))) rfl
theorem kcJI_266 : Cond.constant RJI 266 (858993459) ∈ TB := wd1114
theorem wd1115 : Cond.constant "java/lang/Integer" 267 252645135 ∈ TB := TBm (tk2 (List.mem_of_getElem? (i := 213) (by decide +kernel))) rfl
theorem kcJI_267 : Cond.constant RJI 267 (252645135) ∈ TB := wd1115
theorem wd1116 : Cond.constant "CopiedFire$Seating" 36 (-1000000005) ∈ TB := TBm (tk2 (List.mem_of_getElem? (i := 219) (by decide +kernel))) rfl
theorem kcX4_36 : Cond.constant RX4 36 (-1000000005) ∈ TB := wd1116
theorem wd1117 : Cond.constant "CopiedFire" 192 (-1000000005) ∈ TB := TBm (tk2 (List.mem_of_getElem? (i := 229) (by decide +kernel))) rfl
theorem kcX9_192 : Cond.constant RX9 192 (-1000000005) ∈ TB := wd1117
theorem wd1118 : Cond.constant "CopiedFire" 219 2147483647 ∈ TB := TBm (tk3 (List.mem_of_getElem? (i := 47) (by decide +kernel))) rfl
theorem kcX9_219 : Cond.constant RX9 219 (2147483647) ∈ TB := wd1118
theorem wd1119 : Cond.constant "CopiedFire" 230 (-1000000011) ∈ TB := TBm (tk3 (List.mem_of_getElem? (i := 83) (by decide +kernel))) rfl
theorem kcX9_230 : Cond.constant RX9 230 (-1000000011) ∈ TB := wd1119
theorem wd1120 : Cond.constant "CopiedFire$Sheet" 42 (-1000000005) ∈ TB := TBm (tk3 (List.mem_of_getElem? (i := 98) (by decide +kernel))) rfl
theorem kcX5_42 : Cond.constant RX5 42 (-1000000005) ∈ TB := wd1120
theorem wd1121 : Cond.constant "CopiedFire$Laws" 33 (-1000000001) ∈ TB := TBm (tk4 (List.mem_of_getElem? (i := 106) (by decide +kernel))) rfl
theorem kcX2_33 : Cond.constant RX2 33 (-1000000001) ∈ TB := wd1121
theorem wd1122 : Cond.constant "CopiedFire" 282 (-1000000014) ∈ TB := TBm (tk4 (List.mem_of_getElem? (i := 124) (by decide +kernel))) rfl
theorem kcX9_282 : Cond.constant RX9 282 (-1000000014) ∈ TB := wd1122
theorem wd1123 : Cond.constant "CopiedFire" 286 (-1000000013) ∈ TB := TBm (tk4 (List.mem_of_getElem? (i := 130) (by decide +kernel))) rfl
theorem kcX9_286 : Cond.constant RX9 286 (-1000000013) ∈ TB := wd1123
theorem wd1124 : Cond.constant "CopiedFire" 293 (-99999) ∈ TB := TBm (tk4 (List.mem_of_getElem? (i := 131) (by decide +kernel))) rfl
theorem kcX9_293 : Cond.constant RX9 293 (-99999) ∈ TB := wd1124
theorem wd1125 : Cond.constant "CopiedFire" 294 99999 ∈ TB := TBm (tk4 (List.mem_of_getElem? (i := 132) (by decide +kernel))) rfl
theorem kcX9_294 : Cond.constant RX9 294 (99999) ∈ TB := wd1125
theorem wd1126 : Cond.constant "CopiedFire" 335 (-1000000002) ∈ TB := TBm (tk4 (List.mem_of_getElem? (i := 179) (by decide +kernel))) rfl
theorem kcX9_335 : Cond.constant RX9 335 (-1000000002) ∈ TB := wd1126
theorem wd1127 : Cond.constant "CopiedFireModel" 115 (-1000000001) ∈ TB := TBm (tk5 (List.mem_of_getElem? (i := 93) (by decide +kernel))) rfl
theorem kcX10_115 : Cond.constant RX10 115 (-1000000001) ∈ TB := wd1127
theorem wd1128 : Cond.constant "CopiedFireModel" 116 (-1000000003) ∈ TB := TBm (tk5 (List.mem_of_getElem? (i := 94) (by decide +kernel))) rfl
theorem kcX10_116 : Cond.constant RX10 116 (-1000000003) ∈ TB := wd1128
theorem wd1129 : Cond.constant "CopiedFireModel" 139 (-1000000012) ∈ TB := TBm (tk5 (List.mem_of_getElem? (i := 152) (by decide +kernel))) rfl
theorem kcX10_139 : Cond.constant RX10 139 (-1000000012) ∈ TB := wd1129
theorem wd1130 : Cond.constant "CopiedFireModel" 143 1103515245 ∈ TB := TBm (tk5 (List.mem_of_getElem? (i := 173) (by decide +kernel))) rfl
theorem kcX10_143 : Cond.constant RX10 143 (1103515245) ∈ TB := wd1130
theorem wd1131 : Cond.constant "CopiedFireModel" 161 (-1000000005) ∈ TB := TBm (tk5 (List.mem_of_getElem? (i := 221) (by decide +kernel))) rfl
theorem kcX10_161 : Cond.constant RX10 161 (-1000000005) ∈ TB := wd1131
theorem wd1132 : Cond.constant "CopiedFireModel" 206 (-1000000011) ∈ TB := TBm (tk6 (List.mem_of_getElem? (i := 72) (by decide +kernel))) rfl
theorem kcX10_206 : Cond.constant RX10 206 (-1000000011) ∈ TB := wd1132
theorem wd1133 : Cond.constant "CopiedFireModel" 277 (-1000000014) ∈ TB := TBm (tk6 (List.mem_of_getElem? (i := 159) (by decide +kernel))) rfl
theorem kcX10_277 : Cond.constant RX10 277 (-1000000014) ∈ TB := wd1133
theorem wd1134 : Cond.constant "CopiedFireModel" 278 (-1000000013) ∈ TB := TBm (tk6 (List.mem_of_getElem? (i := 164) (by decide +kernel))) rfl
theorem kcX10_278 : Cond.constant RX10 278 (-1000000013) ∈ TB := wd1134
theorem wd1135 : Cond.constant "CopiedFireModel" 279 (-99999) ∈ TB := TBm (tk6 (List.mem_of_getElem? (i := 165) (by decide +kernel))) rfl
theorem kcX10_279 : Cond.constant RX10 279 (-99999) ∈ TB := wd1135
theorem wd1136 : Cond.constant "CopiedFireModel" 280 99999 ∈ TB := TBm (tk6 (List.mem_of_getElem? (i := 166) (by decide +kernel))) rfl
theorem kcX10_280 : Cond.constant RX10 280 (99999) ∈ TB := wd1136
theorem wd1137 : Cond.constant "CopiedFireModel" 284 (-1000000002) ∈ TB := TBm (tk6 (List.mem_of_getElem? (i := 198) (by decide +kernel))) rfl
theorem kcX10_284 : Cond.constant RX10 284 (-1000000002) ∈ TB := wd1137
theorem wn41 : Cond.arrayOver (Jvm.ClassFile.FieldType.object "CopiedFire$Text") ∈ NW := NWm (tk1 (List.mem_of_getElem? (i := 36) (by decide +kernel))) rfl
theorem kx_overText : Cond.arrayOver (.object "CopiedFire$Text") ∈ NW := wn41
theorem wn42 : Cond.arrayOver (Jvm.ClassFile.FieldType.object "CopiedFire$Sheet") ∈ NW := NWm (tk1 (List.mem_of_getElem? (i := 199) (by decide +kernel))) rfl
theorem kx_overSheet : Cond.arrayOver (.object "CopiedFire$Sheet") ∈ NW := wn42
theorem wn43 : Cond.arrayOver (Jvm.ClassFile.FieldType.object "CopiedFire$Slot") ∈ NW := NWm (tk1 (List.mem_of_getElem? (i := 219) (by decide +kernel))) rfl
theorem kx_overSlot : Cond.arrayOver (.object "CopiedFire$Slot") ∈ NW := wn43
theorem wd1138 : Cond.arrayClass Jvm.ClassFile.FieldType.int ∈ TB := TBm (tk1 (List.mem_of_getElem? (i := 44) (by decide +kernel))) rfl
theorem kx_acint : Cond.arrayClass .int ∈ TB := wd1138
theorem wd1139 : Cond.arrayClass Jvm.ClassFile.FieldType.char ∈ TB := TBm (tk5 (List.mem_of_getElem? (i := 78) (by decide +kernel))) rfl
theorem kx_acchar : Cond.arrayClass .char ∈ TB := wd1139
theorem wd1140 : Cond.arrayClass Jvm.ClassFile.FieldType.boolean ∈ TB := TBm (tk5 (List.mem_of_getElem? (i := 79) (by decide +kernel))) rfl
theorem kx_acboolean : Cond.arrayClass .boolean ∈ TB := wd1140
theorem wd1141 : Cond.classLink "CopiedFireLaw" 7 "CopiedFire" ∈ TB := TBm (tk1 (List.mem_of_getElem? (i := 21) (by decide +kernel))) rfl
theorem clL_7 : Cond.classLink RL 7 RX9 ∈ TB := wd1141
theorem wd1142 : Cond.instantiable "CopiedFire" 13 ∈ TB := TBm (tk1 (List.mem_of_getElem? (i := 22) (by decide +kernel))) rfl
theorem inX9 : Cond.instantiable RX9 13 ∈ TB ∧ Cond.initialized RX9 ∈ TB := ⟨wd1142, wd188⟩
theorem wd1143 : Cond.methodLink "CopiedFire" 1 ⟨"java/lang/Object", "<init>", "()V"⟩ ∈ TB := TBm (tk1 (List.mem_of_getElem? (i := 26) (by decide +kernel))) rfl
theorem coX9_1 : Cond.methodLink RX9 1 Lib.objectInit ∈ TB := wd1143
theorem wd1144 : Cond.classLink "CopiedFire" 7 "CopiedFire$Laws" ∈ TB := TBm (tk1 (List.mem_of_getElem? (i := 29) (by decide +kernel))) rfl
theorem clX9_7 : Cond.classLink RX9 7 RX2 ∈ TB := wd1144
theorem wd1145 : Cond.instantiable "CopiedFire$Laws" 2 ∈ TB := TBm (tk1 (List.mem_of_getElem? (i := 30) (by decide +kernel))) rfl
theorem inX2 : Cond.instantiable RX2 2 ∈ TB ∧ Cond.initialized RX2 ∈ TB := ⟨wd1145, wd190⟩
theorem wd1146 : Cond.methodLink "CopiedFire$Laws" 3 ⟨"java/lang/Object", "<init>", "()V"⟩ ∈ TB := TBm (tk1 (List.mem_of_getElem? (i := 34) (by decide +kernel))) rfl
theorem coX2_3 : Cond.methodLink RX2 3 Lib.objectInit ∈ TB := wd1146
theorem wd1147 : Cond.classLink "CopiedFire$Laws" 9 "CopiedFire$Text" ∈ TB := TBm (tk1 (List.mem_of_getElem? (i := 35) (by decide +kernel))) rfl
theorem clX2_9 : Cond.classLink RX2 9 RX8 ∈ TB := wd1147
theorem wd1148 : Cond.classLink "CopiedFire" 16 "CopiedFire$House" ∈ TB := TBm (tk1 (List.mem_of_getElem? (i := 45) (by decide +kernel))) rfl
theorem clX9_16 : Cond.classLink RX9 16 RX0 ∈ TB := wd1148
theorem wd1149 : Cond.instantiable "CopiedFire$House" 19 ∈ TB := TBm (tk1 (List.mem_of_getElem? (i := 46) (by decide +kernel))) rfl
theorem inX0 : Cond.instantiable RX0 19 ∈ TB ∧ Cond.initialized RX0 ∈ TB := ⟨wd1149, wd192⟩
theorem wd1150 : Cond.methodLink "CopiedFire$House" 3 ⟨"java/lang/Object", "<init>", "()V"⟩ ∈ TB := TBm (tk1 (List.mem_of_getElem? (i := 50) (by decide +kernel))) rfl
theorem coX0_3 : Cond.methodLink RX0 3 Lib.objectInit ∈ TB := wd1150
theorem wd1151 : Cond.classLink "CopiedFire" 31 "CopiedFire$Seating" ∈ TB := TBm (tk1 (List.mem_of_getElem? (i := 132) (by decide +kernel))) rfl
theorem clX9_31 : Cond.classLink RX9 31 RX4 ∈ TB := wd1151
theorem wd1152 : Cond.instantiable "CopiedFire$Seating" 2 ∈ TB := TBm (tk1 (List.mem_of_getElem? (i := 133) (by decide +kernel))) rfl
theorem inX4 : Cond.instantiable RX4 2 ∈ TB ∧ Cond.initialized RX4 ∈ TB := ⟨wd1152, wd197⟩
theorem wd1153 : Cond.methodLink "CopiedFire$Seating" 3 ⟨"java/lang/Object", "<init>", "()V"⟩ ∈ TB := TBm (tk1 (List.mem_of_getElem? (i := 137) (by decide +kernel))) rfl
theorem coX4_3 : Cond.methodLink RX4 3 Lib.objectInit ∈ TB := wd1153
theorem wd1154 : Cond.classLink "CopiedFire" 38 "CopiedFire$Tape" ∈ TB := TBm (tk1 (List.mem_of_getElem? (i := 146) (by decide +kernel))) rfl
theorem clX9_38 : Cond.classLink RX9 38 RX7 ∈ TB := wd1154
theorem wd1155 : Cond.instantiable "CopiedFire$Tape" 2 ∈ TB := TBm (tk1 (List.mem_of_getElem? (i := 147) (by decide +kernel))) rfl
theorem inX7 : Cond.instantiable RX7 2 ∈ TB ∧ Cond.initialized RX7 ∈ TB := ⟨wd1155, wd199⟩
theorem wd1156 : Cond.methodLink "CopiedFire$Tape" 3 ⟨"java/lang/Object", "<init>", "()V"⟩ ∈ TB := TBm (tk1 (List.mem_of_getElem? (i := 151) (by decide +kernel))) rfl
theorem coX7_3 : Cond.methodLink RX7 3 Lib.objectInit ∈ TB := wd1156
theorem wd1157 : Cond.classLink "CopiedFire" 45 "CopiedFire$Reader" ∈ TB := TBm (tk1 (List.mem_of_getElem? (i := 162) (by decide +kernel))) rfl
theorem clX9_45 : Cond.classLink RX9 45 RX3 ∈ TB := wd1157
theorem wd1158 : Cond.instantiable "CopiedFire$Reader" 9 ∈ TB := TBm (tk1 (List.mem_of_getElem? (i := 163) (by decide +kernel))) rfl
theorem inX3 : Cond.instantiable RX3 9 ∈ TB ∧ Cond.initialized RX3 ∈ TB := ⟨wd1158, wd201⟩
theorem wd1159 : Cond.methodLink "CopiedFire$Reader" 3 ⟨"java/lang/Object", "<init>", "()V"⟩ ∈ TB := TBm (tk1 (List.mem_of_getElem? (i := 167) (by decide +kernel))) rfl
theorem coX3_3 : Cond.methodLink RX3 3 Lib.objectInit ∈ TB := wd1159
theorem wd1160 : Cond.classLink "CopiedFire" 54 "CopiedFire$Sheet" ∈ TB := TBm (tk1 (List.mem_of_getElem? (i := 198) (by decide +kernel))) rfl
theorem clX9_54 : Cond.classLink RX9 54 RX5 ∈ TB := wd1160
theorem wd1161 : Cond.instantiable "CopiedFire$Sheet" 3 ∈ TB := TBm (tk1 (List.mem_of_getElem? (i := 200) (by decide +kernel))) rfl
theorem inX5 : Cond.instantiable RX5 3 ∈ TB ∧ Cond.initialized RX5 ∈ TB := ⟨wd1161, wd203⟩
theorem wd1162 : Cond.methodLink "CopiedFire$Sheet" 3 ⟨"java/lang/Object", "<init>", "()V"⟩ ∈ TB := TBm (tk1 (List.mem_of_getElem? (i := 204) (by decide +kernel))) rfl
theorem coX5_3 : Cond.methodLink RX5 3 Lib.objectInit ∈ TB := wd1162
theorem wd1163 : Cond.classLink "CopiedFire" 61 "CopiedFire$Slot" ∈ TB := TBm (tk1 (List.mem_of_getElem? (i := 218) (by decide +kernel))) rfl
theorem clX9_61 : Cond.classLink RX9 61 RX6 ∈ TB := wd1163
theorem wd1164 : Cond.instantiable "CopiedFire$Slot" 5 ∈ TB := TBm (tk1 (List.mem_of_getElem? (i := 220) (by decide +kernel))) rfl
theorem inX6 : Cond.instantiable RX6 5 ∈ TB ∧ Cond.initialized RX6 ∈ TB := ⟨wd1164, wd205⟩
theorem wd1165 : Cond.methodLink "CopiedFire$Slot" 3 ⟨"java/lang/Object", "<init>", "()V"⟩ ∈ TB := TBm (tk1 (List.mem_of_getElem? (i := 224) (by decide +kernel))) rfl
theorem coX6_3 : Cond.methodLink RX6 3 Lib.objectInit ∈ TB := wd1165
theorem wd1166 : Cond.classLink "CopiedFire$Slot" 9 "CopiedFire$Sheet" ∈ TB := TBm (tk1 (List.mem_of_getElem? (i := 225) (by decide +kernel))) rfl
theorem clX6_9 : Cond.classLink RX6 9 RX5 ∈ TB := wd1166
theorem wd1167 : Cond.classLink "CopiedFire$Reader" 52 "CopiedFire$Text" ∈ TB := TBm (tk4 (List.mem_of_getElem? (i := 62) (by decide +kernel))) rfl
theorem clX3_52 : Cond.classLink RX3 52 RX8 ∈ TB := wd1167
theorem wd1168 : Cond.instantiable "CopiedFire$Text" 3 ∈ TB := TBm (tk4 (List.mem_of_getElem? (i := 63) (by decide +kernel))) rfl
theorem inX8 : Cond.instantiable RX8 3 ∈ TB ∧ Cond.initialized RX8 ∈ TB := ⟨wd1168, wd495⟩
theorem wd1169 : Cond.methodLink "CopiedFire$Text" 1 ⟨"java/lang/Object", "<init>", "()V"⟩ ∈ TB := TBm (tk4 (List.mem_of_getElem? (i := 79) (by decide +kernel))) rfl
theorem coX8_1 : Cond.methodLink RX8 1 Lib.objectInit ∈ TB := wd1169
theorem wd1170 : Cond.classLink "CopiedFireLaw" 10 "CopiedFireModel" ∈ TB := TBm (tk4 (List.mem_of_getElem? (i := 200) (by decide +kernel))) rfl
theorem clL_10 : Cond.classLink RL 10 RX10 ∈ TB := wd1170
theorem wd1171 : Cond.instantiable "CopiedFireModel" 37 ∈ TB := TBm (tk4 (List.mem_of_getElem? (i := 201) (by decide +kernel))) rfl
theorem inX10 : Cond.instantiable RX10 37 ∈ TB ∧ Cond.initialized RX10 ∈ TB := ⟨wd1171, wd568⟩
theorem wd1172 : Cond.methodLink "CopiedFireModel" 1 ⟨"java/lang/Object", "<init>", "()V"⟩ ∈ TB := TBm (tk4 (List.mem_of_getElem? (i := 205) (by decide +kernel))) rfl
theorem coX10_1 : Cond.methodLink RX10 1 Lib.objectInit ∈ TB := wd1172
theorem wd1173 : Cond.instanceMethod ⟨"java/lang/Object", "<init>", "()V"⟩ ∈ TB := TBm (tk1 (List.mem_of_getElem? (i := 27) (by decide +kernel))) rfl
theorem kx_oi : Cond.instanceMethod Lib.objectInit ∈ TB ∧ Cond.code Lib.objectInit ⟨#[0xb1]⟩ 1 none ∈ TB := ⟨wd1173, TBm (tk1 (List.mem_of_getElem? (i := 28) (by decide +kernel))) rfl⟩
theorem wn44 : Cond.fieldLinkNest "CopiedFire$Kinds" 9 "CopiedFire" "KIND_ABOVE" "[I" "CopiedFire" ∈ NW := NWm (tk2 (List.mem_of_getElem? (i := 117) (by decide +kernel))) rfl
theorem kx_kab : Cond.fieldLinkNest RX1 9 "CopiedFire" "KIND_ABOVE" "[I" "CopiedFire" ∈ NW := wn44
theorem wd1174 : Cond.fieldLink "java/lang/String" 38 "java/lang/String" "COMPACT_STRINGS" "Z" ∈ TB := TBm (tk3 (List.mem_of_getElem? (i := 166) (by decide +kernel))) rfl
theorem kx_cst : Cond.fieldLink RJS 38 "java/lang/String" "COMPACT_STRINGS" "Z" ∈ TB := wd1174
theorem wd1175 : Cond.fieldLink "java/lang/String" 1053 "jdk/internal/util/Preconditions" "SIOOBE_FORMATTER" "Ljava/util/function/BiFunction;" ∈ TB := TBm (tk3 (List.mem_of_getElem? (i := 182) (by decide +kernel))) rfl
theorem kx_siob : Cond.fieldLink RJS 1053 "jdk/internal/util/Preconditions" "SIOOBE_FORMATTER" "Ljava/util/function/BiFunction;" ∈ TB := wd1175
theorem wd1176 : Cond.fieldLink "java/lang/String" 9 "java/lang/String" "value" "[B" ∈ TB := TBm (tk6 (List.mem_of_getElem? (i := 219) (by decide +kernel))) rfl
theorem kx_sval : Cond.fieldLink RJS 9 "java/lang/String" "value" "[B" ∈ TB := wd1176
theorem wd1177 : Cond.fieldLink "java/lang/String" 15 "java/lang/String" "coder" "B" ∈ TB := TBm (tk6 (List.mem_of_getElem? (i := 220) (by decide +kernel))) rfl
theorem kx_scod : Cond.fieldLink RJS 15 "java/lang/String" "coder" "B" ∈ TB := wd1177
