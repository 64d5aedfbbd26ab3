/-! what the law's entry gives: the texts, the statics, what led's throw needs -/
def nFL : List Cond := flatC (Jvm.Cond.and given_1 narrow_1)
def sIx : List Nat := [248, 140, 144, 232, 138, 197, 108, 114, 102, 246, 115, 106, 259, 261, 146, 142, 213, 136, 104, 253, 110, 112]
def sTm (i : Nat) : Term := .string RX5 (sIx.getD i 0)
theorem sM1 : ∀ i ∈ List.range 22, Cond.exactly (sTm i) "java/lang/String" ∈ nFL := by decide +kernel
theorem sM2 : ∀ i ∈ List.range 22, Cond.eq (.field (sTm i) "java/lang/String" "coder" "B") (.int 0) ∈ nFL := by decide +kernel
theorem sM3 : ∀ i ∈ List.range 22, Cond.arrayOf (.field (sTm i) "java/lang/String" "value" "[B") .byte ∈ nFL := by decide +kernel
theorem sM4 : ∀ i ∈ List.range 22, Cond.eq (.length (.field (sTm i) "java/lang/String" "value" "[B")) (.int (Int32.ofNat (sLenL.getD i 0))) ∈ nFL := by decide +kernel
theorem sM5 : ∀ i ∈ List.range 22, ∀ j ∈ List.range (sLenL.getD i 0), Cond.eq (.elem (.field (sTm i) "java/lang/String" "value" "[B") (.int (Int32.ofNat j))) (.int ((sBytL.getD i []).getD j 0)) ∈ nFL := by decide +kernel
theorem sM6 : ∀ q ∈ strL, Cond.stringRef q.1 q.2.1 q.2.2.1 ∈ lw_tbl := by decide +kernel
theorem sM7 : ∀ q ∈ strL, q.2.2.2 < 22 ∧ ((q.1 = RX5 ∧ sIx.getD q.2.2.2 0 = q.2.1) ∨ Cond.eq (sTm q.2.2.2) (.string q.1 q.2.1) ∈ nFL) := by decide +kernel
theorem sM8 : ∀ i ∈ List.range 22, ∀ j ∈ List.range 22, Int32.ofNat (sLenL.getD i 0) = Int32.ofNat (sLenL.getD j 0) → (∀ k ∈ List.range (sLenL.getD i 0), (sBytL.getD i []).getD k 0 = (sBytL.getD j []).getD k 0) → i = j := by decide +kernel
theorem sM9 : ∀ i ∈ List.range 22, ∀ j ∈ List.range 22, Int32.ofNat (sLenL.getD i 0) = Int32.ofNat (sLenL.getD j 0) → sLenL.getD i 0 = sLenL.getD j 0 := by decide +kernel
theorem sMz : ∀ w ∈ [Cond.laysStatic "java/lang/String" "COMPACT_STRINGS" "Z", .initialized "java/lang/String", .laysStatic "jdk/internal/util/Preconditions" "SIOOBE_FORMATTER" "Ljava/util/function/BiFunction;", .initialized "jdk/internal/util/Preconditions", .stringRef RX8 305 "no such held thing", .laysStatic Bundle.tN "UNASSIGNED_STACK" Bundle.steD, .laysStatic Bundle.tN "SUPPRESSED_SENTINEL" Bundle.listD, .initialized Bundle.tN], w ∈ lw_tbl := by decide +kernel
theorem sMn : ∀ w ∈ [Cond.eq (.static "java/lang/String" "COMPACT_STRINGS" "Z") (.int 1), .isRef (.static "jdk/internal/util/Preconditions" "SIOOBE_FORMATTER" "Ljava/util/function/BiFunction;"), .exactly (.string RX8 305) "java/lang/String", .isRef (.static Bundle.tN "UNASSIGNED_STACK" Bundle.steD), .isRef (.static Bundle.tN "SUPPRESSED_SENTINEL" Bundle.listD)], w ∈ nFL := by decide +kernel
