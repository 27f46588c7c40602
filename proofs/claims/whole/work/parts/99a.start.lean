/-! what the tables and the premises give at the start -/
def tmS (i : Nat) : Term := .string (strs.getD i ("", 0, "")).1 (strs.getD i ("", 0, "")).2.1
def flG : List Cond := flatC (Jvm.Cond.and given_1 narrow_1)
theorem g_len : ∀ i : Nat, i < 13 → slen.getD i 0 < 2 ^ 31 := by decide +kernel
theorem g_ex0 : ∀ i : Nat, i < 13 → flG[([22, 98, 107, 118, 130, 142, 156, 171, 187, 203, 220, 239, 258] : List Nat).getD i 0]? = some (Cond.exactly (tmS i) "java/lang/String") := by decide +kernel
theorem g_ex (i : Nat) (h : i < 13) : Cond.exactly (tmS i) "java/lang/String" ∈ flG := List.mem_of_getElem? (g_ex0 i h)
theorem g_co0 : ∀ i : Nat, i < 13 → flG[([23, 99, 108, 119, 131, 143, 157, 172, 188, 204, 221, 240, 259] : List Nat).getD i 0]? = some (Cond.eq (.field (tmS i) "java/lang/String" "coder" "B") (.int 0)) := by decide +kernel
theorem g_co (i : Nat) (h : i < 13) : Cond.eq (.field (tmS i) "java/lang/String" "coder" "B") (.int 0) ∈ flG := List.mem_of_getElem? (g_co0 i h)
theorem g_ar0 : ∀ i : Nat, i < 13 → flG[([24, 100, 109, 120, 132, 144, 158, 173, 189, 205, 222, 241, 260] : List Nat).getD i 0]? = some (Cond.arrayOf (.field (tmS i) "java/lang/String" "value" "[B") .byte) := by decide +kernel
theorem g_ar (i : Nat) (h : i < 13) : Cond.arrayOf (.field (tmS i) "java/lang/String" "value" "[B") .byte ∈ flG := List.mem_of_getElem? (g_ar0 i h)
theorem g_le0 : ∀ i : Nat, i < 13 → flG[([25, 101, 110, 121, 133, 145, 159, 174, 190, 206, 223, 242, 261] : List Nat).getD i 0]? = some (Cond.eq (.length (.field (tmS i) "java/lang/String" "value" "[B")) (.int (Int32.ofNat (slen.getD i 0)))) := by decide +kernel
theorem g_le (i : Nat) (h : i < 13) : Cond.eq (.length (.field (tmS i) "java/lang/String" "value" "[B")) (.int (Int32.ofNat (slen.getD i 0))) ∈ flG := List.mem_of_getElem? (g_le0 i h)
theorem g_el0 : ∀ i : Nat, i < 13 → ∀ j : Nat, j < slen.getD i 0 → flG[([26, 102, 111, 122, 134, 146, 160, 175, 191, 207, 224, 243, 262] : List Nat).getD i 0 + j]? = some (Cond.eq (.elem (.field (tmS i) "java/lang/String" "value" "[B") (.int (Int32.ofNat j))) (.int ((sbyt.getD i []).getD j 0))) := by decide +kernel
theorem g_el (i : Nat) (h : i < 13) (j : Nat) (hj : j < slen.getD i 0) : Cond.eq (.elem (.field (tmS i) "java/lang/String" "value" "[B") (.int (Int32.ofNat j))) (.int ((sbyt.getD i []).getD j 0)) ∈ flG := List.mem_of_getElem? (g_el0 i h j hj)
theorem g_ne0 : ∀ i : Nat, i < 13 → ∀ j : Nat, j < i → flG[(([[], [106], [116, 117], [127, 128, 129], [138, 139, 140, 141], [151, 152, 153, 154, 155], [165, 166, 167, 168, 169, 170], [180, 181, 182, 183, 184, 185, 186], [195, 196, 197, 198, 199, 200, 201, 202], [211, 212, 213, 214, 215, 216, 217, 218, 219], [229, 230, 231, 232, 233, 234, 235, 236, 237, 238], [247, 248, 249, 250, 251, 252, 253, 254, 255, 256, 257], [266, 267, 268, 269, 270, 271, 272, 273, 274, 275, 276, 277]] : List (List Nat)).getD i []).getD j 0]? = some (Cond.not (Cond.eq (tmS j) (tmS i))) := by decide +kernel
theorem g_ne (i : Nat) (hi : i < 13) (j : Nat) (hj : j < 13) (hij : i ≠ j) : Cond.not (Cond.eq (tmS i) (tmS j)) ∈ flG ∨ Cond.not (Cond.eq (tmS j) (tmS i)) ∈ flG := by
  rcases Nat.lt_or_gt_of_ne hij with h | h
  · exact Or.inl (List.mem_of_getElem? (g_ne0 j hj i h))
  · exact Or.inr (List.mem_of_getElem? (g_ne0 i hi j h))
theorem g_sr : ∀ q ∈ strs, Cond.stringRef q.1 q.2.1 q.2.2 ∈ lw_tbl := by decide +kernel
theorem g_ns : ∀ q ∈ nsts, Cond.methodLinkNest q.1 q.2.1 q.2.2 "PullCards" ∈ lw_tbl := by decide +kernel
theorem g_cs : Cond.eq (.static "java/lang/String" "COMPACT_STRINGS" "Z") (.int 1) ∈ flG := List.mem_of_getElem? (i := 4) (by decide +kernel)
theorem g_si : Cond.isRef (.static "jdk/internal/util/Preconditions" "SIOOBE_FORMATTER" "Ljava/util/function/BiFunction;") ∈ flG := List.mem_of_getElem? (i := 5) (by decide +kernel)
theorem g_us : Cond.isRef (.static Bundle.tN "UNASSIGNED_STACK" Bundle.steD) ∈ flG := List.mem_of_getElem? (i := 9) (by decide +kernel)
theorem g_ss : Cond.isRef (.static Bundle.tN "SUPPRESSED_SENTINEL" Bundle.listD) ∈ flG := List.mem_of_getElem? (i := 10) (by decide +kernel)
theorem g_l : ∀ w ∈ [Cond.laysStatic "java/lang/String" "COMPACT_STRINGS" "Z", Cond.initialized "java/lang/String", Cond.laysStatic "jdk/internal/util/Preconditions" "SIOOBE_FORMATTER" "Ljava/util/function/BiFunction;", Cond.initialized "jdk/internal/util/Preconditions", Cond.laysStatic Bundle.tN "UNASSIGNED_STACK" Bundle.steD, Cond.laysStatic Bundle.tN "SUPPRESSED_SENTINEL" Bundle.listD, Cond.initialized Bundle.tN, Cond.arrayOver (.object "PullCards$Image")], w ∈ lw_tbl := by decide +kernel
theorem g_t : ∀ w ∈ [Cond.arrayClass .int, Cond.arrayClass .byte, Cond.arrayClass .boolean, Cond.arrayClass .long, Cond.classLink RL 8 RX9, Cond.initialized RX9, Cond.methodLink RL 15 yX9_init, Cond.instanceMethod yX9_init, Cond.code yX9_init cX9_init 2 none, Cond.classLink RL 16 RX10, Cond.initialized RX10, Cond.methodLink RL 18 yX10_init, Cond.instanceMethod yX10_init, Cond.code yX10_init cX10_init 1 none, Cond.instantiable RX0 3, Cond.instantiable RX1 3, Cond.instantiable RX2 3, Cond.instantiable RX3 18, Cond.instantiable RX4 6, Cond.instantiable RX5 12, Cond.instantiable RX6 5, Cond.instantiable RX7 6, Cond.instantiable RX8 3, Cond.instantiable RX9 13, Cond.instantiable RX10 41], w ∈ TB := by decide +kernel
