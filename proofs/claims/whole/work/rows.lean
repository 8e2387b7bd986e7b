section
-- ===== PART A: goes FIRST, ahead of the names: the tables' words, and 'selects' of the private methods out of them =====
/-- a private method of a class that the tables say can be made, by its rows of tables_1 -/
def lw_okq (q : MethodName × Nat) : Prop := (q.1.cls ≠ "java/lang/invoke/MethodHandle" ∧ q.1.cls ≠ "java/lang/invoke/VarHandle") ∧ Cond.instantiable q.1.cls q.2 ∈ tables_1 ∧ Cond.privateMethod q.1 ∈ tables_1 ∧ Cond.instanceMethod q.1 ∈ tables_1
theorem lw_p0 : lw_okq (⟨"DropSignals$Evening", "clearDeal", "()V"⟩, 14) := ⟨⟨by decide +kernel, by decide +kernel⟩, List.mem_of_getElem? (i := 29) (by decide +kernel), List.mem_of_getElem? (i := 93) (by decide +kernel), List.mem_of_getElem? (i := 94) (by decide +kernel)⟩
theorem lw_p1 : lw_okq (⟨"DropSignals$Writing", "isDigitAllowed", "(II)Z"⟩, 2) := ⟨⟨by decide +kernel, by decide +kernel⟩, List.mem_of_getElem? (i := 193) (by decide +kernel), List.mem_of_getElem? (i := 275) (by decide +kernel), List.mem_of_getElem? (i := 276) (by decide +kernel)⟩
theorem lw_p2 : lw_okq (⟨"DropSignals$Writing", "isBetween", "(III)Z"⟩, 2) := ⟨⟨by decide +kernel, by decide +kernel⟩, List.mem_of_getElem? (i := 193) (by decide +kernel), List.mem_of_getElem? (i := 279) (by decide +kernel), List.mem_of_getElem? (i := 280) (by decide +kernel)⟩
theorem lw_p3 : lw_okq (⟨"DropSignals$Memory", "store", "(ILDropSignals$Evening;)V"⟩, 3) := ⟨⟨by decide +kernel, by decide +kernel⟩, List.mem_of_getElem? (i := 158) (by decide +kernel), List.mem_of_getElem? (i := 294) (by decide +kernel), List.mem_of_getElem? (i := 295) (by decide +kernel)⟩
theorem lw_p4 : lw_okq (⟨"DropSignals$Evening", "suitToFollow", "()I"⟩, 14) := ⟨⟨by decide +kernel, by decide +kernel⟩, List.mem_of_getElem? (i := 29) (by decide +kernel), List.mem_of_getElem? (i := 350) (by decide +kernel), List.mem_of_getElem? (i := 351) (by decide +kernel)⟩
theorem lw_p5 : lw_okq (⟨"DropSignals$Evening", "firstSignalCard", "(I)I"⟩, 14) := ⟨⟨by decide +kernel, by decide +kernel⟩, List.mem_of_getElem? (i := 29) (by decide +kernel), List.mem_of_getElem? (i := 374) (by decide +kernel), List.mem_of_getElem? (i := 375) (by decide +kernel)⟩
theorem lw_p6 : lw_okq (⟨"DropSignals$Evening", "secondSignalCard", "(I)I"⟩, 14) := ⟨⟨by decide +kernel, by decide +kernel⟩, List.mem_of_getElem? (i := 29) (by decide +kernel), List.mem_of_getElem? (i := 387) (by decide +kernel), List.mem_of_getElem? (i := 388) (by decide +kernel)⟩
theorem lw_p7 : lw_okq (⟨"DropSignals$Evening", "lowestPlayable", "(I)I"⟩, 14) := ⟨⟨by decide +kernel, by decide +kernel⟩, List.mem_of_getElem? (i := 29) (by decide +kernel), List.mem_of_getElem? (i := 401) (by decide +kernel), List.mem_of_getElem? (i := 402) (by decide +kernel)⟩
theorem lw_p8 : lw_okq (⟨"java/lang/Throwable", "fillInStackTrace", "(I)Ljava/lang/Throwable;"⟩, 6) := ⟨⟨by decide +kernel, by decide +kernel⟩, List.mem_of_getElem? (i := 452) (by decide +kernel), List.mem_of_getElem? (i := 450) (by decide +kernel), List.mem_of_getElem? (i := 451) (by decide +kernel)⟩
theorem lw_p9 : lw_okq (⟨"DropSignals$Evening", "noteBehindLead", "(II)V"⟩, 14) := ⟨⟨by decide +kernel, by decide +kernel⟩, List.mem_of_getElem? (i := 29) (by decide +kernel), List.mem_of_getElem? (i := 572) (by decide +kernel), List.mem_of_getElem? (i := 573) (by decide +kernel)⟩
theorem lw_p10 : lw_okq (⟨"DropSignals$Evening", "countSignal", "(II)V"⟩, 14) := ⟨⟨by decide +kernel, by decide +kernel⟩, List.mem_of_getElem? (i := 29) (by decide +kernel), List.mem_of_getElem? (i := 592) (by decide +kernel), List.mem_of_getElem? (i := 593) (by decide +kernel)⟩
theorem lw_p11 : lw_okq (⟨"DropSignals$Evening", "endTrick", "()V"⟩, 14) := ⟨⟨by decide +kernel, by decide +kernel⟩, List.mem_of_getElem? (i := 29) (by decide +kernel), List.mem_of_getElem? (i := 600) (by decide +kernel), List.mem_of_getElem? (i := 601) (by decide +kernel)⟩
theorem lw_p12 : lw_okq (⟨"DropSignals$Evening", "addScore", "()V"⟩, 14) := ⟨⟨by decide +kernel, by decide +kernel⟩, List.mem_of_getElem? (i := 29) (by decide +kernel), List.mem_of_getElem? (i := 612) (by decide +kernel), List.mem_of_getElem? (i := 613) (by decide +kernel)⟩
theorem lw_p13 : lw_okq (⟨"DropSignals", "checkInPlay", "()V"⟩, 6) := ⟨⟨by decide +kernel, by decide +kernel⟩, List.mem_of_getElem? (i := 21) (by decide +kernel), List.mem_of_getElem? (i := 732) (by decide +kernel), List.mem_of_getElem? (i := 733) (by decide +kernel)⟩
theorem lw_p14 : lw_okq (⟨"DropSignals", "checkFewCards", "()V"⟩, 6) := ⟨⟨by decide +kernel, by decide +kernel⟩, List.mem_of_getElem? (i := 21) (by decide +kernel), List.mem_of_getElem? (i := 796) (by decide +kernel), List.mem_of_getElem? (i := 797) (by decide +kernel)⟩
theorem lw_p15 : lw_okq (⟨"DropSignals$OpenCards", "takeHand", "(LDropSignals$Cards;I)I"⟩, 8) := ⟨⟨by decide +kernel, by decide +kernel⟩, List.mem_of_getElem? (i := 206) (by decide +kernel), List.mem_of_getElem? (i := 817) (by decide +kernel), List.mem_of_getElem? (i := 818) (by decide +kernel)⟩
def lw_privs_1 : List (MethodName × Nat) := [(⟨"DropSignals$Evening", "clearDeal", "()V"⟩, 14), (⟨"DropSignals$Writing", "isDigitAllowed", "(II)Z"⟩, 2), (⟨"DropSignals$Writing", "isBetween", "(III)Z"⟩, 2), (⟨"DropSignals$Memory", "store", "(ILDropSignals$Evening;)V"⟩, 3), (⟨"DropSignals$Evening", "suitToFollow", "()I"⟩, 14), (⟨"DropSignals$Evening", "firstSignalCard", "(I)I"⟩, 14), (⟨"DropSignals$Evening", "secondSignalCard", "(I)I"⟩, 14), (⟨"DropSignals$Evening", "lowestPlayable", "(I)I"⟩, 14), (⟨"java/lang/Throwable", "fillInStackTrace", "(I)Ljava/lang/Throwable;"⟩, 6), (⟨"DropSignals$Evening", "noteBehindLead", "(II)V"⟩, 14), (⟨"DropSignals$Evening", "countSignal", "(II)V"⟩, 14), (⟨"DropSignals$Evening", "endTrick", "()V"⟩, 14), (⟨"DropSignals$Evening", "addScore", "()V"⟩, 14), (⟨"DropSignals", "checkInPlay", "()V"⟩, 6), (⟨"DropSignals", "checkFewCards", "()V"⟩, 6), (⟨"DropSignals$OpenCards", "takeHand", "(LDropSignals$Cards;I)I"⟩, 8)]
theorem lw_r1 : ∀ q ∈ lw_privs_1, lw_okq q := List.forall_mem_cons.mpr ⟨lw_p0, List.forall_mem_cons.mpr ⟨lw_p1, List.forall_mem_cons.mpr ⟨lw_p2, List.forall_mem_cons.mpr ⟨lw_p3, List.forall_mem_cons.mpr ⟨lw_p4, List.forall_mem_cons.mpr ⟨lw_p5, List.forall_mem_cons.mpr ⟨lw_p6, List.forall_mem_cons.mpr ⟨lw_p7, List.forall_mem_cons.mpr ⟨lw_p8, List.forall_mem_cons.mpr ⟨lw_p9, List.forall_mem_cons.mpr ⟨lw_p10, List.forall_mem_cons.mpr ⟨lw_p11, List.forall_mem_cons.mpr ⟨lw_p12, List.forall_mem_cons.mpr ⟨lw_p13, List.forall_mem_cons.mpr ⟨lw_p14, List.forall_mem_cons.mpr ⟨lw_p15, fun _ h => absurd h List.not_mem_nil⟩⟩⟩⟩⟩⟩⟩⟩⟩⟩⟩⟩⟩⟩⟩⟩
theorem lw_p16 : lw_okq (⟨"DropSignals$OpenCards", "tricksFrom", "(IIII)I"⟩, 8) := ⟨⟨by decide +kernel, by decide +kernel⟩, List.mem_of_getElem? (i := 206) (by decide +kernel), List.mem_of_getElem? (i := 826) (by decide +kernel), List.mem_of_getElem? (i := 827) (by decide +kernel)⟩
theorem lw_p17 : lw_okq (⟨"DropSignals$OpenCards", "suitToFollow", "(II)I"⟩, 8) := ⟨⟨by decide +kernel, by decide +kernel⟩, List.mem_of_getElem? (i := 206) (by decide +kernel), List.mem_of_getElem? (i := 830) (by decide +kernel), List.mem_of_getElem? (i := 831) (by decide +kernel)⟩
theorem lw_p18 : lw_okq (⟨"DropSignals$OpenCards", "tricksWith", "(IIIII)I"⟩, 8) := ⟨⟨by decide +kernel, by decide +kernel⟩, List.mem_of_getElem? (i := 206) (by decide +kernel), List.mem_of_getElem? (i := 838) (by decide +kernel), List.mem_of_getElem? (i := 839) (by decide +kernel)⟩
theorem lw_p19 : lw_okq (⟨"DropSignalsModel", "refused", "(I)Z"⟩, 16) := ⟨⟨by decide +kernel, by decide +kernel⟩, List.mem_of_getElem? (i := 929) (by decide +kernel), List.mem_of_getElem? (i := 1002) (by decide +kernel), List.mem_of_getElem? (i := 1003) (by decide +kernel)⟩
theorem lw_p20 : lw_okq (⟨"DropSignalsModel", "readText", "([I)I"⟩, 16) := ⟨⟨by decide +kernel, by decide +kernel⟩, List.mem_of_getElem? (i := 929) (by decide +kernel), List.mem_of_getElem? (i := 1014) (by decide +kernel), List.mem_of_getElem? (i := 1015) (by decide +kernel)⟩
theorem lw_p21 : lw_okq (⟨"DropSignalsModel", "readCommand", "([I)Z"⟩, 16) := ⟨⟨by decide +kernel, by decide +kernel⟩, List.mem_of_getElem? (i := 929) (by decide +kernel), List.mem_of_getElem? (i := 1018) (by decide +kernel), List.mem_of_getElem? (i := 1019) (by decide +kernel)⟩
theorem lw_p22 : lw_okq (⟨"DropSignalsModel", "figures", "(IIII)I"⟩, 16) := ⟨⟨by decide +kernel, by decide +kernel⟩, List.mem_of_getElem? (i := 929) (by decide +kernel), List.mem_of_getElem? (i := 1022) (by decide +kernel), List.mem_of_getElem? (i := 1023) (by decide +kernel)⟩
theorem lw_p23 : lw_okq (⟨"DropSignalsModel", "dealOn", "([IJ)I"⟩, 16) := ⟨⟨by decide +kernel, by decide +kernel⟩, List.mem_of_getElem? (i := 929) (by decide +kernel), List.mem_of_getElem? (i := 1027) (by decide +kernel), List.mem_of_getElem? (i := 1028) (by decide +kernel)⟩
theorem lw_p24 : lw_okq (⟨"DropSignalsModel", "done", "(Z)Z"⟩, 16) := ⟨⟨by decide +kernel, by decide +kernel⟩, List.mem_of_getElem? (i := 929) (by decide +kernel), List.mem_of_getElem? (i := 1033) (by decide +kernel), List.mem_of_getElem? (i := 1034) (by decide +kernel)⟩
theorem lw_p25 : lw_okq (⟨"DropSignalsModel", "remember", "()V"⟩, 16) := ⟨⟨by decide +kernel, by decide +kernel⟩, List.mem_of_getElem? (i := 929) (by decide +kernel), List.mem_of_getElem? (i := 1132) (by decide +kernel), List.mem_of_getElem? (i := 1133) (by decide +kernel)⟩
theorem lw_p26 : lw_okq (⟨"DropSignalsModel", "isNearEnd", "()Z"⟩, 16) := ⟨⟨by decide +kernel, by decide +kernel⟩, List.mem_of_getElem? (i := 929) (by decide +kernel), List.mem_of_getElem? (i := 1179) (by decide +kernel), List.mem_of_getElem? (i := 1180) (by decide +kernel)⟩
theorem lw_p27 : lw_okq (⟨"DropSignalsModel", "searched", "([II)I"⟩, 16) := ⟨⟨by decide +kernel, by decide +kernel⟩, List.mem_of_getElem? (i := 929) (by decide +kernel), List.mem_of_getElem? (i := 1183) (by decide +kernel), List.mem_of_getElem? (i := 1184) (by decide +kernel)⟩
theorem lw_p28 : lw_okq (⟨"DropSignalsModel", "push", "([III)V"⟩, 16) := ⟨⟨by decide +kernel, by decide +kernel⟩, List.mem_of_getElem? (i := 929) (by decide +kernel), List.mem_of_getElem? (i := 1187) (by decide +kernel), List.mem_of_getElem? (i := 1188) (by decide +kernel)⟩
theorem lw_p29 : lw_okq (⟨"DropSignalsModel", "command", "(II)Z"⟩, 16) := ⟨⟨by decide +kernel, by decide +kernel⟩, List.mem_of_getElem? (i := 929) (by decide +kernel), List.mem_of_getElem? (i := 1203) (by decide +kernel), List.mem_of_getElem? (i := 1204) (by decide +kernel)⟩
theorem lw_p30 : lw_okq (⟨"DropSignalsModel", "playsAdvice", "(I)Z"⟩, 16) := ⟨⟨by decide +kernel, by decide +kernel⟩, List.mem_of_getElem? (i := 929) (by decide +kernel), List.mem_of_getElem? (i := 1207) (by decide +kernel), List.mem_of_getElem? (i := 1208) (by decide +kernel)⟩
theorem lw_p31 : lw_okq (⟨"DropSignalsModel", "isTurn", "(I)Z"⟩, 16) := ⟨⟨by decide +kernel, by decide +kernel⟩, List.mem_of_getElem? (i := 929) (by decide +kernel), List.mem_of_getElem? (i := 1211) (by decide +kernel), List.mem_of_getElem? (i := 1212) (by decide +kernel)⟩
def lw_privs_2 : List (MethodName × Nat) := [(⟨"DropSignals$OpenCards", "tricksFrom", "(IIII)I"⟩, 8), (⟨"DropSignals$OpenCards", "suitToFollow", "(II)I"⟩, 8), (⟨"DropSignals$OpenCards", "tricksWith", "(IIIII)I"⟩, 8), (⟨"DropSignalsModel", "refused", "(I)Z"⟩, 16), (⟨"DropSignalsModel", "readText", "([I)I"⟩, 16), (⟨"DropSignalsModel", "readCommand", "([I)Z"⟩, 16), (⟨"DropSignalsModel", "figures", "(IIII)I"⟩, 16), (⟨"DropSignalsModel", "dealOn", "([IJ)I"⟩, 16), (⟨"DropSignalsModel", "done", "(Z)Z"⟩, 16), (⟨"DropSignalsModel", "remember", "()V"⟩, 16), (⟨"DropSignalsModel", "isNearEnd", "()Z"⟩, 16), (⟨"DropSignalsModel", "searched", "([II)I"⟩, 16), (⟨"DropSignalsModel", "push", "([III)V"⟩, 16), (⟨"DropSignalsModel", "command", "(II)Z"⟩, 16), (⟨"DropSignalsModel", "playsAdvice", "(I)Z"⟩, 16), (⟨"DropSignalsModel", "isTurn", "(I)Z"⟩, 16)]
theorem lw_r2 : ∀ q ∈ lw_privs_2, lw_okq q := List.forall_mem_cons.mpr ⟨lw_p16, List.forall_mem_cons.mpr ⟨lw_p17, List.forall_mem_cons.mpr ⟨lw_p18, List.forall_mem_cons.mpr ⟨lw_p19, List.forall_mem_cons.mpr ⟨lw_p20, List.forall_mem_cons.mpr ⟨lw_p21, List.forall_mem_cons.mpr ⟨lw_p22, List.forall_mem_cons.mpr ⟨lw_p23, List.forall_mem_cons.mpr ⟨lw_p24, List.forall_mem_cons.mpr ⟨lw_p25, List.forall_mem_cons.mpr ⟨lw_p26, List.forall_mem_cons.mpr ⟨lw_p27, List.forall_mem_cons.mpr ⟨lw_p28, List.forall_mem_cons.mpr ⟨lw_p29, List.forall_mem_cons.mpr ⟨lw_p30, List.forall_mem_cons.mpr ⟨lw_p31, fun _ h => absurd h List.not_mem_nil⟩⟩⟩⟩⟩⟩⟩⟩⟩⟩⟩⟩⟩⟩⟩⟩
theorem lw_p32 : lw_okq (⟨"DropSignalsModel", "turnOf", "([II)V"⟩, 16) := ⟨⟨by decide +kernel, by decide +kernel⟩, List.mem_of_getElem? (i := 929) (by decide +kernel), List.mem_of_getElem? (i := 1220) (by decide +kernel), List.mem_of_getElem? (i := 1221) (by decide +kernel)⟩
def lw_privs_3 : List (MethodName × Nat) := [(⟨"DropSignalsModel", "turnOf", "([II)V"⟩, 16)]
theorem lw_r3 : ∀ q ∈ lw_privs_3, lw_okq q := List.forall_mem_cons.mpr ⟨lw_p32, fun _ h => absurd h List.not_mem_nil⟩
def lw_privs : List (MethodName × Nat) := lw_privs_1 ++ (lw_privs_2 ++ (lw_privs_3))
def lw_tbl : List Cond := k2_sels lw_privs ++ tables_1
theorem lw_privs_ok : ∀ q ∈ lw_privs, lw_okq q := by
  show ∀ q ∈ lw_privs_1 ++ (lw_privs_2 ++ (lw_privs_3)), lw_okq q
  exact List.forall_mem_append.mpr ⟨lw_r1, List.forall_mem_append.mpr ⟨lw_r2, lw_r3⟩⟩
end
section
-- ===== the classes of the world: names, fields in the order of the slots =====
def gN0 : String := "DropSignals$Cards"
def gF0 : u_T := fun k => match k with
  | 0 => ("DropSignals$Cards", "owners", "[I", true)
  | 1 => ("DropSignals$Cards", "times", "[I", true)
  | 2 => ("DropSignals$Cards", "order", "[I", true)
  | _ => ("DropSignals$Cards", "laid", "I", false)
def gX0 : Nat → FieldType := fun k => match k with
  | 0 => .array .int
  | 1 => .array .int
  | 2 => .array .int
  | _ => .int
theorem gD0 : ∀ a, a < 4 → ∀ b, b < 4 → a ≠ b → (gF0 a).2.1 ≠ (gF0 b).2.1 := by decide +kernel
theorem gY0 : ∀ k, k < 4 → parseFieldDescriptor (gF0 k).2.2.1 = some (gX0 k) := by decide +kernel
def gN1 : String := "DropSignals$Drops"
def gF1 : u_T := fun k => match k with
  | 0 => ("DropSignals$Drops", "counts", "[I", true)
  | 1 => ("DropSignals$Drops", "firsts", "[I", true)
  | 2 => ("DropSignals$Drops", "signals", "[I", true)
  | _ => ("DropSignals$Drops", "nones", "[I", true)
def gX1 : Nat → FieldType := fun k => match k with
  | 0 => .array .int
  | 1 => .array .int
  | 2 => .array .int
  | _ => .array .int
theorem gD1 : ∀ a, a < 4 → ∀ b, b < 4 → a ≠ b → (gF1 a).2.1 ≠ (gF1 b).2.1 := by decide +kernel
theorem gY1 : ∀ k, k < 4 → parseFieldDescriptor (gF1 k).2.2.1 = some (gX1 k) := by decide +kernel
def gN2 : String := "DropSignals$Evening"
def gF2 : u_T := fun k => match k with
  | 0 => ("DropSignals$Evening", "cards", "LDropSignals$Cards;", true)
  | 1 => ("DropSignals$Evening", "drops", "LDropSignals$Drops;", true)
  | 2 => ("DropSignals$Evening", "tricks", "[I", true)
  | 3 => ("DropSignals$Evening", "scores", "[I", true)
  | 4 => ("DropSignals$Evening", "deals", "I", false)
  | 5 => ("DropSignals$Evening", "phase", "I", false)
  | 6 => ("DropSignals$Evening", "turn", "I", false)
  | 7 => ("DropSignals$Evening", "level", "I", false)
  | 8 => ("DropSignals$Evening", "suit", "I", false)
  | 9 => ("DropSignals$Evening", "bidder", "I", false)
  | 10 => ("DropSignals$Evening", "passes", "I", false)
  | 11 => ("DropSignals$Evening", "signals", "I", false)
  | 12 => ("DropSignals$Evening", "trueSignals", "I", false)
  | _ => ("DropSignals$Evening", "refused", "I", false)
def gX2 : Nat → FieldType := fun k => match k with
  | 0 => .object "DropSignals$Cards"
  | 1 => .object "DropSignals$Drops"
  | 2 => .array .int
  | 3 => .array .int
  | 4 => .int
  | 5 => .int
  | 6 => .int
  | 7 => .int
  | 8 => .int
  | 9 => .int
  | 10 => .int
  | 11 => .int
  | 12 => .int
  | _ => .int
theorem gD2 : ∀ a, a < 14 → ∀ b, b < 14 → a ≠ b → (gF2 a).2.1 ≠ (gF2 b).2.1 := by decide +kernel
theorem gY2 : ∀ k, k < 14 → parseFieldDescriptor (gF2 k).2.2.1 = some (gX2 k) := by decide +kernel
def gN3 : String := "DropSignals$Memory"
def gF3 : u_T := fun k => match k with
  | 0 => ("DropSignals$Memory", "states", "[LDropSignals$Evening;", true)
  | 1 => ("DropSignals$Memory", "next", "I", false)
  | _ => ("DropSignals$Memory", "count", "I", false)
def gX3 : Nat → FieldType := fun k => match k with
  | 0 => .array (.object "DropSignals$Evening")
  | 1 => .int
  | _ => .int
theorem gD3 : ∀ a, a < 3 → ∀ b, b < 3 → a ≠ b → (gF3 a).2.1 ≠ (gF3 b).2.1 := by decide +kernel
theorem gY3 : ∀ k, k < 3 → parseFieldDescriptor (gF3 k).2.2.1 = some (gX3 k) := by decide +kernel
def gN4 : String := "DropSignals$OpenCards"
def gF4 : u_T := fun k => match k with
  | 0 => ("DropSignals$OpenCards", "hands", "[I", true)
  | 1 => ("DropSignals$OpenCards", "row", "[I", true)
  | 2 => ("DropSignals$OpenCards", "placed", "I", false)
  | 3 => ("DropSignals$OpenCards", "total", "I", false)
  | 4 => ("DropSignals$OpenCards", "leader", "I", false)
  | 5 => ("DropSignals$OpenCards", "side", "I", false)
  | 6 => ("DropSignals$OpenCards", "trumps", "I", false)
  | _ => ("DropSignals$OpenCards", "cuts", "Z", false)
def gX4 : Nat → FieldType := fun k => match k with
  | 0 => .array .int
  | 1 => .array .int
  | 2 => .int
  | 3 => .int
  | 4 => .int
  | 5 => .int
  | 6 => .int
  | _ => .boolean
theorem gD4 : ∀ a, a < 8 → ∀ b, b < 8 → a ≠ b → (gF4 a).2.1 ≠ (gF4 b).2.1 := by decide +kernel
theorem gY4 : ∀ k, k < 8 → parseFieldDescriptor (gF4 k).2.2.1 = some (gX4 k) := by decide +kernel
def gN5 : String := "DropSignals$Slots"
def gF5 : u_T := fun k => match k with
  | 0 => ("DropSignals$Slots", "states", "[LDropSignals$Evening;", true)
  | _ => ("DropSignals$Slots", "used", "[Z", true)
def gX5 : Nat → FieldType := fun k => match k with
  | 0 => .array (.object "DropSignals$Evening")
  | _ => .array .boolean
theorem gD5 : ∀ a, a < 2 → ∀ b, b < 2 → a ≠ b → (gF5 a).2.1 ≠ (gF5 b).2.1 := by decide +kernel
theorem gY5 : ∀ k, k < 2 → parseFieldDescriptor (gF5 k).2.2.1 = some (gX5 k) := by decide +kernel
def gN6 : String := "DropSignals$Writing"
def gF6 : u_T := fun k => match k with
  | 0 => ("DropSignals$Writing", "signs", "[I", true)
  | _ => ("DropSignals$Writing", "length", "I", false)
def gX6 : Nat → FieldType := fun k => match k with
  | 0 => .array .int
  | _ => .int
theorem gD6 : ∀ a, a < 2 → ∀ b, b < 2 → a ≠ b → (gF6 a).2.1 ≠ (gF6 b).2.1 := by decide +kernel
theorem gY6 : ∀ k, k < 2 → parseFieldDescriptor (gF6 k).2.2.1 = some (gX6 k) := by decide +kernel
def gN7 : String := "DropSignals"
def gF7 : u_T := fun k => match k with
  | 0 => ("DropSignals", "now", "LDropSignals$Evening;", true)
  | 1 => ("DropSignals", "copy", "LDropSignals$Evening;", true)
  | 2 => ("DropSignals", "memory", "LDropSignals$Memory;", true)
  | 3 => ("DropSignals", "slots", "LDropSignals$Slots;", true)
  | 4 => ("DropSignals", "writing", "LDropSignals$Writing;", true)
  | _ => ("DropSignals", "openCards", "LDropSignals$OpenCards;", true)
def gX7 : Nat → FieldType := fun k => match k with
  | 0 => .object "DropSignals$Evening"
  | 1 => .object "DropSignals$Evening"
  | 2 => .object "DropSignals$Memory"
  | 3 => .object "DropSignals$Slots"
  | 4 => .object "DropSignals$Writing"
  | _ => .object "DropSignals$OpenCards"
theorem gD7 : ∀ a, a < 6 → ∀ b, b < 6 → a ≠ b → (gF7 a).2.1 ≠ (gF7 b).2.1 := by decide +kernel
theorem gY7 : ∀ k, k < 6 → parseFieldDescriptor (gF7 k).2.2.1 = some (gX7 k) := by decide +kernel
def gN8 : String := "DropSignalsModel"
def gF8 : u_T := fun k => match k with
  | 0 => ("DropSignalsModel", "refusal", "I", false)
  | 1 => ("DropSignalsModel", "text", "[I", true)
  | 2 => ("DropSignalsModel", "size", "I", false)
  | 3 => ("DropSignalsModel", "now", "[I", true)
  | 4 => ("DropSignalsModel", "trial", "[I", true)
  | 5 => ("DropSignalsModel", "line", "[I", true)
  | 6 => ("DropSignalsModel", "pile", "[I", true)
  | 7 => ("DropSignalsModel", "next", "[I", true)
  | 8 => ("DropSignalsModel", "best", "[I", true)
  | 9 => ("DropSignalsModel", "row", "[I", true)
  | 10 => ("DropSignalsModel", "diary", "[I", true)
  | 11 => ("DropSignalsModel", "acts", "I", false)
  | 12 => ("DropSignalsModel", "kept", "[I", true)
  | 13 => ("DropSignalsModel", "isKept", "[Z", true)
  | 14 => ("DropSignalsModel", "spot", "I", false)
  | _ => ("DropSignalsModel", "out", "I", false)
def gX8 : Nat → FieldType := fun k => match k with
  | 0 => .int
  | 1 => .array .int
  | 2 => .int
  | 3 => .array .int
  | 4 => .array .int
  | 5 => .array .int
  | 6 => .array .int
  | 7 => .array .int
  | 8 => .array .int
  | 9 => .array .int
  | 10 => .array .int
  | 11 => .int
  | 12 => .array .int
  | 13 => .array .boolean
  | 14 => .int
  | _ => .int
theorem gD8 : ∀ a, a < 16 → ∀ b, b < 16 → a ≠ b → (gF8 a).2.1 ≠ (gF8 b).2.1 := by decide +kernel
theorem gY8 : ∀ k, k < 16 → parseFieldDescriptor (gF8 k).2.2.1 = some (gX8 k) := by decide +kernel
abbrev gCl : List vw_C := [(gN0, gF0, 4), (gN1, gF1, 4), (gN2, gF2, 14), (gN3, gF3, 3), (gN4, gF4, 8), (gN5, gF5, 2), (gN6, gF6, 2), (gN7, gF7, 6), (gN8, gF8, 16)]
end
section
-- ===== GO: a small logic over W, for worlds of a fixed shape; M g c j is the int j of the cell c of the group g =====
abbrev gMem := Nat → Nat → Nat → Int32
abbrev gSpc := Nat × Nat × List (Option (Nat × Nat))
abbrev gMD := MethodName × ByteArray × Nat × Option FieldType
abbrev gEnv := va_G × (Nat → ClassId) × (Nat → Nat → Nat) × List (Nat × Nat)
abbrev gFin := List Frame → Array Value → State → State → Prop
def gUp (M : gMem) (g c : Nat) (f : Nat → Int32) : gMem := fun g' c' => if g' = g ∧ c' = c then f else M g' c'
theorem gUp_s (M : gMem) (g c : Nat) (f : Nat → Int32) : gUp M g c f g c = f := by simp [gUp]
theorem gUp_n (M : gMem) {g c g' c' : Nat} (f : Nat → Int32) (h : ¬ (g' = g ∧ c' = c)) : gUp M g c f g' c' = M g' c' := by simp only [gUp, if_neg h]
def gHi (x : Int64) : Int32 := Int32.ofInt (x.toInt / 4294967296)
def gLo (x : Int64) : Int32 := Int32.ofInt (x.toInt % 4294967296)
def gL (a b : Int32) : Int64 := Int64.ofInt (a.toInt * 4294967296 + b.toInt % 4294967296)
theorem gL_hl (x : Int64) : gL (gHi x) (gLo x) = x := by
  have h1 := Int64.le_toInt x
  have h2 := Int64.toInt_lt x
  have e1 : (gHi x).toInt = x.toInt / 4294967296 := by
    unfold gHi
    rw [Int32.toInt_ofInt, show Int32.size = 4294967296 from rfl]
    refine Int.bmod_eq_of_le ?_ ?_ <;> omega
  have e2 : (gLo x).toInt % 4294967296 = x.toInt % 4294967296 := by
    unfold gLo
    rw [Int32.toInt_ofInt, show Int32.size = 4294967296 from rfl]
    have e := (Int.bmod_emod : Int.bmod (x.toInt % 4294967296) 4294967296 % ((4294967296 : Nat) : Int) = _)
    omega
  unfold gL
  rw [e1, e2]
  have e3 : x.toInt / 4294967296 * 4294967296 + x.toInt % 4294967296 = x.toInt := by omega
  rw [e3]
  exact Int64.ofInt_toInt x
def gVals (ad : Nat → Nat → Nat) (f : Nat → Int32) : Nat → List (Option (Nat × Nat)) → List Value
  | _, [] => []
  | i, none :: r => .int (f i) :: gVals ad f (i + 1) r
  | i, some q :: r => .ref (ad q.1 q.2) :: gVals ad f (i + 1) r
theorem gVals_len (ad : Nat → Nat → Nat) (f : Nat → Int32) : ∀ (fs : List (Option (Nat × Nat))) (i : Nat), (gVals ad f i fs).length = fs.length
  | [], _ => rfl
  | none :: r, i => by simp only [gVals, List.length_cons, gVals_len ad f r]
  | some q :: r, i => by simp only [gVals, List.length_cons, gVals_len ad f r]
theorem gVals_i (ad : Nat → Nat → Nat) (f : Nat → Int32) : ∀ (fs : List (Option (Nat × Nat))) (i k : Nat), fs[k]? = some none → (gVals ad f i fs)[k]? = some (.int (f (i + k)))
  | [], _, _, h => by simp at h
  | x :: r, i, 0, h => by
    rw [List.getElem?_cons_zero] at h
    cases Option.some.inj h
    rfl
  | none :: r, i, k + 1, h => by
    rw [List.getElem?_cons_succ] at h
    show (Value.int (f i) :: gVals ad f (i + 1) r)[k + 1]? = _
    rw [List.getElem?_cons_succ, gVals_i ad f r (i + 1) k h, show i + 1 + k = i + (k + 1) by omega]
  | some q :: r, i, k + 1, h => by
    rw [List.getElem?_cons_succ] at h
    show (Value.ref (ad q.1 q.2) :: gVals ad f (i + 1) r)[k + 1]? = _
    rw [List.getElem?_cons_succ, gVals_i ad f r (i + 1) k h, show i + 1 + k = i + (k + 1) by omega]
theorem gVals_r (ad : Nat → Nat → Nat) (f : Nat → Int32) : ∀ (fs : List (Option (Nat × Nat))) (i k : Nat) (q : Nat × Nat), fs[k]? = some (some q) → (gVals ad f i fs)[k]? = some (.ref (ad q.1 q.2))
  | [], _, _, _, h => by simp at h
  | x :: r, i, 0, q, h => by
    rw [List.getElem?_cons_zero] at h
    cases Option.some.inj h
    rfl
  | none :: r, i, k + 1, q, h => by
    rw [List.getElem?_cons_succ] at h
    show (Value.int (f i) :: gVals ad f (i + 1) r)[k + 1]? = _
    rw [List.getElem?_cons_succ, gVals_r ad f r (i + 1) k q h]
  | some q0 :: r, i, k + 1, q, h => by
    rw [List.getElem?_cons_succ] at h
    show (Value.ref (ad q0.1 q0.2) :: gVals ad f (i + 1) r)[k + 1]? = _
    rw [List.getElem?_cons_succ, gVals_r ad f r (i + 1) k q h]
theorem gVals_cong (ad : Nat → Nat → Nat) (f h : Nat → Int32) : ∀ (fs : List (Option (Nat × Nat))) (i : Nat), (∀ j, i ≤ j → f j = h j) → gVals ad f i fs = gVals ad h i fs
  | [], _, _ => rfl
  | none :: r, i, e => by
    show Value.int (f i) :: gVals ad f (i + 1) r = Value.int (h i) :: gVals ad h (i + 1) r
    rw [e i (Nat.le_refl i), gVals_cong ad f h r (i + 1) (fun j hj => e j (by omega))]
  | some q :: r, i, e => by
    show Value.ref (ad q.1 q.2) :: gVals ad f (i + 1) r = Value.ref (ad q.1 q.2) :: gVals ad h (i + 1) r
    rw [gVals_cong ad f h r (i + 1) (fun j hj => e j (by omega))]
theorem gVals_set (ad : Nat → Nat → Nat) (f : Nat → Int32) (x : Int32) : ∀ (fs : List (Option (Nat × Nat))) (i k : Nat), fs[k]? = some none → (gVals ad f i fs).set k (.int x) = gVals ad (upd f (i + k) x) i fs
  | [], _, _, h => by simp at h
  | y :: r, i, 0, h => by
    rw [List.getElem?_cons_zero] at h
    cases Option.some.inj h
    show Value.int x :: gVals ad f (i + 1) r = Value.int (upd f (i + 0) x i) :: gVals ad (upd f (i + 0) x) (i + 1) r
    rw [gVals_cong ad f (upd f (i + 0) x) r (i + 1) (fun j hj => by simp only [upd]; rw [if_neg (by omega)])]
    simp [upd]
  | none :: r, i, k + 1, h => by
    rw [List.getElem?_cons_succ] at h
    show Value.int (f i) :: (gVals ad f (i + 1) r).set k (.int x) = Value.int (upd f (i + (k + 1)) x i) :: gVals ad (upd f (i + (k + 1)) x) (i + 1) r
    rw [gVals_set ad f x r (i + 1) k h, show i + 1 + k = i + (k + 1) by omega]
    simp [upd]
  | some q :: r, i, k + 1, h => by
    rw [List.getElem?_cons_succ] at h
    show Value.ref (ad q.1 q.2) :: (gVals ad f (i + 1) r).set k (.int x) = Value.ref (ad q.1 q.2) :: gVals ad (upd f (i + (k + 1)) x) (i + 1) r
    rw [gVals_set ad f x r (i + 1) k h, show i + 1 + k = i + (k + 1) by omega]
def gE (ε : gEnv) (S : gSpc) (f : Nat → Int32) : va_E := match S with
  | (0, n, _) => .inl (ε.2.1 0, n, .inl f)
  | (1, n, _) => .inl (ε.2.1 1, n, .inl f)
  | (2, n, fs) => .inl (ε.2.1 2, n, .inr (.inr (.inr (.inr (fun j => (fs.getD 0 none).map fun q => ε.2.2.1 (q.1 + j) q.2)))))
  | (3, n, fs) => .inr (n, gVals ε.2.2.1 f 0 fs)
  | (_, n, _) => .inl (ε.2.1 4, n, .inr (.inl (fun _ => gL (f 0) (f 1))))

def gEvS (e c : Nat) : gSpc := match c with
  | 0 => (3, 2, [some (e, 1), some (e, 2), some (e, 3), some (e, 4), none, none, none, none, none, none, none, none, none, none])
  | 1 => (3, 0, [some (e, 5), some (e, 6), some (e, 7), none])
  | 2 => (3, 1, [some (e, 8), some (e, 9), some (e, 10), some (e, 11)])
  | 3 => (0, 2, [])
  | 4 => (0, 2, [])
  | 5 => (0, 32, [])
  | 6 => (0, 32, [])
  | 7 => (0, 32, [])
  | _ => (0, 16, [])
def gCS (c : Nat) : gSpc := match c with
  | 0 => (3, 7, [some (0, 0), some (1, 0), some (18, 1), some (18, 3), some (18, 6), some (18, 8)])
  | 1 => (3, 3, [some (18, 2), none, none])
  | 2 => (2, 14, [some (2, 0)])
  | 3 => (3, 5, [some (18, 4), some (18, 5)])
  | 4 => (2, 2, [some (16, 0)])
  | 5 => (1, 2, [])
  | 6 => (3, 6, [some (18, 7), none])
  | 7 => (0, 120, [])
  | 8 => (3, 4, [some (18, 9), some (18, 10), none, none, none, none, none, none])
  | 9 => (0, 12, [])
  | _ => (0, 12, [])
def gMS (c : Nat) : gSpc := match c with
  | 0 => (3, 8, [none, some (19, 1), none, some (19, 2), some (19, 3), some (19, 4), some (19, 5), some (19, 6), some (19, 7), some (19, 8), some (19, 9), none, some (19, 10), some (19, 11), none, none])
  | 1 => (0, 120, [])
  | 2 => (0, 197, [])
  | 3 => (0, 197, [])
  | 4 => (0, 197, [])
  | 5 => (0, 2758, [])
  | 6 => (0, 14, [])
  | 7 => (0, 14, [])
  | 8 => (0, 32, [])
  | 9 => (0, 2758, [])
  | 10 => (0, 394, [])
  | _ => (1, 2, [])
def gS (g c : Nat) : gSpc := if g < 18 then gEvS g c else if g = 18 then gCS c else if g = 19 then gMS c else (4, 1, [])
def gK (ε : gEnv) (M : gMem) (q : Nat × Nat) : Nat × va_E := (ε.2.2.1 q.1 q.2, gE ε (gS q.1 q.2) (M q.1 q.2))
theorem gK_cong (ε : gEnv) {M M1 : gMem} {q : Nat × Nat} (h : M q.1 q.2 = M1 q.1 q.2) : gK ε M q = gK ε M1 q := by unfold gK; rw [h]
def gW (ε : gEnv) (M : gMem) : va_W := ε.2.2.2.map (gK ε M)
def gHas (ε : gEnv) (g c : Nat) (S : gSpc) : Prop := (g, c) ∈ ε.2.2.2 ∧ gS g c = S
def gDj (ε : gEnv) : Prop := ∀ (i j : Nat) (p q : Nat × Nat), ε.2.2.2[i]? = some p → ε.2.2.2[j]? = some q → ε.2.2.1 p.1 p.2 = ε.2.2.1 q.1 q.2 → i = j
def gA (ε : gEnv) (sz : Nat) : Nat → Prop := fun q => (∃ p ∈ ε.2.2.2, q = ε.2.2.1 p.1 p.2) ∨ sz ≤ q
theorem gW_get {ε : gEnv} {M : gMem} {i : Nat} {x : Nat × va_E} (h : (gW ε M)[i]? = some x) : ∃ p : Nat × Nat, ε.2.2.2[i]? = some p ∧ x = gK ε M p := by
  unfold gW at h
  rw [List.getElem?_map] at h
  cases hp : ε.2.2.2[i]? with
  | none => rw [hp] at h; cases h
  | some p => rw [hp] at h; exact ⟨p, rfl, (Option.some.inj h).symm⟩
theorem gW_at {ε : gEnv} {g c : Nat} {S : gSpc} (M : gMem) (h : gHas ε g c S) : ∃ i : Nat, ε.2.2.2[i]? = some (g, c) ∧ (gW ε M)[i]? = some (ε.2.2.1 g c, gE ε S (M g c)) := by
  obtain ⟨h1, rfl⟩ := h
  obtain ⟨i, hi⟩ := List.getElem?_of_mem h1
  refine ⟨i, hi, ?_⟩
  unfold gW
  rw [List.getElem?_map, hi]
  rfl
theorem gD_of {ε : gEnv} (h : gDj ε) (M : gMem) (sz : Nat) : va_D (gA ε sz) (gW ε M) := by
  refine ⟨fun i j x y hi hj hxy => ?_, fun k q hk => ?_⟩
  · obtain ⟨p, hp, rfl⟩ := gW_get hi
    obtain ⟨q, hq, rfl⟩ := gW_get hj
    exact h i j p q hp hq hxy
  · obtain ⟨p, hp, rfl⟩ := gW_get hk
    exact Or.inl ⟨p, List.mem_of_getElem? hp, rfl⟩
theorem gW_set {ε : gEnv} (hd : gDj ε) (M : gMem) {g c i : Nat} (hi : ε.2.2.2[i]? = some (g, c)) (f : Nat → Int32) : (gW ε M).set i (gK ε (gUp M g c f) (g, c)) = gW ε (gUp M g c f) := by
  apply List.ext_getElem?
  intro k
  have hl : i < ε.2.2.2.length := (List.getElem?_eq_some_iff.mp hi).1
  by_cases hk : k = i
  · subst hk
    rw [List.getElem?_set_self (by unfold gW; rw [List.length_map]; exact hl)]
    unfold gW
    rw [List.getElem?_map, hi]
    rfl
  · rw [List.getElem?_set_ne (fun q => hk q.symm)]
    unfold gW
    rw [List.getElem?_map, List.getElem?_map]
    cases hp : ε.2.2.2[k]? with
    | none => rw [Option.map_none, Option.map_none]
    | some p =>
      show some (gK ε M p) = some (gK ε (gUp M g c f) p)
      refine congrArg some (gK_cong ε (gUp_n M f ?_).symm)
      rintro ⟨h1, h2⟩
      refine hk (hd k i p (g, c) hp hi ?_)
      rw [h1, h2]
theorem gK_s (ε : gEnv) (M : gMem) {g c : Nat} {S : gSpc} (h : gHas ε g c S) (f : Nat → Int32) : gK ε (gUp M g c f) (g, c) = (ε.2.2.1 g c, gE ε S f) := by
  obtain ⟨h1, rfl⟩ := h
  have e : gUp M g c f (g, c).1 (g, c).2 = f := gUp_s M g c f
  unfold gK
  rw [e]
theorem gA_mono {ε : gEnv} {a b q : Nat} (h : a ≤ b) (hq : gA ε b q) : gA ε a q := by
  rcases hq with hq | hq
  · exact Or.inl hq
  · exact Or.inr (Nat.le_trans h hq)
def gWs : List Cond := lw_tbl.filter goodWord
theorem gWs_in {w : Cond} {i : Nat} (h : lw_tbl[i]? = some w) (hg : goodWord w = true) : w ∈ gWs := List.mem_filter.mpr ⟨List.mem_of_getElem? h, hg⟩
def gIsN : Cond → Bool
  | .methodLinkNest .. => true
  | .fieldLinkNest .. => true
  | _ => false
def gNw (U : State) : Prop := ∀ w ∈ lw_tbl, gIsN w = true → va_Nw w U
theorem gNw.warm {s U : State} (hW : s.WarmedH U.vm) (h : gNw s) : gNw U := by
  intro w hw hn
  cases w <;> first | (simp [gIsN] at hn; done) | exact va_Nw.warmF hW (h _ hw hn) | exact va_Nw.warmM hW (h _ hw hn)
theorem gNw.same {s U : State} (e : s.vm = U.vm) (h : gNw s) : gNw U := by
  intro w hw hn
  cases w <;> first | (simp [gIsN] at hn; done) | exact va_Nw.same rfl e (h _ hw hn)
def gMw (κ : gMD) : List Cond := .code κ.1 κ.2.1 κ.2.2.1 κ.2.2.2 :: gWs
theorem gGood {κ : gMD} (hc : Cond.code κ.1 κ.2.1 κ.2.2.1 κ.2.2.2 ∈ gWs) : GoodIn gWs (gMw κ) := by
  intro w hw
  rcases List.mem_cons.mp hw with rfl | h
  · exact ⟨hc, good_of_word (List.mem_filter.mp hc).2⟩
  · exact ⟨h, good_of_word (List.mem_filter.mp h).2⟩
def gTy (ε : gEnv) : List (ClassId × FieldType) := [(ε.2.1 0, .int), (ε.2.1 1, .boolean), (ε.2.1 2, .object "DropSignals$Evening"), (ε.2.1 4, .long)]
def gCx (ε : gEnv) (κ : gMD) (p : Program) (s : State) (m : MethodId) (args : Array Value) (meth : Method) (c : Code) : Prop :=
  p.tables.exec = Jvm.exec ∧ c.code = κ.2.1 ∧ meth.sig.returnType = κ.2.2.2 ∧ c.maxLocals = κ.2.2.1 ∧ s.vm.findClass κ.1.cls = some m.cls ∧ (∀ w ∈ gWs, w.before args s = true) ∧ gNw s ∧ va_K ε.1 gCl (gTy ε) s ∧ meth.locks = false ∧ gDj ε
def gGo (l : Launch) (ε : gEnv) (κ : gMD) (R : Room) (F : gFin) (pc : Nat) (L : List (Nat × Value)) (st : List Value) (M : gMem) : Prop :=
  ∀ (p : Program) (e : Env) (s : State) (m : MethodId) (args : Array Value) (below : List Frame) (meth : Method) (c : Code) (H : Heap) (locs : List Loc) (ls : Array Slot), gCx ε κ p s m args meth c → va_P ε.1 gCl (gW ε M) H → va_S (gA ε s.heap.size) s.heap H locs → lv_has ls κ.2.2.1 L → W p l e R s m args below meth c H locs 0 0 (F below args s) (F0 m pc ls st)
def gR (f n : Nat) : Room := { frames := f, cells := 0, slots := 0, locals := n }
def gQ (ε : gEnv) (rv : Option Value) (M' : gMem) (sz : Nat) : Array Value → State → Outcome → State → Prop := fun _ st o t => (o = .returned rv ∧ va_P ε.1 gCl (gW ε M') t.heap) ∧ va_F (gA ε sz) st t
def gPc (ε : gEnv) (av : List Value) (M : gMem) (sz : Nat) : Array Value → State → Prop := va_Pc av (fun U => U.heap.size = sz ∧ va_P ε.1 gCl (gW ε M) U.heap ∧ va_K ε.1 gCl (gTy ε) U ∧ gNw U ∧ gDj ε)
/-- a method's contract: from the world M, with these arguments, it returns rv, and the world is M' -/
def gCt (l : Launch) (ε : gEnv) (κ : gMD) (f n : Nat) (av : List Value) (M : gMem) (rv : Option Value) (M' : gMem) : Prop :=
  ∀ sz, Met l κ.1 (gMw κ) (gR f n) (gPc ε av M sz) (gQ ε rv M' sz) 0 0 (gA ε sz)
def gFn (ε : gEnv) (rv : Option Value) (M' : gMem) : gFin := fun below args s => MQ below (gQ ε rv M' s.heap.size) args s 0 0 (gA ε s.heap.size)
theorem gPc_blind {ε : gEnv} {av : List Value} {M : gMem} {sz : Nat} : FrameBlind (gPc ε av M sz) := by
  intro a U g mk q
  obtain ⟨q0, q1, qP, qK, qN, qD⟩ := q
  exact ⟨q0, q1, qP, va_K.moved (u := U) (U := U.calling g mk a) (Vm.Alike.refl U.vm) qK, gNw.same (s := U) (U := U.calling g mk a) rfl qN, qD⟩
theorem gCt_of {l : Launch} {ε : gEnv} {κ : gMD} {f n : Nat} {av : List Value} {M : gMem} {rv : Option Value} {M' : gMem} (hy : plainName κ.1.cls = true) (hlen : (lg_sl av).length ≤ κ.2.2.1) {L : List (Nat × Value)} (hL : lv_args 0 av = L) (h : gGo l ε κ (gR f n) (gFn ε rv M') 0 L [] M) : gCt l ε κ f n av M rv M' := by
  intro sz
  refine Met.ofW (cc := κ.2.1) (maxL := κ.2.2.1) (ret := κ.2.2.2) hy rfl ?_
  intro p e s m args below meth c s₁ B hml hv
  obtain ⟨rfl, hsz, hP, hK, hN, hD⟩ := hv
  have hts := atoms_spec (ws := gMw κ) B.pre
  have hl := lv_entry av (n := κ.2.2.1) hlen
  rw [lg_entry_eq]
  subst hsz
  rw [hL] at hl
  exact h p e s m _ below meth c s.heap [] _ ⟨B.exec, B.bytes, B.returns, hml, findClass_of_methodNamed B.named, fun w hw => hts w (List.mem_cons_of_mem _ hw), hN, hK, B.notSynchronized, hD⟩ hP va_S.rf hl
section GOR
variable {l : Launch} {ε : gEnv} {κ : gMD} {R : Room} {F : gFin} {pc : Nat} {L : List (Nat × Value)} {st : List Value} {M : gMem}
theorem gGo_sub {L' : List (Nat × Value)} (ks : List Nat) (hl : lv_pick L ks = L') (k : gGo l ε κ R F pc L' st M) : gGo l ε κ R F pc L st M :=
  fun p e s m args below meth c H locs ls C hP hS h => k p e s m args below meth c H locs ls C hP hS (lv_sub h ks hl)
theorem g_iconst {n : Int} {v : Int32} (d : decode κ.2.1 pc = .ok (.iconst n, 1)) (hv : Int32.ofInt n = v) (k : gGo l ε κ R F (pc + 1) L (.int v :: st) M) : gGo l ε κ R F pc L st M :=
  fun p e s m args below meth c H locs ls C hP hS h => lv_iconst C.1 C.2.1 d hv (k p e s m args below meth c H locs ls C hP hS h)
theorem g_bipush {n : Int} {v : Int32} (d : decode κ.2.1 pc = .ok (.bipush n, 2)) (hv : (Int8.ofInt n).toInt32 = v) (k : gGo l ε κ R F (pc + 2) L (.int v :: st) M) : gGo l ε κ R F pc L st M :=
  fun p e s m args below meth c H locs ls C hP hS h => lv_bipush C.1 C.2.1 d hv (k p e s m args below meth c H locs ls C hP hS h)
theorem g_sipush {n : Int} {v : Int32} (d : decode κ.2.1 pc = .ok (.sipush n, 3)) (hv : (Int16.ofInt n).toInt32 = v) (k : gGo l ε κ R F (pc + 3) L (.int v :: st) M) : gGo l ε κ R F pc L st M :=
  fun p e s m args below meth c H locs ls C hP hS h => lv_sipush C.1 C.2.1 d hv (k p e s m args below meth c H locs ls C hP hS h)
theorem g_lconst {n : Fin 2} {v : Int64} (d : decode κ.2.1 pc = .ok (.lconst n, 1)) (hv : Int64.ofNat (n : Nat) = v) (k : gGo l ε κ R F (pc + 1) L (.long v :: st) M) : gGo l ε κ R F pc L st M :=
  fun p e s m args below meth c H locs ls C hP hS h => lv_lconst C.1 C.2.1 d hv (k p e s m args below meth c H locs ls C hP hS h)
theorem g_iload_n {k0 : Fin 4} {i : Nat} {x : Int32} (d : decode κ.2.1 pc = .ok (.iload_n k0, 1)) (hi : (k0 : Nat) = i) (j : Nat) (hj : L[j]? = some (i, .int x)) (k : gGo l ε κ R F (pc + 1) L (.int x :: st) M) : gGo l ε κ R F pc L st M :=
  fun p e s m args below meth c H locs ls C hP hS h => lv_iload_n C.1 C.2.1 d hi (lv_at h j hj) (k p e s m args below meth c H locs ls C hP hS h)
theorem g_iload {i : Nat} {x : Int32} (d : decode κ.2.1 pc = .ok (.iload i, 2)) (j : Nat) (hj : L[j]? = some (i, .int x)) (k : gGo l ε κ R F (pc + 2) L (.int x :: st) M) : gGo l ε κ R F pc L st M :=
  fun p e s m args below meth c H locs ls C hP hS h => lv_iload C.1 C.2.1 d (lv_at h j hj) (k p e s m args below meth c H locs ls C hP hS h)
theorem g_lload_n {k0 : Fin 4} {i : Nat} {x : Int64} (d : decode κ.2.1 pc = .ok (.lload_n k0, 1)) (hi : (k0 : Nat) = i) (j : Nat) (hj : L[j]? = some (i, .long x)) (k : gGo l ε κ R F (pc + 1) L (.long x :: st) M) : gGo l ε κ R F pc L st M :=
  fun p e s m args below meth c H locs ls C hP hS h => lv_lload_n C.1 C.2.1 d hi (lv_at h j hj) (k p e s m args below meth c H locs ls C hP hS h)
theorem g_lload {i : Nat} {x : Int64} (d : decode κ.2.1 pc = .ok (.lload i, 2)) (j : Nat) (hj : L[j]? = some (i, .long x)) (k : gGo l ε κ R F (pc + 2) L (.long x :: st) M) : gGo l ε κ R F pc L st M :=
  fun p e s m args below meth c H locs ls C hP hS h => lv_lload C.1 C.2.1 d (lv_at h j hj) (k p e s m args below meth c H locs ls C hP hS h)
theorem g_aload_n {k0 : Fin 4} {i : Nat} {x : Nat} (d : decode κ.2.1 pc = .ok (.aload_n k0, 1)) (hi : (k0 : Nat) = i) (j : Nat) (hj : L[j]? = some (i, .ref x)) (k : gGo l ε κ R F (pc + 1) L (.ref x :: st) M) : gGo l ε κ R F pc L st M :=
  fun p e s m args below meth c H locs ls C hP hS h => lv_aload_n C.1 C.2.1 d hi (lv_at h j hj) (k p e s m args below meth c H locs ls C hP hS h)
theorem g_aload {i : Nat} {x : Nat} (d : decode κ.2.1 pc = .ok (.aload i, 2)) (j : Nat) (hj : L[j]? = some (i, .ref x)) (k : gGo l ε κ R F (pc + 2) L (.ref x :: st) M) : gGo l ε κ R F pc L st M :=
  fun p e s m args below meth c H locs ls C hP hS h => lv_aload C.1 C.2.1 d (lv_at h j hj) (k p e s m args below meth c H locs ls C hP hS h)
theorem g_istore_n {k0 : Fin 4} {i : Nat} {x : Int32} {L' : List (Nat × Value)} (d : decode κ.2.1 pc = .ok (.istore_n k0, 1)) (hi : (k0 : Nat) = i) (hn : i < κ.2.2.1) (hl : (i, Value.int x) :: L.filter (fun q => !(q.1 == i) && !(q.1 + 1 == i && q.2.category == 2)) = L') (k : gGo l ε κ R F (pc + 1) L' st M) : gGo l ε κ R F pc L (.int x :: st) M :=
  fun p e s m args below meth c H locs ls C hP hS h => lv_istore_n C.1 C.2.1 d hi h hn hl (fun ls h => k p e s m args below meth c H locs ls C hP hS h)
theorem g_istore {i : Nat} {x : Int32} {L' : List (Nat × Value)} (d : decode κ.2.1 pc = .ok (.istore i, 2)) (hn : i < κ.2.2.1) (hl : (i, Value.int x) :: L.filter (fun q => !(q.1 == i) && !(q.1 + 1 == i && q.2.category == 2)) = L') (k : gGo l ε κ R F (pc + 2) L' st M) : gGo l ε κ R F pc L (.int x :: st) M :=
  fun p e s m args below meth c H locs ls C hP hS h => lv_istore C.1 C.2.1 d h hn hl (fun ls h => k p e s m args below meth c H locs ls C hP hS h)
theorem g_astore_n {k0 : Fin 4} {i : Nat} {x : Nat} {L' : List (Nat × Value)} (d : decode κ.2.1 pc = .ok (.astore_n k0, 1)) (hi : (k0 : Nat) = i) (hn : i < κ.2.2.1) (hl : (i, Value.ref x) :: L.filter (fun q => !(q.1 == i) && !(q.1 + 1 == i && q.2.category == 2)) = L') (k : gGo l ε κ R F (pc + 1) L' st M) : gGo l ε κ R F pc L (.ref x :: st) M :=
  fun p e s m args below meth c H locs ls C hP hS h => lv_astore_n C.1 C.2.1 d hi h hn hl (fun ls h => k p e s m args below meth c H locs ls C hP hS h)
theorem g_astore {i : Nat} {x : Nat} {L' : List (Nat × Value)} (d : decode κ.2.1 pc = .ok (.astore i, 2)) (hn : i < κ.2.2.1) (hl : (i, Value.ref x) :: L.filter (fun q => !(q.1 == i) && !(q.1 + 1 == i && q.2.category == 2)) = L') (k : gGo l ε κ R F (pc + 2) L' st M) : gGo l ε κ R F pc L (.ref x :: st) M :=
  fun p e s m args below meth c H locs ls C hP hS h => lv_astore C.1 C.2.1 d h hn hl (fun ls h => k p e s m args below meth c H locs ls C hP hS h)
theorem g_lstore_n {k0 : Fin 4} {i : Nat} {x : Int64} {L' : List (Nat × Value)} (d : decode κ.2.1 pc = .ok (.lstore_n k0, 1)) (hi : (k0 : Nat) = i) (hn : i + 1 < κ.2.2.1) (hl : (i, Value.long x) :: L.filter (fun q => !(q.1 == i) && (!(q.1 == i + 1) && !(q.1 + 1 == i && q.2.category == 2))) = L') (k : gGo l ε κ R F (pc + 1) L' st M) : gGo l ε κ R F pc L (.long x :: st) M :=
  fun p e s m args below meth c H locs ls C hP hS h => lv_lstore_n C.1 C.2.1 d hi h hn hl (fun ls h => k p e s m args below meth c H locs ls C hP hS h)
theorem g_lstore {i : Nat} {x : Int64} {L' : List (Nat × Value)} (d : decode κ.2.1 pc = .ok (.lstore i, 2)) (hn : i + 1 < κ.2.2.1) (hl : (i, Value.long x) :: L.filter (fun q => !(q.1 == i) && (!(q.1 == i + 1) && !(q.1 + 1 == i && q.2.category == 2))) = L') (k : gGo l ε κ R F (pc + 2) L' st M) : gGo l ε κ R F pc L (.long x :: st) M :=
  fun p e s m args below meth c H locs ls C hP hS h => lv_lstore C.1 C.2.1 d h hn hl (fun ls h => k p e s m args below meth c H locs ls C hP hS h)
theorem g_iinc {i j : Nat} {n : Int} {x v : Int32} {L' : List (Nat × Value)} (d : decode κ.2.1 pc = .ok (.iinc i n, 3)) (hj : L[j]? = some (i, .int x)) (hv : x + Int32.ofInt n = v) (hn : i < κ.2.2.1) (hl : (i, Value.int v) :: L.filter (fun q => !(q.1 == i) && !(q.1 + 1 == i && q.2.category == 2)) = L') (k : gGo l ε κ R F (pc + 3) L' st M) : gGo l ε κ R F pc L st M :=
  fun p e s m args below meth c H locs ls C hP hS h => lv_iinc C.1 C.2.1 d h hj hv hn hl (fun ls h => k p e s m args below meth c H locs ls C hP hS h)
theorem g_iadd {x y : Int32} (d : decode κ.2.1 pc = .ok (.iadd, 1)) (k : gGo l ε κ R F (pc + 1) L (.int (x + y) :: st) M) : gGo l ε κ R F pc L (.int y :: .int x :: st) M :=
  fun p e s m args below meth c H locs ls C hP hS h => lv_iadd C.1 C.2.1 d (k p e s m args below meth c H locs ls C hP hS h)
theorem g_isub {x y : Int32} (d : decode κ.2.1 pc = .ok (.isub, 1)) (k : gGo l ε κ R F (pc + 1) L (.int (x - y) :: st) M) : gGo l ε κ R F pc L (.int y :: .int x :: st) M :=
  fun p e s m args below meth c H locs ls C hP hS h => lv_isub C.1 C.2.1 d (k p e s m args below meth c H locs ls C hP hS h)
theorem g_imul {x y : Int32} (d : decode κ.2.1 pc = .ok (.imul, 1)) (k : gGo l ε κ R F (pc + 1) L (.int (x * y) :: st) M) : gGo l ε κ R F pc L (.int y :: .int x :: st) M :=
  fun p e s m args below meth c H locs ls C hP hS h => lv_imul C.1 C.2.1 d (k p e s m args below meth c H locs ls C hP hS h)
theorem g_iand {x y : Int32} (d : decode κ.2.1 pc = .ok (.iand, 1)) (k : gGo l ε κ R F (pc + 1) L (.int (x &&& y) :: st) M) : gGo l ε κ R F pc L (.int y :: .int x :: st) M :=
  fun p e s m args below meth c H locs ls C hP hS h => lv_iand C.1 C.2.1 d (k p e s m args below meth c H locs ls C hP hS h)
theorem g_ior {x y : Int32} (d : decode κ.2.1 pc = .ok (.ior, 1)) (k : gGo l ε κ R F (pc + 1) L (.int (x ||| y) :: st) M) : gGo l ε κ R F pc L (.int y :: .int x :: st) M :=
  fun p e s m args below meth c H locs ls C hP hS h => lv_ior C.1 C.2.1 d (k p e s m args below meth c H locs ls C hP hS h)
theorem g_ishl {x y : Int32} (d : decode κ.2.1 pc = .ok (.ishl, 1)) (k : gGo l ε κ R F (pc + 1) L (.int (x <<< (y &&& 31)) :: st) M) : gGo l ε κ R F pc L (.int y :: .int x :: st) M :=
  fun p e s m args below meth c H locs ls C hP hS h => lv_ishl C.1 C.2.1 d (k p e s m args below meth c H locs ls C hP hS h)
theorem g_idiv {x y : Int32} (d : decode κ.2.1 pc = .ok (.idiv, 1)) (hne : ¬ y = 0) (k : gGo l ε κ R F (pc + 1) L (.int (x / y) :: st) M) : gGo l ε κ R F pc L (.int y :: .int x :: st) M :=
  fun p e s m args below meth c H locs ls C hP hS h => lv_idiv C.1 C.2.1 d hne (k p e s m args below meth c H locs ls C hP hS h)
theorem g_irem {x y : Int32} (d : decode κ.2.1 pc = .ok (.irem, 1)) (hne : ¬ y = 0) (k : gGo l ε κ R F (pc + 1) L (.int (x - x / y * y) :: st) M) : gGo l ε κ R F pc L (.int y :: .int x :: st) M :=
  fun p e s m args below meth c H locs ls C hP hS h => lv_irem C.1 C.2.1 d hne (k p e s m args below meth c H locs ls C hP hS h)
theorem g_ladd {x y : Int64} (d : decode κ.2.1 pc = .ok (.ladd, 1)) (k : gGo l ε κ R F (pc + 1) L (.long (x + y) :: st) M) : gGo l ε κ R F pc L (.long y :: .long x :: st) M :=
  fun p e s m args below meth c H locs ls C hP hS h => lv_ladd C.1 C.2.1 d (k p e s m args below meth c H locs ls C hP hS h)
theorem g_lsub {x y : Int64} (d : decode κ.2.1 pc = .ok (.lsub, 1)) (k : gGo l ε κ R F (pc + 1) L (.long (x - y) :: st) M) : gGo l ε κ R F pc L (.long y :: .long x :: st) M :=
  fun p e s m args below meth c H locs ls C hP hS h => lv_lsub C.1 C.2.1 d (k p e s m args below meth c H locs ls C hP hS h)
theorem g_lmul {x y : Int64} (d : decode κ.2.1 pc = .ok (.lmul, 1)) (k : gGo l ε κ R F (pc + 1) L (.long (x * y) :: st) M) : gGo l ε κ R F pc L (.long y :: .long x :: st) M :=
  fun p e s m args below meth c H locs ls C hP hS h => lv_lmul C.1 C.2.1 d (k p e s m args below meth c H locs ls C hP hS h)
theorem g_land {x y : Int64} (d : decode κ.2.1 pc = .ok (.land, 1)) (k : gGo l ε κ R F (pc + 1) L (.long (x &&& y) :: st) M) : gGo l ε κ R F pc L (.long y :: .long x :: st) M :=
  fun p e s m args below meth c H locs ls C hP hS h => lv_land C.1 C.2.1 d (k p e s m args below meth c H locs ls C hP hS h)
theorem g_lor {x y : Int64} (d : decode κ.2.1 pc = .ok (.lor, 1)) (k : gGo l ε κ R F (pc + 1) L (.long (x ||| y) :: st) M) : gGo l ε κ R F pc L (.long y :: .long x :: st) M :=
  fun p e s m args below meth c H locs ls C hP hS h => lv_lor C.1 C.2.1 d (k p e s m args below meth c H locs ls C hP hS h)
theorem g_ldiv {x y : Int64} (d : decode κ.2.1 pc = .ok (.ldiv, 1)) (hne : ¬ y = 0) (k : gGo l ε κ R F (pc + 1) L (.long (x / y) :: st) M) : gGo l ε κ R F pc L (.long y :: .long x :: st) M :=
  fun p e s m args below meth c H locs ls C hP hS h => lv_ldiv C.1 C.2.1 d hne (k p e s m args below meth c H locs ls C hP hS h)
theorem g_lrem {x y : Int64} (d : decode κ.2.1 pc = .ok (.lrem, 1)) (hne : ¬ y = 0) (k : gGo l ε κ R F (pc + 1) L (.long (x - x / y * y) :: st) M) : gGo l ε κ R F pc L (.long y :: .long x :: st) M :=
  fun p e s m args below meth c H locs ls C hP hS h => lv_lrem C.1 C.2.1 d hne (k p e s m args below meth c H locs ls C hP hS h)
theorem g_i2l {x : Int32} (d : decode κ.2.1 pc = .ok (.i2l, 1)) (k : gGo l ε κ R F (pc + 1) L (.long x.toInt64 :: st) M) : gGo l ε κ R F pc L (.int x :: st) M :=
  fun p e s m args below meth c H locs ls C hP hS h => lv_i2l C.1 C.2.1 d rfl (k p e s m args below meth c H locs ls C hP hS h)
theorem g_l2i {x : Int64} (d : decode κ.2.1 pc = .ok (.l2i, 1)) (k : gGo l ε κ R F (pc + 1) L (.int x.toInt32 :: st) M) : gGo l ε κ R F pc L (.long x :: st) M :=
  fun p e s m args below meth c H locs ls C hP hS h => lv_l2i C.1 C.2.1 d rfl (k p e s m args below meth c H locs ls C hP hS h)
theorem g_lushr {x : Int64} {y : Int32} (d : decode κ.2.1 pc = .ok (.lushr, 1)) (k : gGo l ε κ R F (pc + 1) L (.long (x.toUInt64 >>> (y.toInt64.toUInt64 &&& Int64.toUInt64 63)).toInt64 :: st) M) : gGo l ε κ R F pc L (.int y :: .long x :: st) M :=
  fun p e s m args below meth c H locs ls C hP hS h => lv_lushr C.1 C.2.1 d rfl (k p e s m args below meth c H locs ls C hP hS h)
theorem g_lshl {x : Int64} {y : Int32} (d : decode κ.2.1 pc = .ok (.lshl, 1)) (k : gGo l ε κ R F (pc + 1) L (.long (x <<< (y.toInt64 &&& 63)) :: st) M) : gGo l ε κ R F pc L (.int y :: .long x :: st) M :=
  fun p e s m args below meth c H locs ls C hP hS h => lv_lshl C.1 C.2.1 d rfl (k p e s m args below meth c H locs ls C hP hS h)
theorem g_lcmp {x y : Int64} (d : decode κ.2.1 pc = .ok (.lcmp, 1)) (k : gGo l ε κ R F (pc + 1) L (.int (lg_cmp x y) :: st) M) : gGo l ε κ R F pc L (.long y :: .long x :: st) M :=
  fun p e s m args below meth c H locs ls C hP hS h => W.lcmp C.1 C.2.1 d (k p e s m args below meth c H locs ls C hP hS h)
theorem g_dup {v : Value} (d : decode κ.2.1 pc = .ok (.dup, 1)) (hv : v.category = 1) (k : gGo l ε κ R F (pc + 1) L (v :: v :: st) M) : gGo l ε κ R F pc L (v :: st) M :=
  fun p e s m args below meth c H locs ls C hP hS h => lv_dup C.1 C.2.1 d hv (k p e s m args below meth c H locs ls C hP hS h)
theorem g_pop {v : Value} (d : decode κ.2.1 pc = .ok (.pop, 1)) (hv : v.category = 1) (k : gGo l ε κ R F (pc + 1) L st M) : gGo l ε κ R F pc L (v :: st) M :=
  fun p e s m args below meth c H locs ls C hP hS h => lv_pop C.1 C.2.1 d hv (k p e s m args below meth c H locs ls C hP hS h)
theorem g_dup2 {v w : Value} (d : decode κ.2.1 pc = .ok (.dup2, 1)) (hv : v.category = 1) (hw : w.category = 1) (k : gGo l ε κ R F (pc + 1) L (v :: w :: v :: w :: st) M) : gGo l ε κ R F pc L (v :: w :: st) M :=
  fun p e s m args below meth c H locs ls C hP hS h => lv_dup2_11 C.1 C.2.1 d hv hw (k p e s m args below meth c H locs ls C hP hS h)
theorem g_goto {off : Int} {tgt : Nat} (d : decode κ.2.1 pc = .ok (.goto off, 3)) (ht : (pc : Int) + off = (tgt : Int)) (k : gGo l ε κ R F tgt L st M) : gGo l ε κ R F pc L st M :=
  fun p e s m args below meth c H locs ls C hP hS h => lv_goto C.1 C.2.1 d ht (k p e s m args below meth c H locs ls C hP hS h)
theorem g_ifnull {x : Nat} {off : Int} (d : decode κ.2.1 pc = .ok (.ifnull off, 3)) (k : gGo l ε κ R F (pc + 3) L st M) : gGo l ε κ R F pc L (.ref x :: st) M :=
  fun p e s m args below meth c H locs ls C hP hS h => lv_ifnull C.1 C.2.1 d (k p e s m args below meth c H locs ls C hP hS h)
theorem g_ifnonnull {x : Nat} {off : Int} {tgt : Nat} (d : decode κ.2.1 pc = .ok (.ifnonnull off, 3)) (ht : (pc : Int) + off = (tgt : Int)) (k : gGo l ε κ R F tgt L st M) : gGo l ε κ R F pc L (.ref x :: st) M :=
  fun p e s m args below meth c H locs ls C hP hS h => lv_ifnonnull C.1 C.2.1 d ht (k p e s m args below meth c H locs ls C hP hS h)
theorem g_if_eq {x : Int32} {off : Int} {tgt : Nat} (d : decode κ.2.1 pc = .ok (.ifCond .eq off, 3)) (ht : (pc : Int) + off = (tgt : Int)) (kt : x = 0 → gGo l ε κ R F tgt L st M) (kf : ¬ x = 0 → gGo l ε κ R F (pc + 3) L st M) : gGo l ε κ R F pc L (.int x :: st) M :=
  fun p e s m args below meth c H locs ls C hP hS h => lv_if_eq C.1 C.2.1 d ht (fun q => kt q p e s m args below meth c H locs ls C hP hS h) (fun q => kf q p e s m args below meth c H locs ls C hP hS h)
theorem g_icmp_eq {x y : Int32} {off : Int} {tgt : Nat} (d : decode κ.2.1 pc = .ok (.if_icmp .eq off, 3)) (ht : (pc : Int) + off = (tgt : Int)) (kt : x = y → gGo l ε κ R F tgt L st M) (kf : ¬ x = y → gGo l ε κ R F (pc + 3) L st M) : gGo l ε κ R F pc L (.int y :: .int x :: st) M :=
  fun p e s m args below meth c H locs ls C hP hS h => lv_icmp_eq C.1 C.2.1 d ht (fun q => kt q p e s m args below meth c H locs ls C hP hS h) (fun q => kf q p e s m args below meth c H locs ls C hP hS h)
theorem g_if_ne {x : Int32} {off : Int} {tgt : Nat} (d : decode κ.2.1 pc = .ok (.ifCond .ne off, 3)) (ht : (pc : Int) + off = (tgt : Int)) (kt : ¬ x = 0 → gGo l ε κ R F tgt L st M) (kf : x = 0 → gGo l ε κ R F (pc + 3) L st M) : gGo l ε κ R F pc L (.int x :: st) M :=
  fun p e s m args below meth c H locs ls C hP hS h => lv_if_ne C.1 C.2.1 d ht (fun q => kt q p e s m args below meth c H locs ls C hP hS h) (fun q => kf q p e s m args below meth c H locs ls C hP hS h)
theorem g_icmp_ne {x y : Int32} {off : Int} {tgt : Nat} (d : decode κ.2.1 pc = .ok (.if_icmp .ne off, 3)) (ht : (pc : Int) + off = (tgt : Int)) (kt : ¬ x = y → gGo l ε κ R F tgt L st M) (kf : x = y → gGo l ε κ R F (pc + 3) L st M) : gGo l ε κ R F pc L (.int y :: .int x :: st) M :=
  fun p e s m args below meth c H locs ls C hP hS h => lv_icmp_ne C.1 C.2.1 d ht (fun q => kt q p e s m args below meth c H locs ls C hP hS h) (fun q => kf q p e s m args below meth c H locs ls C hP hS h)
theorem g_if_lt {x : Int32} {off : Int} {tgt : Nat} (d : decode κ.2.1 pc = .ok (.ifCond .lt off, 3)) (ht : (pc : Int) + off = (tgt : Int)) (kt : x < 0 → gGo l ε κ R F tgt L st M) (kf : ¬ x < 0 → gGo l ε κ R F (pc + 3) L st M) : gGo l ε κ R F pc L (.int x :: st) M :=
  fun p e s m args below meth c H locs ls C hP hS h => lv_if_lt C.1 C.2.1 d ht (fun q => kt q p e s m args below meth c H locs ls C hP hS h) (fun q => kf q p e s m args below meth c H locs ls C hP hS h)
theorem g_icmp_lt {x y : Int32} {off : Int} {tgt : Nat} (d : decode κ.2.1 pc = .ok (.if_icmp .lt off, 3)) (ht : (pc : Int) + off = (tgt : Int)) (kt : x < y → gGo l ε κ R F tgt L st M) (kf : ¬ x < y → gGo l ε κ R F (pc + 3) L st M) : gGo l ε κ R F pc L (.int y :: .int x :: st) M :=
  fun p e s m args below meth c H locs ls C hP hS h => lv_icmp_lt C.1 C.2.1 d ht (fun q => kt q p e s m args below meth c H locs ls C hP hS h) (fun q => kf q p e s m args below meth c H locs ls C hP hS h)
theorem g_if_ge {x : Int32} {off : Int} {tgt : Nat} (d : decode κ.2.1 pc = .ok (.ifCond .ge off, 3)) (ht : (pc : Int) + off = (tgt : Int)) (kt : 0 ≤ x → gGo l ε κ R F tgt L st M) (kf : ¬ 0 ≤ x → gGo l ε κ R F (pc + 3) L st M) : gGo l ε κ R F pc L (.int x :: st) M :=
  fun p e s m args below meth c H locs ls C hP hS h => lv_if_ge C.1 C.2.1 d ht (fun q => kt q p e s m args below meth c H locs ls C hP hS h) (fun q => kf q p e s m args below meth c H locs ls C hP hS h)
theorem g_icmp_ge {x y : Int32} {off : Int} {tgt : Nat} (d : decode κ.2.1 pc = .ok (.if_icmp .ge off, 3)) (ht : (pc : Int) + off = (tgt : Int)) (kt : y ≤ x → gGo l ε κ R F tgt L st M) (kf : ¬ y ≤ x → gGo l ε κ R F (pc + 3) L st M) : gGo l ε κ R F pc L (.int y :: .int x :: st) M :=
  fun p e s m args below meth c H locs ls C hP hS h => lv_icmp_ge C.1 C.2.1 d ht (fun q => kt q p e s m args below meth c H locs ls C hP hS h) (fun q => kf q p e s m args below meth c H locs ls C hP hS h)
theorem g_if_gt {x : Int32} {off : Int} {tgt : Nat} (d : decode κ.2.1 pc = .ok (.ifCond .gt off, 3)) (ht : (pc : Int) + off = (tgt : Int)) (kt : 0 < x → gGo l ε κ R F tgt L st M) (kf : ¬ 0 < x → gGo l ε κ R F (pc + 3) L st M) : gGo l ε κ R F pc L (.int x :: st) M :=
  fun p e s m args below meth c H locs ls C hP hS h => lv_if_gt C.1 C.2.1 d ht (fun q => kt q p e s m args below meth c H locs ls C hP hS h) (fun q => kf q p e s m args below meth c H locs ls C hP hS h)
theorem g_icmp_gt {x y : Int32} {off : Int} {tgt : Nat} (d : decode κ.2.1 pc = .ok (.if_icmp .gt off, 3)) (ht : (pc : Int) + off = (tgt : Int)) (kt : y < x → gGo l ε κ R F tgt L st M) (kf : ¬ y < x → gGo l ε κ R F (pc + 3) L st M) : gGo l ε κ R F pc L (.int y :: .int x :: st) M :=
  fun p e s m args below meth c H locs ls C hP hS h => lv_icmp_gt C.1 C.2.1 d ht (fun q => kt q p e s m args below meth c H locs ls C hP hS h) (fun q => kf q p e s m args below meth c H locs ls C hP hS h)
theorem g_if_le {x : Int32} {off : Int} {tgt : Nat} (d : decode κ.2.1 pc = .ok (.ifCond .le off, 3)) (ht : (pc : Int) + off = (tgt : Int)) (kt : x ≤ 0 → gGo l ε κ R F tgt L st M) (kf : ¬ x ≤ 0 → gGo l ε κ R F (pc + 3) L st M) : gGo l ε κ R F pc L (.int x :: st) M :=
  fun p e s m args below meth c H locs ls C hP hS h => lv_if_le C.1 C.2.1 d ht (fun q => kt q p e s m args below meth c H locs ls C hP hS h) (fun q => kf q p e s m args below meth c H locs ls C hP hS h)
theorem g_icmp_le {x y : Int32} {off : Int} {tgt : Nat} (d : decode κ.2.1 pc = .ok (.if_icmp .le off, 3)) (ht : (pc : Int) + off = (tgt : Int)) (kt : x ≤ y → gGo l ε κ R F tgt L st M) (kf : ¬ x ≤ y → gGo l ε κ R F (pc + 3) L st M) : gGo l ε κ R F pc L (.int y :: .int x :: st) M :=
  fun p e s m args below meth c H locs ls C hP hS h => lv_icmp_le C.1 C.2.1 d ht (fun q => kt q p e s m args below meth c H locs ls C hP hS h) (fun q => kf q p e s m args below meth c H locs ls C hP hS h)
theorem g_tabOut {dflt lo hi : Int} {offs : Array Int} {len tgt : Nat} {x : Int32} (d : decode κ.2.1 pc = .ok (.tableswitch dflt lo hi offs, len)) (hx : x.toInt < lo ∨ hi < x.toInt) (ht : (pc : Int) + dflt = (tgt : Int)) (k : gGo l ε κ R F tgt L st M) : gGo l ε κ R F pc L (.int x :: st) M :=
  fun p e s m args below meth c H locs ls C hP hS h => lv_tableOut C.1 C.2.1 d hx ht (k p e s m args below meth c H locs ls C hP hS h)
theorem g_tabIn {dflt lo hi : Int} {offs : Array Int} {len tgt : Nat} {x : Int32} {off : Int} (d : decode κ.2.1 pc = .ok (.tableswitch dflt lo hi offs, len)) (h1 : ¬ x.toInt < lo) (h2 : ¬ hi < x.toInt) (ho : offs[(x.toInt - lo).toNat]? = some off) (ht : (pc : Int) + off = (tgt : Int)) (k : gGo l ε κ R F tgt L st M) : gGo l ε κ R F pc L (.int x :: st) M :=
  fun p e s m args below meth c H locs ls C hP hS h => lv_tableIn C.1 C.2.1 d h1 h2 ho ht (k p e s m args below meth c H locs ls C hP hS h)
theorem g_lookup {dflt : Int} {ps : Array (Int × Int)} {len tgt : Nat} {x : Int32} {off : Int} (d : decode κ.2.1 pc = .ok (.lookupswitch dflt ps, len)) (hp : (ps.toList.zip (ps.toList.drop 1)).all (fun (a, next) => a.1 < next.1) = true) (ho : Op.lookupswitch.offset ps.toList dflt x.toInt = off) (ht : (pc : Int) + off = (tgt : Int)) (k : gGo l ε κ R F tgt L st M) : gGo l ε κ R F pc L (.int x :: st) M :=
  fun p e s m args below meth c H locs ls C hP hS h => lv_lookup C.1 C.2.1 d hp ho ht (k p e s m args below meth c H locs ls C hP hS h)
theorem g_ldc {index : Nat} {v : Int32} (d : decode κ.2.1 pc = .ok (.ldc index, 2)) (hw : Jvm.Cond.constant κ.1.cls index v ∈ gWs) (k : gGo l ε κ R F (pc + 2) L (.int v :: st) M) : gGo l ε κ R F pc L st M :=
  fun p e s m args below meth c H locs ls C hP hS h => lv_ldc C.1 C.2.1 C.2.2.2.2.1 (C.2.2.2.2.2.1 _ hw) d (k p e s m args below meth c H locs ls C hP hS h)
theorem g_ldc2 {index : Nat} {v : Int64} (d : decode κ.2.1 pc = .ok (.ldc2_w index, 3)) (hw : Jvm.Cond.constantLong κ.1.cls index v ∈ gWs) (k : gGo l ε κ R F (pc + 3) L (.long v :: st) M) : gGo l ε κ R F pc L st M :=
  fun p e s m args below meth c H locs ls C hP hS h => lv_ldc2 C.1 C.2.1 C.2.2.2.2.1 (C.2.2.2.2.2.1 _ hw) d (k p e s m args below meth c H locs ls C hP hS h)
/-- a field of the class ci, at place k, linked by the pool's entry idx of own -/
def gFl (own : String) (idx ci k : Nat) : Prop := ∃ (C : String) (T : u_T) (N : Nat), gCl[ci]? = some (C, T, N) ∧ (∀ w ∈ u_ws C T N, w ∈ gWs) ∧ k < N ∧ Cond.fieldLink own idx (T k).1 (T k).2.1 (T k).2.2.1 ∈ gWs
/-- .. one that may be written: its type, and that its class's fields are told apart -/
def gFp (own : String) (idx ci k : Nat) (ty : FieldType) : Prop := ∃ (C : String) (T : u_T) (N : Nat), gCl[ci]? = some (C, T, N) ∧ (∀ w ∈ u_ws C T N, w ∈ gWs) ∧ k < N ∧ Cond.fieldLink own idx (T k).1 (T k).2.1 (T k).2.2.1 ∈ gWs ∧ (∃ t : Nat → FieldType, ∀ k, k < N → parseFieldDescriptor (T k).2.2.1 = some (t k)) ∧ (∀ a, a < N → ∀ b, b < N → a ≠ b → (T a).2.1 ≠ (T b).2.1) ∧ (T k).2.2.2 = false ∧ parseFieldDescriptor (T k).2.2.1 = some ty
theorem g_getI {idx ci k g c0 : Nat} {fs : List (Option (Nat × Nat))} (d : decode κ.2.1 pc = .ok (.getfield idx, 3)) (hf : gFl κ.1.cls idx ci k) (hh : gHas ε g c0 (3, ci, fs)) (hk : fs[k]? = some none) (kk : gGo l ε κ R F (pc + 3) L (.int (M g c0 k) :: st) M) : gGo l ε κ R F pc L (.ref (ε.2.2.1 g c0) :: st) M := by
  intro p e s m args below meth c H locs ls C hP hS h
  obtain ⟨C0, T, N, h1, h2, h3, h4⟩ := hf
  obtain ⟨i, hi, hw⟩ := gW_at M hh
  have hv := gVals_i ε.2.2.1 (M g c0) fs 0 k hk
  rw [Nat.zero_add] at hv
  exact va_get (D := ε.1) (ref := (T k).1) C.1 C.2.1 C.2.2.2.2.2.1 h2 C.2.2.2.2.1 C.2.2.2.2.2.2.2.1 hP i hw h1 k h3 (C.2.2.2.2.2.1 _ h4) (fun _ x => x) hv d (kk p e s m args below meth c H locs ls C hP hS h)
theorem g_getR {idx ci k g c0 g1 c1 : Nat} {fs : List (Option (Nat × Nat))} (d : decode κ.2.1 pc = .ok (.getfield idx, 3)) (hf : gFl κ.1.cls idx ci k) (hh : gHas ε g c0 (3, ci, fs)) (hk : fs[k]? = some (some (g1, c1))) (kk : gGo l ε κ R F (pc + 3) L (.ref (ε.2.2.1 g1 c1) :: st) M) : gGo l ε κ R F pc L (.ref (ε.2.2.1 g c0) :: st) M := by
  intro p e s m args below meth c H locs ls C hP hS h
  obtain ⟨C0, T, N, h1, h2, h3, h4⟩ := hf
  obtain ⟨i, hi, hw⟩ := gW_at M hh
  have hv := gVals_r ε.2.2.1 (M g c0) fs 0 k (g1, c1) hk
  exact va_get (D := ε.1) (ref := (T k).1) C.1 C.2.1 C.2.2.2.2.2.1 h2 C.2.2.2.2.1 C.2.2.2.2.2.2.2.1 hP i hw h1 k h3 (C.2.2.2.2.2.1 _ h4) (fun _ x => x) hv d (kk p e s m args below meth c H locs ls C hP hS h)
/-- a field's value is written -/
def gSt (M : gMem) (g c k : Nat) (x : Int32) : gMem := gUp M g c (upd (M g c) k x)
theorem g_put {idx ci k g c0 : Nat} {x : Int32} {ty : FieldType} {fs : List (Option (Nat × Nat))} (d : decode κ.2.1 pc = .ok (.putfield idx, 3)) (hf : gFp κ.1.cls idx ci k ty) (hh : gHas ε g c0 (3, ci, fs)) (hk : fs[k]? = some none) (hn : narrow ty (.int x) = .int x) (hfit : fits ty (.int x) = true) (kk : gGo l ε κ R F (pc + 3) L st (gSt M g c0 k x)) : gGo l ε κ R F pc L (.int x :: .ref (ε.2.2.1 g c0) :: st) M := by
  intro p e s m args below meth c H locs ls C hP hS h
  obtain ⟨C0, T, N, h1, h2, h3, h4, ⟨ty0, h5⟩, h6, h7, h8⟩ := hf
  obtain ⟨i, hi, hw⟩ := gW_at M hh
  have hlen : k < (gVals ε.2.2.1 (M g c0) 0 fs).length := by rw [gVals_len]; exact (List.getElem?_eq_some_iff.mp hk).1
  have hset := gVals_set ε.2.2.1 (M g c0) x fs 0 k hk
  rw [Nat.zero_add] at hset
  refine va_put (D := ε.1) (ref := (T k).1) C.1 C.2.1 C.2.2.2.2.2.1 h2 ty0 h5 h6 C.2.2.2.2.1 C.2.2.2.2.2.2.2.1 hP (gD_of C.2.2.2.2.2.2.2.2.2 M s.heap.size) hS i hw h1 k h3 (C.2.2.2.2.2.1 _ h4) (fun _ x => x) h7 h8 hn hfit hlen d (fun H1 locs1 hP1 _ hS1 => ?_)
  refine kk p e s m args below meth c H1 locs1 ls C ?_ hS1 h
  have e2 := gW_set C.2.2.2.2.2.2.2.2.2 M hi (upd (M g c0) k x)
  rw [gK_s ε M hh] at e2
  unfold gSt
  rw [← e2]
  rw [hset] at hP1
  exact hP1
/-- the same of a private field of a nest mate -/
def gFlN (own : String) (idx ci k : Nat) : Prop := ∃ (C : String) (T : u_T) (N j : Nat) (host : String), gCl[ci]? = some (C, T, N) ∧ (∀ w ∈ u_ws C T N, w ∈ gWs) ∧ k < N ∧ lw_tbl[j]? = some (Cond.fieldLinkNest own idx (T k).1 (T k).2.1 (T k).2.2.1 host)
def gFpN (own : String) (idx ci k : Nat) (ty : FieldType) : Prop := ∃ (C : String) (T : u_T) (N j : Nat) (host : String), gCl[ci]? = some (C, T, N) ∧ (∀ w ∈ u_ws C T N, w ∈ gWs) ∧ k < N ∧ lw_tbl[j]? = some (Cond.fieldLinkNest own idx (T k).1 (T k).2.1 (T k).2.2.1 host) ∧ (∃ t : Nat → FieldType, ∀ k, k < N → parseFieldDescriptor (T k).2.2.1 = some (t k)) ∧ (∀ a, a < N → ∀ b, b < N → a ≠ b → (T a).2.1 ≠ (T b).2.1) ∧ (T k).2.2.2 = false ∧ parseFieldDescriptor (T k).2.2.1 = some ty
theorem g_getIN {idx ci k g c0 : Nat} {fs : List (Option (Nat × Nat))} (d : decode κ.2.1 pc = .ok (.getfield idx, 3)) (hf : gFlN κ.1.cls idx ci k) (hh : gHas ε g c0 (3, ci, fs)) (hk : fs[k]? = some none) (kk : gGo l ε κ R F (pc + 3) L (.int (M g c0 k) :: st) M) : gGo l ε κ R F pc L (.ref (ε.2.2.1 g c0) :: st) M := by
  intro p e s m args below meth c H locs ls C hP hS h
  obtain ⟨C0, T, N, j, host, h1, h2, h3, h4⟩ := hf
  obtain ⟨i, hi, hw⟩ := gW_at M hh
  have hv := gVals_i ε.2.2.1 (M g c0) fs 0 k hk
  rw [Nat.zero_add] at hv
  exact va_getN (D := ε.1) (ref := (T k).1) C.1 C.2.1 C.2.2.2.2.2.1 h2 C.2.2.2.2.1 C.2.2.2.2.2.2.2.1 hP i hw h1 k h3 (va_Nw.use rfl (C.2.2.2.2.2.2.1 _ (List.mem_of_getElem? h4) rfl)) (fun _ x => x) hv d (kk p e s m args below meth c H locs ls C hP hS h)
theorem g_getRN {idx ci k g c0 g1 c1 : Nat} {fs : List (Option (Nat × Nat))} (d : decode κ.2.1 pc = .ok (.getfield idx, 3)) (hf : gFlN κ.1.cls idx ci k) (hh : gHas ε g c0 (3, ci, fs)) (hk : fs[k]? = some (some (g1, c1))) (kk : gGo l ε κ R F (pc + 3) L (.ref (ε.2.2.1 g1 c1) :: st) M) : gGo l ε κ R F pc L (.ref (ε.2.2.1 g c0) :: st) M := by
  intro p e s m args below meth c H locs ls C hP hS h
  obtain ⟨C0, T, N, j, host, h1, h2, h3, h4⟩ := hf
  obtain ⟨i, hi, hw⟩ := gW_at M hh
  have hv := gVals_r ε.2.2.1 (M g c0) fs 0 k (g1, c1) hk
  exact va_getN (D := ε.1) (ref := (T k).1) C.1 C.2.1 C.2.2.2.2.2.1 h2 C.2.2.2.2.1 C.2.2.2.2.2.2.2.1 hP i hw h1 k h3 (va_Nw.use rfl (C.2.2.2.2.2.2.1 _ (List.mem_of_getElem? h4) rfl)) (fun _ x => x) hv d (kk p e s m args below meth c H locs ls C hP hS h)
theorem g_putN {idx ci k g c0 : Nat} {x : Int32} {ty : FieldType} {fs : List (Option (Nat × Nat))} (d : decode κ.2.1 pc = .ok (.putfield idx, 3)) (hf : gFpN κ.1.cls idx ci k ty) (hh : gHas ε g c0 (3, ci, fs)) (hk : fs[k]? = some none) (hn : narrow ty (.int x) = .int x) (hfit : fits ty (.int x) = true) (kk : gGo l ε κ R F (pc + 3) L st (gSt M g c0 k x)) : gGo l ε κ R F pc L (.int x :: .ref (ε.2.2.1 g c0) :: st) M := by
  intro p e s m args below meth c H locs ls C hP hS h
  obtain ⟨C0, T, N, j, host, h1, h2, h3, h4, ⟨ty0, h5⟩, h6, h7, h8⟩ := hf
  obtain ⟨i, hi, hw⟩ := gW_at M hh
  have hlen : k < (gVals ε.2.2.1 (M g c0) 0 fs).length := by rw [gVals_len]; exact (List.getElem?_eq_some_iff.mp hk).1
  have hset := gVals_set ε.2.2.1 (M g c0) x fs 0 k hk
  rw [Nat.zero_add] at hset
  refine va_putN (D := ε.1) (ref := (T k).1) C.1 C.2.1 C.2.2.2.2.2.1 h2 ty0 h5 h6 C.2.2.2.2.1 C.2.2.2.2.2.2.2.1 hP (gD_of C.2.2.2.2.2.2.2.2.2 M s.heap.size) hS i hw h1 k h3 (va_Nw.use rfl (C.2.2.2.2.2.2.1 _ (List.mem_of_getElem? h4) rfl)) (fun _ x => x) h7 h8 hn hfit hlen d (fun H1 locs1 hP1 _ hS1 => ?_)
  refine kk p e s m args below meth c H1 locs1 ls C ?_ hS1 h
  have e2 := gW_set C.2.2.2.2.2.2.2.2.2 M hi (upd (M g c0) k x)
  rw [gK_s ε M hh] at e2
  unfold gSt
  rw [← e2]
  rw [hset] at hP1
  exact hP1
/-- reading and writing a place of a row of n -/
def gRd (n : Nat) (f : Nat → Int32) (i : Int32) : Option Int32 := if 0 ≤ i.toInt ∧ i.toInt < n then some (f i.toNatClampNeg) else none
def gWr (M : gMem) (g c n : Nat) (i x : Int32) : Option gMem := if 0 ≤ i.toInt ∧ i.toInt < n then some (gUp M g c (upd (M g c) i.toNatClampNeg x)) else none
theorem gRd_s {n : Nat} {f : Nat → Int32} {i r : Int32} (h : gRd n f i = some r) : vp_in i n ∧ r = f i.toNatClampNeg := by
  unfold gRd at h
  split at h
  · rename_i q
    exact ⟨vp_in_iff.mpr q, (Option.some.inj h).symm⟩
  · cases h
theorem gWr_s {M M1 : gMem} {g c n : Nat} {i x : Int32} (h : gWr M g c n i x = some M1) : vp_in i n ∧ M1 = gUp M g c (upd (M g c) i.toNatClampNeg x) := by
  unfold gWr at h
  split at h
  · rename_i q
    exact ⟨vp_in_iff.mpr q, (Option.some.inj h).symm⟩
  · cases h
theorem g_iaload {g c0 n : Nat} {i r : Int32} (d : decode κ.2.1 pc = .ok (.iaload, 1)) (hh : gHas ε g c0 (0, n, [])) (hr : gRd n (M g c0) i = some r) (kk : gGo l ε κ R F (pc + 1) L (.int r :: st) M) : gGo l ε κ R F pc L (.int i :: .ref (ε.2.2.1 g c0) :: st) M := by
  intro p e s m args below meth c H locs ls C hP hS h
  obtain ⟨hin, rfl⟩ := gRd_s hr
  obtain ⟨j, hj, hw⟩ := gW_at M hh
  exact va_iald (D := ε.1) C.1 C.2.1 C.2.2.2.2.2.2.2.1 hP j 0 hw rfl hin d (kk p e s m args below meth c H locs ls C hP hS h)
theorem g_baload {g c0 n : Nat} {i r : Int32} (d : decode κ.2.1 pc = .ok (.baload, 1)) (hh : gHas ε g c0 (1, n, [])) (hr : gRd n (M g c0) i = some r) (kk : gGo l ε κ R F (pc + 1) L (.int r :: st) M) : gGo l ε κ R F pc L (.int i :: .ref (ε.2.2.1 g c0) :: st) M := by
  intro p e s m args below meth c H locs ls C hP hS h
  obtain ⟨hin, rfl⟩ := gRd_s hr
  obtain ⟨j, hj, hw⟩ := gW_at M hh
  exact va_zald (D := ε.1) C.1 C.2.1 C.2.2.2.2.2.2.2.1 hP j 1 hw rfl hin d (kk p e s m args below meth c H locs ls C hP hS h)
theorem g_iastore {g c0 n : Nat} {i x : Int32} {M1 : gMem} (d : decode κ.2.1 pc = .ok (.iastore, 1)) (hh : gHas ε g c0 (0, n, [])) (hr : gWr M g c0 n i x = some M1) (kk : gGo l ε κ R F (pc + 1) L st M1) : gGo l ε κ R F pc L (.int x :: .int i :: .ref (ε.2.2.1 g c0) :: st) M := by
  intro p e s m args below meth c H locs ls C hP hS h
  obtain ⟨hin, rfl⟩ := gWr_s hr
  obtain ⟨j, hj, hw⟩ := gW_at M hh
  refine va_iast (D := ε.1) C.1 C.2.1 C.2.2.2.2.2.2.2.1 hP (gD_of C.2.2.2.2.2.2.2.2.2 M s.heap.size) hS j 0 hw rfl hin d (fun H1 locs1 hP1 _ hS1 => ?_)
  refine kk p e s m args below meth c H1 locs1 ls C ?_ hS1 h
  have e2 := gW_set C.2.2.2.2.2.2.2.2.2 M hj (upd (M g c0) i.toNatClampNeg x)
  rw [gK_s ε M hh] at e2
  rw [← e2]
  exact hP1
/-- a boolean's place: 0 or 1 alone -/
theorem g_bastore {g c0 n : Nat} {i x : Int32} {M1 : gMem} (d : decode κ.2.1 pc = .ok (.bastore, 1)) (hh : gHas ε g c0 (1, n, [])) (hx : vp_nar .boolean x = x) (hr : gWr M g c0 n i x = some M1) (kk : gGo l ε κ R F (pc + 1) L st M1) : gGo l ε κ R F pc L (.int x :: .int i :: .ref (ε.2.2.1 g c0) :: st) M := by
  intro p e s m args below meth c H locs ls C hP hS h
  obtain ⟨hin, rfl⟩ := gWr_s hr
  obtain ⟨j, hj, hw⟩ := gW_at M hh
  refine va_zast (D := ε.1) C.1 C.2.1 C.2.2.2.2.2.2.2.1 hP (gD_of C.2.2.2.2.2.2.2.2.2 M s.heap.size) hS j 1 hw rfl hin d (fun H1 locs1 hP1 _ hS1 => ?_)
  refine kk p e s m args below meth c H1 locs1 ls C ?_ hS1 h
  have e2 := gW_set C.2.2.2.2.2.2.2.2.2 M hj (upd (M g c0) i.toNatClampNeg x)
  rw [gK_s ε M hh] at e2
  rw [← e2]
  rw [hx] at hP1
  exact hP1
theorem g_alen {g c0 n : Nat} {fs : List (Option (Nat × Nat))} (d : decode κ.2.1 pc = .ok (.arraylength, 1)) (hh : gHas ε g c0 (0, n, fs)) (kk : gGo l ε κ R F (pc + 1) L (.int (Int32.ofNat n) :: st) M) : gGo l ε κ R F pc L (.ref (ε.2.2.1 g c0) :: st) M := by
  intro p e s m args below meth c H locs ls C hP hS h
  obtain ⟨j, hj, hw⟩ := gW_at M hh
  exact va_alen (D := ε.1) C.1 C.2.1 C.2.2.2.2.2.2.2.1 hP j 0 hw (ty := .int) rfl rfl d (kk p e s m args below meth c H locs ls C hP hS h)
theorem g_alenZ {g c0 n : Nat} {fs : List (Option (Nat × Nat))} (d : decode κ.2.1 pc = .ok (.arraylength, 1)) (hh : gHas ε g c0 (1, n, fs)) (kk : gGo l ε κ R F (pc + 1) L (.int (Int32.ofNat n) :: st) M) : gGo l ε κ R F pc L (.ref (ε.2.2.1 g c0) :: st) M := by
  intro p e s m args below meth c H locs ls C hP hS h
  obtain ⟨j, hj, hw⟩ := gW_at M hh
  exact va_alen (D := ε.1) C.1 C.2.1 C.2.2.2.2.2.2.2.1 hP j 1 hw (ty := .boolean) rfl rfl d (kk p e s m args below meth c H locs ls C hP hS h)
theorem g_alenR {g c0 n : Nat} {fs : List (Option (Nat × Nat))} (d : decode κ.2.1 pc = .ok (.arraylength, 1)) (hh : gHas ε g c0 (2, n, fs)) (kk : gGo l ε κ R F (pc + 1) L (.int (Int32.ofNat n) :: st) M) : gGo l ε κ R F pc L (.ref (ε.2.2.1 g c0) :: st) M := by
  intro p e s m args below meth c H locs ls C hP hS h
  obtain ⟨j, hj, hw⟩ := gW_at M hh
  exact va_alen (D := ε.1) C.1 C.2.1 C.2.2.2.2.2.2.2.1 hP j 2 hw (ty := .object "DropSignals$Evening") rfl rfl d (kk p e s m args below meth c H locs ls C hP hS h)
theorem g_aaload {g c0 n g1 c1 : Nat} {i : Int32} (d : decode κ.2.1 pc = .ok (.aaload, 1)) (hh : gHas ε g c0 (2, n, [some (g1, c1)])) (hin : vp_in i n) (kk : gGo l ε κ R F (pc + 1) L (.ref (ε.2.2.1 (g1 + i.toNatClampNeg) c1) :: st) M) : gGo l ε κ R F pc L (.int i :: .ref (ε.2.2.1 g c0) :: st) M := by
  intro p e s m args below meth c H locs ls C hP hS h
  obtain ⟨j, hj, hw⟩ := gW_at M hh
  exact va_aldq (D := ε.1) C.1 C.2.1 C.2.2.2.2.2.2.2.1 hP j 2 hw rfl hin d (kk p e s m args below meth c H locs ls C hP hS h)
theorem g_min {x y : Int32} {index : Nat} (d : decode κ.2.1 pc = .ok (.invokestatic index, 3)) (w1 : Cond.methodLink κ.1.cls index Lib.Math.min.name ∈ gWs) (w2 : Cond.static Lib.Math.min.name ∈ gWs) (w3 : Cond.initialized "java/lang/Math" ∈ gWs) (w4 : Cond.code Lib.Math.min.name Lib.Math.min.code 2 (some .int) ∈ gWs) (hf : 1 ≤ R.frames) (hl : (st.map fun v => v.category).sum + 13 ≤ R.locals) (k : gGo l ε κ R F (pc + 3) L (.int (if y < x then y else x) :: st) M) : gGo l ε κ R F pc L (.int y :: .int x :: st) M := by
  intro p e s m args below meth c H locs ls C hP hS h
  have hw := C.2.2.2.2.2.1
  exact va_mmin C.1 C.2.1 (C.2.2.2.1.trans h.1.symm) C.2.2.2.2.1 (hw _ w1) (hw _ w2) (hw _ w3) (hw _ w4) hf hl (Nat.zero_le _) (Nat.zero_le _) d (k p e s m args below meth c H locs ls C hP hS h)
theorem g_max {x y : Int32} {index : Nat} (d : decode κ.2.1 pc = .ok (.invokestatic index, 3)) (w1 : Cond.methodLink κ.1.cls index Lib.Math.max.name ∈ gWs) (w2 : Cond.static Lib.Math.max.name ∈ gWs) (w3 : Cond.initialized "java/lang/Math" ∈ gWs) (w4 : Cond.code Lib.Math.max.name Lib.Math.max.code 2 (some .int) ∈ gWs) (hf : 1 ≤ R.frames) (hl : (st.map fun v => v.category).sum + 13 ≤ R.locals) (k : gGo l ε κ R F (pc + 3) L (.int (if x < y then y else x) :: st) M) : gGo l ε κ R F pc L (.int y :: .int x :: st) M := by
  intro p e s m args below meth c H locs ls C hP hS h
  have hw := C.2.2.2.2.2.1
  exact va_mmax C.1 C.2.1 (C.2.2.2.1.trans h.1.symm) C.2.2.2.2.1 (hw _ w1) (hw _ w2) (hw _ w3) (hw _ w4) hf hl (Nat.zero_le _) (Nat.zero_le _) d (k p e s m args below meth c H locs ls C hP hS h)
/-- System.arraycopy between two int rows of the world -/
def gCp (M : gMem) (g0 c0 n0 g1 c1 n1 : Nat) (sp dp n : Int32) : Option gMem := if (¬ sp < 0 ∧ ¬ dp < 0 ∧ ¬ n < 0) ∧ sp.toNatClampNeg + n.toNatClampNeg ≤ n0 ∧ dp.toNatClampNeg + n.toNatClampNeg ≤ n1 then some (gUp M g1 c1 (va_cpy (M g0 c0) (M g1 c1) sp.toNatClampNeg dp.toNatClampNeg n.toNatClampNeg)) else none
theorem g_copy {g0 c0 n0 g1 c1 n1 index : Nat} {sp dp n : Int32} {M1 : gMem} (d : decode κ.2.1 pc = .ok (.invokestatic index, 3)) (w1 : Cond.methodLink κ.1.cls index arraycopyName ∈ gWs) (w2 : Cond.native arraycopyName ∈ gWs) (w3 : Cond.static arraycopyName ∈ gWs) (w4 : Cond.initialized "java/lang/System" ∈ gWs) (hh0 : gHas ε g0 c0 (0, n0, [])) (hh1 : gHas ε g1 c1 (0, n1, [])) (hf : 1 ≤ R.frames) (hl : (st.map fun v => v.category).sum + (nativeFrameWords "java/lang/System" "arraycopy" 5 + 11) ≤ R.locals) (hr : gCp M g0 c0 n0 g1 c1 n1 sp dp n = some M1) (kk : gGo l ε κ R F (pc + 3) L st M1) : gGo l ε κ R F pc L (.int n :: .int dp :: .ref (ε.2.2.1 g1 c1) :: .int sp :: .ref (ε.2.2.1 g0 c0) :: st) M := by
  intro p e s m args below meth c H locs ls C hP hS h
  have hw := C.2.2.2.2.2.1
  unfold gCp at hr
  split at hr
  · rename_i q
    obtain ⟨⟨q1, q2, q3⟩, q4, q5⟩ := q
    cases Option.some.inj hr
    obtain ⟨j0, hj0, hw0⟩ := gW_at M hh0
    obtain ⟨j1, hj1, hw1⟩ := gW_at M hh1
    refine va_copyi (D := ε.1) (ty := .int) C.1 C.2.1 (C.2.2.2.1.trans h.1.symm) C.2.2.2.2.1 (hw _ w1) (hw _ w2) (hw _ w3) (hw _ w4) C.2.2.2.2.2.2.2.1 hP (gD_of C.2.2.2.2.2.2.2.2.2 M s.heap.size) hS j0 j1 0 0 hw0 hw1 rfl rfl rfl q1 q2 q3 q4 q5 (fun _ _ => rfl) hf hl d (fun H1 locs1 hP1 _ hS1 => ?_)
    refine kk p e s m args below meth c H1 locs1 ls C ?_ hS1 h
    have e2 := gW_set C.2.2.2.2.2.2.2.2.2 M hj1 (va_cpy (M g0 c0) (M g1 c1) sp.toNatClampNeg dp.toNatClampNeg n.toNatClampNeg)
    rw [gK_s ε M hh1] at e2
    rw [← e2]
    exact hP1
  · cases hr
end GOR

section GOC
variable {l : Launch} {ε : gEnv} {κ : gMD} {R : Room} {f' n' : Nat} {F : gFin} {pc : Nat} {L : List (Nat × Value)} {st : List Value} {M M1 : gMem} {rv : Option Value}
/-- behind a call -/
theorem g_run {p : Program} {e : Env} {s : State} {m : MethodId} {args : Array Value} {below : List Frame} {meth : Method} {c : Code} {H : Heap} {locs : List Loc} {Q : State → Prop} {ls : Array Slot} {st0 rest : List Value} {a : Array Value} (hr : va_Run p l e R s m args below meth c H locs 0 0 0 0 (F0 m pc ls st0) rest (gQ ε rv M1 H.size a) (gA ε H.size)) (hS : va_S (gA ε s.heap.size) s.heap H locs)
    (kk : ∀ (H1 : Heap) (locs1 : List Loc), va_P ε.1 gCl (gW ε M1) H1 → va_S (gA ε s.heap.size) s.heap H1 locs1 → W p l e R s m args below meth c H1 locs1 0 0 Q (F0 m (pc + 3) ls (rv.toList ++ rest))) : W p l e R s m args below meth c H locs 0 0 Q (F0 m pc ls st0) := by
  intro T hT X
  obtain ⟨v, st₀, t, T', L, h0, X', hL, e1, e2, ⟨⟨hv, hp⟩, hz, hk⟩, st⟩ := hr T hT X
  cases hv
  rw [h0] at hz hk
  have hA : ∀ q, gA ε H.size q → gA ε s.heap.size q := fun q h => gA_mono hS.1 h
  obtain ⟨t2, a1, b1⟩ := kk T'.heap (locs ++ L) (by rw [e1]; exact hp)
    ⟨Nat.le_trans hS.1 (by rw [e1]; exact hz), fun q h1 h2 => by rw [e1, hk q (Nat.lt_of_lt_of_le h1 hS.1) (fun z => h2 (hA q z))]; exact hS.2.1 q h1 h2, fun q hq => by
      rcases List.mem_append.mp hq with h | h
      · exact hS.2.2 q h
      · exact hA _ (hL q h)⟩ T' rfl X'
  exact ⟨t2, st t2 a1, b1⟩
/-- what a callee's tables say: by its own words -/
def gCal (κ : gMD) (k : Nat) : Prop := Cond.code κ.1 κ.2.1 κ.2.2.1 κ.2.2.2 ∈ gWs ∧ Cond.initialized κ.1.cls ∈ gWs ∧ (κ.1.cls ≠ "java/lang/invoke/MethodHandle" ∧ κ.1.cls ≠ "java/lang/invoke/VarHandle" ∧ (parseMethodDescriptor κ.1.desc).map (fun d => d.parameters.length) = some k)
def gCaV (κ : gMD) (k : Nat) : Prop := gCal κ k ∧ Cond.instanceMethod κ.1 ∈ gWs ∧ Cond.selects κ.1.cls κ.1 κ.1 ∈ gWs
def gCaS (κ : gMD) (k : Nat) : Prop := gCal κ k ∧ Cond.static κ.1 ∈ gWs
theorem g_preOf {s : State} {H : Heap} {args : Array Value} {κ0 : gMD} {p : Program} {m : MethodId} {meth : Method} {c : Code} {M : gMem} (C : gCx ε κ0 p s m args meth c) (hP : va_P ε.1 gCl (gW ε M) H) (av : List Value) : ∀ U : State, U.heap = H → s.WarmedH U.vm → gPc ε av M H.size av.toArray U :=
  fun U hU hW => ⟨rfl, by rw [hU], by rw [hU]; exact hP, va_K.moved hW.alike C.2.2.2.2.2.2.2.1, C.2.2.2.2.2.2.1.warm hW, C.2.2.2.2.2.2.2.2.2⟩
theorem g_callV {κ' : gMD} {As rest : List Value} {idx k g c0 ci : Nat} {fs : List (Option (Nat × Nat))} (ct : gCt l ε κ' f' n' (.ref (ε.2.2.1 g c0) :: As) M rv M1) (d : decode κ.2.1 pc = .ok (.invokevirtual idx, 3)) (ca : gCaV κ' k) (hl : Cond.methodLink κ.1.cls idx κ'.1 ∈ gWs) (hh : gHas ε g c0 (3, ci, fs)) (hci : (gCl[ci]?).map (fun q => q.1) = some κ'.1.cls) (hn : As.length = k) (hst : st = As.reverse ++ .ref (ε.2.2.1 g c0) :: rest) (hW : (rest.map fun v => v.category).sum ≤ 8) (hR : f' + 1 ≤ R.frames ∧ 8 + (κ'.2.2.1 + 11) + n' ≤ R.locals)
    (kk : gGo l ε κ R F (pc + 3) L (rv.toList ++ rest) M1) : gGo l ε κ R F pc L st M := by
  intro p e s m args below meth c H locs ls C hP hS h
  have hw := C.2.2.2.2.2.1
  obtain ⟨⟨c1, c2, c3⟩, c4, c5⟩ := ca
  obtain ⟨i, hi, hwi⟩ := gW_at M hh
  obtain ⟨q, hq, hq1⟩ : ∃ q, gCl[ci]? = some q ∧ q.1 = κ'.1.cls := by
    cases hc : gCl[ci]? with
    | none => rw [hc] at hci; cases hci
    | some q => rw [hc] at hci; exact ⟨q, rfl, Option.some.inj hci⟩
  have hrecv := va_recv C.2.2.2.2.2.2.2.1 hP (ci := ci) hq hwi
  rw [hq1] at hrecv
  exact g_run (va_runV (As := As) (rest := rest) ⟨C.1, C.2.1, C.2.2.2.1, C.2.2.2.2.1, hw⟩ (ct H.size) ⟨callB_of k hw (gGood c1) rfl rfl rfl (hw _ c2) (hw _ hl) c3 hR, hw _ c4, hw _ c5⟩ ⟨gPc_blind, hrecv, g_preOf C hP _⟩ rfl hn h.1 hst (lv_room hW) d ⟨Nat.zero_le _, Nat.zero_le _⟩) hS
    (fun H1 locs1 hP1 hS1 => kk p e s m args below meth c H1 locs1 ls C hP1 hS1 h)
theorem g_callS {κ' : gMD} {As rest : List Value} {idx k : Nat} (ct : gCt l ε κ' f' n' As M rv M1) (d : decode κ.2.1 pc = .ok (.invokestatic idx, 3)) (ca : gCaS κ' k) (hl : Cond.methodLink κ.1.cls idx κ'.1 ∈ gWs) (hn : As.length = k) (hst : st = As.reverse ++ rest) (hW : (rest.map fun v => v.category).sum ≤ 8) (hR : f' + 1 ≤ R.frames ∧ 8 + (κ'.2.2.1 + 11) + n' ≤ R.locals)
    (kk : gGo l ε κ R F (pc + 3) L (rv.toList ++ rest) M1) : gGo l ε κ R F pc L st M := by
  intro p e s m args below meth c H locs ls C hP hS h
  have hw := C.2.2.2.2.2.1
  obtain ⟨⟨c1, c2, c3⟩, c4⟩ := ca
  exact g_run (va_runS (As := As) (rest := rest) ⟨C.1, C.2.1, C.2.2.2.1, C.2.2.2.2.1, hw⟩ (ct H.size) ⟨callB_of k hw (gGood c1) rfl rfl rfl (hw _ c2) (hw _ hl) c3 hR, hw _ c4⟩ ⟨gPc_blind, g_preOf C hP _⟩ rfl hn h.1 hst (lv_room hW) d ⟨Nat.zero_le _, Nat.zero_le _⟩) hS
    (fun H1 locs1 hP1 hS1 => kk p e s m args below meth c H1 locs1 ls C hP1 hS1 h)
/-- a private static method of a nest mate -/
theorem g_callN {κ' : gMD} {As rest : List Value} {idx k j : Nat} {host : String} (ct : gCt l ε κ' f' n' As M rv M1) (d : decode κ.2.1 pc = .ok (.invokestatic idx, 3)) (ca : gCaS κ' k) (hl : lw_tbl[j]? = some (Cond.methodLinkNest κ.1.cls idx κ'.1 host)) (hn : As.length = k) (hst : st = As.reverse ++ rest) (hW : (rest.map fun v => v.category).sum ≤ 8) (hR : f' + 1 ≤ R.frames ∧ 8 + (κ'.2.2.1 + 11) + n' ≤ R.locals)
    (kk : gGo l ε κ R F (pc + 3) L (rv.toList ++ rest) M1) : gGo l ε κ R F pc L st M := by
  intro p e s m args below meth c H locs ls C hP hS h
  have hw := C.2.2.2.2.2.1
  obtain ⟨⟨c1, c2, c3⟩, c4⟩ := ca
  exact g_run (va_runSN (As := As) (rest := rest) (host := host) ⟨C.1, C.2.1, C.2.2.2.1, C.2.2.2.2.1, hw⟩ (ct H.size) ⟨va_cnB k hw (gGood c1) rfl rfl rfl (C.2.2.2.2.2.2.1 _ (List.mem_of_getElem? hl) rfl) (hw _ c2) c3 hR, hw _ c4, trivial⟩ ⟨gPc_blind, g_preOf C hP _⟩ rfl hn h.1 hst (lv_room hW) d ⟨Nat.zero_le _, Nat.zero_le _⟩) hS
    (fun H1 locs1 hP1 hS1 => kk p e s m args below meth c H1 locs1 ls C hP1 hS1 h)
theorem g_end {ε : gEnv} {M : gMem} {s t : State} {H : Heap} {locs : List Loc} {o : Outcome} {a : Array Value} {rv : Option Value} (ho : o = .returned rv) (hP : va_P ε.1 gCl (gW ε M) H) (hS : va_S (gA ε s.heap.size) s.heap H locs) (ht : t.heap = H) : gQ ε rv M s.heap.size a s o t := ⟨⟨ho, by rw [ht]; exact hP⟩, hS.F ht⟩
theorem g_iret {v : Int32} (d : decode κ.2.1 pc = .ok (.ireturn, 1)) (hret : κ.2.2.2 = some .int) : gGo l ε κ R (gFn ε (some (.int v)) M) pc L [.int v] M :=
  fun p e s m args below meth c H locs ls C hP hS h => W.iret C.1 C.2.1 (C.2.2.1.trans hret) (fun t ht hW => g_end rfl hP hS ht) hS.2.2 d C.2.2.2.2.2.2.2.2.1
theorem g_zret {v : Int32} (d : decode κ.2.1 pc = .ok (.ireturn, 1)) (hret : κ.2.2.2 = some .boolean) (hv : narrow .boolean (.int v) = .int v) : gGo l ε κ R (gFn ε (some (.int v)) M) pc L [.int v] M :=
  fun p e s m args below meth c H locs ls C hP hS h => W.zret C.1 C.2.1 (C.2.2.1.trans hret) hv (fun t ht hW => g_end rfl hP hS ht) hS.2.2 d C.2.2.2.2.2.2.2.2.1
theorem g_vret (d : decode κ.2.1 pc = .ok (.return_, 1)) (hret : κ.2.2.2 = none) : gGo l ε κ R (gFn ε none M) pc L [] M :=
  fun p e s m args below meth c H locs ls C hP hS h => W.vret C.1 C.2.1 (C.2.2.1.trans hret) (fun t ht hW => g_end rfl hP hS ht) hS.2.2 d C.2.2.2.2.2.2.2.2.1
theorem g_lret {v : Int64} (d : decode κ.2.1 pc = .ok (.lreturn, 1)) (hret : κ.2.2.2 = some .long) : gGo l ε κ R (gFn ε (some (.long v)) M) pc L [.long v] M :=
  fun p e s m args below meth c H locs ls C hP hS h => W.lret C.1 C.2.1 (C.2.2.1.trans hret) (fun t ht hW => g_end rfl hP hS ht) hS.2.2 d C.2.2.2.2.2.2.2.2.1
theorem g_callV_i {r : Int32} {κ' : gMD} {As rest : List Value} {idx k g c0 ci : Nat} {fs : List (Option (Nat × Nat))} (ct : gCt l ε κ' f' n' (.ref (ε.2.2.1 g c0) :: As) M (some (.int r)) M1) (d : decode κ.2.1 pc = .ok (.invokevirtual idx, 3)) (ca : gCaV κ' k) (hl : Cond.methodLink κ.1.cls idx κ'.1 ∈ gWs) (hh : gHas ε g c0 (3, ci, fs)) (hci : (gCl[ci]?).map (fun q => q.1) = some κ'.1.cls) (hn : As.length = k) (hst : st = As.reverse ++ .ref (ε.2.2.1 g c0) :: rest) (hW : (rest.map fun v => v.category).sum ≤ 8) (hR : f' + 1 ≤ R.frames ∧ 8 + (κ'.2.2.1 + 11) + n' ≤ R.locals) (kk : gGo l ε κ R F (pc + 3) L (.int r :: rest) M1) : gGo l ε κ R F pc L st M := g_callV ct d ca hl hh hci hn hst hW hR kk
theorem g_callV_l {r : Int64} {κ' : gMD} {As rest : List Value} {idx k g c0 ci : Nat} {fs : List (Option (Nat × Nat))} (ct : gCt l ε κ' f' n' (.ref (ε.2.2.1 g c0) :: As) M (some (.long r)) M1) (d : decode κ.2.1 pc = .ok (.invokevirtual idx, 3)) (ca : gCaV κ' k) (hl : Cond.methodLink κ.1.cls idx κ'.1 ∈ gWs) (hh : gHas ε g c0 (3, ci, fs)) (hci : (gCl[ci]?).map (fun q => q.1) = some κ'.1.cls) (hn : As.length = k) (hst : st = As.reverse ++ .ref (ε.2.2.1 g c0) :: rest) (hW : (rest.map fun v => v.category).sum ≤ 8) (hR : f' + 1 ≤ R.frames ∧ 8 + (κ'.2.2.1 + 11) + n' ≤ R.locals) (kk : gGo l ε κ R F (pc + 3) L (.long r :: rest) M1) : gGo l ε κ R F pc L st M := g_callV ct d ca hl hh hci hn hst hW hR kk
theorem g_callV_v {κ' : gMD} {As rest : List Value} {idx k g c0 ci : Nat} {fs : List (Option (Nat × Nat))} (ct : gCt l ε κ' f' n' (.ref (ε.2.2.1 g c0) :: As) M none M1) (d : decode κ.2.1 pc = .ok (.invokevirtual idx, 3)) (ca : gCaV κ' k) (hl : Cond.methodLink κ.1.cls idx κ'.1 ∈ gWs) (hh : gHas ε g c0 (3, ci, fs)) (hci : (gCl[ci]?).map (fun q => q.1) = some κ'.1.cls) (hn : As.length = k) (hst : st = As.reverse ++ .ref (ε.2.2.1 g c0) :: rest) (hW : (rest.map fun v => v.category).sum ≤ 8) (hR : f' + 1 ≤ R.frames ∧ 8 + (κ'.2.2.1 + 11) + n' ≤ R.locals) (kk : gGo l ε κ R F (pc + 3) L (rest) M1) : gGo l ε κ R F pc L st M := g_callV ct d ca hl hh hci hn hst hW hR kk
theorem g_callS_i {r : Int32} {κ' : gMD} {As rest : List Value} {idx k : Nat} (ct : gCt l ε κ' f' n' As M (some (.int r)) M1) (d : decode κ.2.1 pc = .ok (.invokestatic idx, 3)) (ca : gCaS κ' k) (hl : Cond.methodLink κ.1.cls idx κ'.1 ∈ gWs) (hn : As.length = k) (hst : st = As.reverse ++ rest) (hW : (rest.map fun v => v.category).sum ≤ 8) (hR : f' + 1 ≤ R.frames ∧ 8 + (κ'.2.2.1 + 11) + n' ≤ R.locals) (kk : gGo l ε κ R F (pc + 3) L (.int r :: rest) M1) : gGo l ε κ R F pc L st M := g_callS ct d ca hl hn hst hW hR kk
theorem g_callS_l {r : Int64} {κ' : gMD} {As rest : List Value} {idx k : Nat} (ct : gCt l ε κ' f' n' As M (some (.long r)) M1) (d : decode κ.2.1 pc = .ok (.invokestatic idx, 3)) (ca : gCaS κ' k) (hl : Cond.methodLink κ.1.cls idx κ'.1 ∈ gWs) (hn : As.length = k) (hst : st = As.reverse ++ rest) (hW : (rest.map fun v => v.category).sum ≤ 8) (hR : f' + 1 ≤ R.frames ∧ 8 + (κ'.2.2.1 + 11) + n' ≤ R.locals) (kk : gGo l ε κ R F (pc + 3) L (.long r :: rest) M1) : gGo l ε κ R F pc L st M := g_callS ct d ca hl hn hst hW hR kk
theorem g_callS_v {κ' : gMD} {As rest : List Value} {idx k : Nat} (ct : gCt l ε κ' f' n' As M none M1) (d : decode κ.2.1 pc = .ok (.invokestatic idx, 3)) (ca : gCaS κ' k) (hl : Cond.methodLink κ.1.cls idx κ'.1 ∈ gWs) (hn : As.length = k) (hst : st = As.reverse ++ rest) (hW : (rest.map fun v => v.category).sum ≤ 8) (hR : f' + 1 ≤ R.frames ∧ 8 + (κ'.2.2.1 + 11) + n' ≤ R.locals) (kk : gGo l ε κ R F (pc + 3) L (rest) M1) : gGo l ε κ R F pc L st M := g_callS ct d ca hl hn hst hW hR kk
theorem g_callN_i {r : Int32} {κ' : gMD} {As rest : List Value} {idx k j : Nat} {host : String} (ct : gCt l ε κ' f' n' As M (some (.int r)) M1) (d : decode κ.2.1 pc = .ok (.invokestatic idx, 3)) (ca : gCaS κ' k) (hl : lw_tbl[j]? = some (Cond.methodLinkNest κ.1.cls idx κ'.1 host)) (hn : As.length = k) (hst : st = As.reverse ++ rest) (hW : (rest.map fun v => v.category).sum ≤ 8) (hR : f' + 1 ≤ R.frames ∧ 8 + (κ'.2.2.1 + 11) + n' ≤ R.locals) (kk : gGo l ε κ R F (pc + 3) L (.int r :: rest) M1) : gGo l ε κ R F pc L st M := g_callN ct d ca hl hn hst hW hR kk
theorem g_callN_l {r : Int64} {κ' : gMD} {As rest : List Value} {idx k j : Nat} {host : String} (ct : gCt l ε κ' f' n' As M (some (.long r)) M1) (d : decode κ.2.1 pc = .ok (.invokestatic idx, 3)) (ca : gCaS κ' k) (hl : lw_tbl[j]? = some (Cond.methodLinkNest κ.1.cls idx κ'.1 host)) (hn : As.length = k) (hst : st = As.reverse ++ rest) (hW : (rest.map fun v => v.category).sum ≤ 8) (hR : f' + 1 ≤ R.frames ∧ 8 + (κ'.2.2.1 + 11) + n' ≤ R.locals) (kk : gGo l ε κ R F (pc + 3) L (.long r :: rest) M1) : gGo l ε κ R F pc L st M := g_callN ct d ca hl hn hst hW hR kk
theorem g_callN_v {κ' : gMD} {As rest : List Value} {idx k j : Nat} {host : String} (ct : gCt l ε κ' f' n' As M none M1) (d : decode κ.2.1 pc = .ok (.invokestatic idx, 3)) (ca : gCaS κ' k) (hl : lw_tbl[j]? = some (Cond.methodLinkNest κ.1.cls idx κ'.1 host)) (hn : As.length = k) (hst : st = As.reverse ++ rest) (hW : (rest.map fun v => v.category).sum ≤ 8) (hR : f' + 1 ≤ R.frames ∧ 8 + (κ'.2.2.1 + 11) + n' ≤ R.locals) (kk : gGo l ε κ R F (pc + 3) L (rest) M1) : gGo l ε κ R F pc L st M := g_callN ct d ca hl hn hst hW hR kk
end GOC

-- ===== loops: a step gives the next state or the end; the loop's own answer, if it ends =====
def gIt {σ ρ : Type} (step : σ → Option (σ ⊕ ρ)) : Nat → σ → Option ρ
  | 0, _ => none
  | n + 1, s => match step s with
    | none => none
    | some (.inl s') => gIt step n s'
    | some (.inr r) => some r
theorem gIt_mono {σ ρ : Type} (step : σ → Option (σ ⊕ ρ)) : ∀ (n : Nat) (s : σ) (r : ρ), gIt step n s = some r → gIt step (n + 1) s = some r
  | 0, _, _, h => by cases h
  | n + 1, s, r, h => by
    unfold gIt at h ⊢
    cases hs : step s with
    | none => rw [hs] at h; cases h
    | some x =>
      rw [hs] at h
      cases x with
      | inl s' => exact gIt_mono step n s' r h
      | inr r' => exact h
theorem gIt_le {σ ρ : Type} (step : σ → Option (σ ⊕ ρ)) {n m : Nat} (hnm : n ≤ m) {s : σ} {r : ρ} (h : gIt step n s = some r) : gIt step m s = some r := by
  induction hnm with
  | refl => exact h
  | step _ ih => exact gIt_mono step _ s r ih
theorem gIt_one {σ ρ : Type} (step : σ → Option (σ ⊕ ρ)) {n m : Nat} {s : σ} {r r' : ρ} (h : gIt step n s = some r) (h' : gIt step m s = some r') : r = r' := by
  rcases Nat.le_total n m with q | q
  · exact Option.some.inj ((gIt_le step q h).symm.trans h')
  · exact Option.some.inj (h.symm.trans (gIt_le step q h'))
noncomputable def gLp {σ ρ : Type} (step : σ → Option (σ ⊕ ρ)) (s : σ) : Option ρ :=
  @dite _ (∃ (n : Nat) (r : ρ), gIt step n s = some r) (Classical.propDecidable _) (fun h => gIt step (Classical.choose h) s) (fun _ => none)
theorem gLp_iff {σ ρ : Type} (step : σ → Option (σ ⊕ ρ)) (s : σ) (r : ρ) : gLp step s = some r ↔ ∃ n, gIt step n s = some r := by
  unfold gLp
  constructor
  · intro h
    split at h
    · exact ⟨_, h⟩
    · cases h
  · rintro ⟨n, hn⟩
    have hx : ∃ (n : Nat) (r : ρ), gIt step n s = some r := ⟨n, r, hn⟩
    rw [dif_pos hx]
    obtain ⟨r', hr'⟩ := Classical.choose_spec hx
    rw [hr', gIt_one step hr' hn]
theorem gLp_eq {σ ρ : Type} (step : σ → Option (σ ⊕ ρ)) (s : σ) : gLp step s = match step s with
    | none => none
    | some (.inl s') => gLp step s'
    | some (.inr r) => some r := by
  apply Option.ext
  intro r
  rw [gLp_iff]
  constructor
  · rintro ⟨n, hn⟩
    cases n with
    | zero => cases hn
    | succ n =>
      unfold gIt at hn
      cases hs : step s with
      | none => rw [hs] at hn; cases hn
      | some x =>
        rw [hs] at hn
        cases x with
        | inl s' => exact (gLp_iff step s' r).mpr ⟨n, hn⟩
        | inr r' => exact hn
  · intro h
    cases hs : step s with
    | none => rw [hs] at h; cases h
    | some x =>
      rw [hs] at h
      cases x with
      | inl s' =>
        obtain ⟨n, hn⟩ := (gLp_iff step s' r).mp h
        refine ⟨n + 1, ?_⟩
        unfold gIt
        rw [hs]
        exact hn
      | inr r' =>
        refine ⟨1, ?_⟩
        unfold gIt
        rw [hs]
        exact h
theorem g_loop {σ ρ : Type} (step : σ → Option (σ ⊕ ρ)) (P : ρ → σ → Prop) (hstep : ∀ (s : σ) (res : σ ⊕ ρ), step s = some res → ∀ r : ρ, (∀ s', res = .inl s' → P r s') → (∀ r', res = .inr r' → r' = r) → P r s) : ∀ (s : σ) (r : ρ), gLp step s = some r → P r s := by
  intro s r h
  obtain ⟨n, hn⟩ := (gLp_iff step s r).mp h
  clear h
  induction n generalizing s with
  | zero => cases hn
  | succ n ih =>
    unfold gIt at hn
    cases hs : step s with
    | none => rw [hs] at hn; cases hn
    | some x =>
      rw [hs] at hn
      cases x with
      | inl s' => exact hstep s _ hs r (fun s2 e => by cases e; exact ih s' hn) (fun r' e => by cases e)
      | inr r' => exact hstep s _ hs r (fun s2 e => by cases e) (fun r2 e => by cases e; exact Option.some.inj hn)
theorem gOb {α β : Type} {o : Option α} {f : α → Option β} {r : β} (h : o.bind f = some r) : ∃ x, o = some x ∧ f x = some r := by
  cases o with
  | none => cases h
  | some x => exact ⟨x, rfl, h⟩
theorem gOm {α β : Type} {o : Option α} {f : α → β} {r : β} (h : o.map f = some r) : ∃ x, o = some x ∧ f x = r := by
  cases o with
  | none => cases h
  | some x => exact ⟨x, rfl, Option.some.inj h⟩
/-- 0 or 1 alone -/
def gBl (v : Int32) : Option Int32 := if v = 0 ∨ v = 1 then some v else none
theorem gBl_s {v r : Int32} (h : gBl v = some r) : r = v ∧ (v = 0 ∨ v = 1) := by
  unfold gBl at h
  split at h
  · rename_i q
    exact ⟨(Option.some.inj h).symm, q⟩
  · cases h
theorem gB_n {v : Int32} (h : v = 0 ∨ v = 1) : narrow .boolean (.int v) = .int v := by rcases h with rfl | rfl <;> rfl
theorem gB_f {v : Int32} (h : v = 0 ∨ v = 1) : fits .boolean (.int v) = true := by rcases h with rfl | rfl <;> rfl
theorem gB_p {v : Int32} (h : v = 0 ∨ v = 1) : vp_nar .boolean v = v := by rcases h with rfl | rfl <;> rfl
/-- a place in range -/
def gIn (n : Nat) (i : Int32) : Option Nat := if 0 ≤ i.toInt ∧ i.toInt < n then some i.toNatClampNeg else none
theorem gIn_s {n k : Nat} {i : Int32} (h : gIn n i = some k) : vp_in i n ∧ k = i.toNatClampNeg ∧ k < n := by
  unfold gIn at h
  split at h
  · rename_i q
    have e := Option.some.inj h
    refine ⟨vp_in_iff.mpr q, e.symm, ?_⟩
    rw [← e]
    show i.toInt.toNat < n
    omega
  · cases h
def gNz (y : Int32) : Option Int32 := if y = 0 then none else some y
theorem gNz_s {y r : Int32} (h : gNz y = some r) : r = y ∧ ¬ y = 0 := by
  unfold gNz at h
  split at h
  · cases h
  · rename_i q
    exact ⟨(Option.some.inj h).symm, q⟩
def gRem (x y : Int32) : Int32 := x - x / y * y
def gRemL (x y : Int64) : Int64 := x - x / y * y
def gUsh (x : Int64) (y : Int32) : Int64 := (x.toUInt64 >>> (y.toInt64.toUInt64 &&& Int64.toUInt64 63)).toInt64
def gShl (x : Int64) (y : Int32) : Int64 := x <<< (y.toInt64 &&& 63)
def gIsh (x y : Int32) : Int32 := x <<< (y &&& 31)
def gSO (M : gMem) (g c k : Nat) (x : Int32) : Option gMem := some (gSt M g c k x)
def gNzL (y : Int64) : Option Int64 := if y = 0 then none else some y
theorem gNzL_s {y r : Int64} (h : gNzL y = some r) : r = y ∧ ¬ y = 0 := by
  unfold gNzL at h
  split at h
  · cases h
  · rename_i q
    exact ⟨(Option.some.inj h).symm, q⟩
-- ===== what of the layout is there =====
def gCd (ε : gEnv) (e : Nat) : Prop := e < 18 ∧ (e, 1) ∈ ε.2.2.2 ∧ (e, 5) ∈ ε.2.2.2 ∧ (e, 6) ∈ ε.2.2.2 ∧ (e, 7) ∈ ε.2.2.2
def gDr (ε : gEnv) (e : Nat) : Prop := e < 18 ∧ (e, 2) ∈ ε.2.2.2 ∧ (e, 8) ∈ ε.2.2.2 ∧ (e, 9) ∈ ε.2.2.2 ∧ (e, 10) ∈ ε.2.2.2 ∧ (e, 11) ∈ ε.2.2.2
def gEv (ε : gEnv) (e : Nat) : Prop := e < 18 ∧ ∀ c, c < 12 → (e, c) ∈ ε.2.2.2
theorem gS_ev {e : Nat} (h : e < 18) (c : Nat) : gS e c = gEvS e c := by unfold gS; rw [if_pos h]
theorem gEv_cd {ε : gEnv} {e : Nat} (h : gEv ε e) : gCd ε e := ⟨h.1, h.2 1 (by decide), h.2 5 (by decide), h.2 6 (by decide), h.2 7 (by decide)⟩
theorem gEv_dr {ε : gEnv} {e : Nat} (h : gEv ε e) : gDr ε e := ⟨h.1, h.2 2 (by decide), h.2 8 (by decide), h.2 9 (by decide), h.2 10 (by decide), h.2 11 (by decide)⟩
theorem gCd_h1 {ε : gEnv} {e : Nat} (h : gCd ε e) : gHas ε e 1 (3, 0, [some (e, 5), some (e, 6), some (e, 7), none]) := ⟨h.2.1, gS_ev h.1 1⟩
theorem gCd_h5 {ε : gEnv} {e : Nat} (h : gCd ε e) : gHas ε e 5 (0, 32, []) := ⟨h.2.2.1, gS_ev h.1 5⟩
theorem gCd_h6 {ε : gEnv} {e : Nat} (h : gCd ε e) : gHas ε e 6 (0, 32, []) := ⟨h.2.2.2.1, gS_ev h.1 6⟩
theorem gCd_h7 {ε : gEnv} {e : Nat} (h : gCd ε e) : gHas ε e 7 (0, 32, []) := ⟨h.2.2.2.2, gS_ev h.1 7⟩
theorem gDr_h2 {ε : gEnv} {e : Nat} (h : gDr ε e) : gHas ε e 2 (3, 1, [some (e, 8), some (e, 9), some (e, 10), some (e, 11)]) := ⟨h.2.1, gS_ev h.1 2⟩
theorem gDr_h8 {ε : gEnv} {e : Nat} (h : gDr ε e) : gHas ε e 8 (0, 16, []) := ⟨h.2.2.1, gS_ev h.1 8⟩
theorem gDr_h9 {ε : gEnv} {e : Nat} (h : gDr ε e) : gHas ε e 9 (0, 16, []) := ⟨h.2.2.2.1, gS_ev h.1 9⟩
theorem gDr_h10 {ε : gEnv} {e : Nat} (h : gDr ε e) : gHas ε e 10 (0, 16, []) := ⟨h.2.2.2.2.1, gS_ev h.1 10⟩
theorem gDr_h11 {ε : gEnv} {e : Nat} (h : gDr ε e) : gHas ε e 11 (0, 16, []) := ⟨h.2.2.2.2.2, gS_ev h.1 11⟩
theorem gEv_h0 {ε : gEnv} {e : Nat} (h : gEv ε e) : gHas ε e 0 (3, 2, [some (e, 1), some (e, 2), some (e, 3), some (e, 4), none, none, none, none, none, none, none, none, none, none]) := ⟨h.2 0 (by decide), gS_ev h.1 0⟩
theorem gEv_h1 {ε : gEnv} {e : Nat} (h : gEv ε e) : gHas ε e 1 (3, 0, [some (e, 5), some (e, 6), some (e, 7), none]) := gCd_h1 (gEv_cd h)
theorem gEv_h2 {ε : gEnv} {e : Nat} (h : gEv ε e) : gHas ε e 2 (3, 1, [some (e, 8), some (e, 9), some (e, 10), some (e, 11)]) := gDr_h2 (gEv_dr h)
theorem gEv_h3 {ε : gEnv} {e : Nat} (h : gEv ε e) : gHas ε e 3 (0, 2, []) := ⟨h.2 3 (by decide), gS_ev h.1 3⟩
theorem gEv_h4 {ε : gEnv} {e : Nat} (h : gEv ε e) : gHas ε e 4 (0, 2, []) := ⟨h.2 4 (by decide), gS_ev h.1 4⟩
/-- the whole system's cells, and the reference's -/
def gXw (ε : gEnv) : Prop := (∀ e, e < 18 → gEv ε e) ∧ ∀ c, c < 11 → (18, c) ∈ ε.2.2.2
def gMo (ε : gEnv) : Prop := ∀ c, c < 12 → (19, c) ∈ ε.2.2.2

theorem gXw_h0 {ε : gEnv} (h : gXw ε) : gHas ε 18 0 (3, 7, [some (0, 0), some (1, 0), some (18, 1), some (18, 3), some (18, 6), some (18, 8)]) := ⟨h.2 0 (by decide), rfl⟩
theorem gXw_h1 {ε : gEnv} (h : gXw ε) : gHas ε 18 1 (3, 3, [some (18, 2), none, none]) := ⟨h.2 1 (by decide), rfl⟩
theorem gXw_h2 {ε : gEnv} (h : gXw ε) : gHas ε 18 2 (2, 14, [some (2, 0)]) := ⟨h.2 2 (by decide), rfl⟩
theorem gXw_h3 {ε : gEnv} (h : gXw ε) : gHas ε 18 3 (3, 5, [some (18, 4), some (18, 5)]) := ⟨h.2 3 (by decide), rfl⟩
theorem gXw_h4 {ε : gEnv} (h : gXw ε) : gHas ε 18 4 (2, 2, [some (16, 0)]) := ⟨h.2 4 (by decide), rfl⟩
theorem gXw_h5 {ε : gEnv} (h : gXw ε) : gHas ε 18 5 (1, 2, []) := ⟨h.2 5 (by decide), rfl⟩
theorem gXw_h6 {ε : gEnv} (h : gXw ε) : gHas ε 18 6 (3, 6, [some (18, 7), none]) := ⟨h.2 6 (by decide), rfl⟩
theorem gXw_h7 {ε : gEnv} (h : gXw ε) : gHas ε 18 7 (0, 120, []) := ⟨h.2 7 (by decide), rfl⟩
theorem gXw_h8 {ε : gEnv} (h : gXw ε) : gHas ε 18 8 (3, 4, [some (18, 9), some (18, 10), none, none, none, none, none, none]) := ⟨h.2 8 (by decide), rfl⟩
theorem gXw_h9 {ε : gEnv} (h : gXw ε) : gHas ε 18 9 (0, 12, []) := ⟨h.2 9 (by decide), rfl⟩
theorem gXw_h10 {ε : gEnv} (h : gXw ε) : gHas ε 18 10 (0, 12, []) := ⟨h.2 10 (by decide), rfl⟩
theorem gMo_h0 {ε : gEnv} (h : gMo ε) : gHas ε 19 0 (3, 8, [none, some (19, 1), none, some (19, 2), some (19, 3), some (19, 4), some (19, 5), some (19, 6), some (19, 7), some (19, 8), some (19, 9), none, some (19, 10), some (19, 11), none, none]) := ⟨h 0 (by decide), rfl⟩
theorem gMo_h1 {ε : gEnv} (h : gMo ε) : gHas ε 19 1 (0, 120, []) := ⟨h 1 (by decide), rfl⟩
theorem gMo_h2 {ε : gEnv} (h : gMo ε) : gHas ε 19 2 (0, 197, []) := ⟨h 2 (by decide), rfl⟩
theorem gMo_h3 {ε : gEnv} (h : gMo ε) : gHas ε 19 3 (0, 197, []) := ⟨h 3 (by decide), rfl⟩
theorem gMo_h4 {ε : gEnv} (h : gMo ε) : gHas ε 19 4 (0, 197, []) := ⟨h 4 (by decide), rfl⟩
theorem gMo_h5 {ε : gEnv} (h : gMo ε) : gHas ε 19 5 (0, 2758, []) := ⟨h 5 (by decide), rfl⟩
theorem gMo_h6 {ε : gEnv} (h : gMo ε) : gHas ε 19 6 (0, 14, []) := ⟨h 6 (by decide), rfl⟩
theorem gMo_h7 {ε : gEnv} (h : gMo ε) : gHas ε 19 7 (0, 14, []) := ⟨h 7 (by decide), rfl⟩
theorem gMo_h8 {ε : gEnv} (h : gMo ε) : gHas ε 19 8 (0, 32, []) := ⟨h 8 (by decide), rfl⟩
theorem gMo_h9 {ε : gEnv} (h : gMo ε) : gHas ε 19 9 (0, 2758, []) := ⟨h 9 (by decide), rfl⟩
theorem gMo_h10 {ε : gEnv} (h : gMo ε) : gHas ε 19 10 (0, 394, []) := ⟨h 10 (by decide), rfl⟩
theorem gMo_h11 {ε : gEnv} (h : gMo ε) : gHas ε 19 11 (1, 2, []) := ⟨h 11 (by decide), rfl⟩
section GOO
variable {l : Launch} {ε : gEnv} {κ : gMD} {R : Room} {F : gFin} {pc : Nat} {L : List (Nat × Value)} {st : List Value} {M M1 : gMem}
theorem g_rem {x y : Int32} (d : decode κ.2.1 pc = .ok (.irem, 1)) (hne : ¬ y = 0) (k : gGo l ε κ R F (pc + 1) L (.int (gRem x y) :: st) M) : gGo l ε κ R F pc L (.int y :: .int x :: st) M := g_irem d hne k
theorem g_remL {x y : Int64} (d : decode κ.2.1 pc = .ok (.lrem, 1)) (hne : ¬ y = 0) (k : gGo l ε κ R F (pc + 1) L (.long (gRemL x y) :: st) M) : gGo l ε κ R F pc L (.long y :: .long x :: st) M := g_lrem d hne k
theorem g_ush {x : Int64} {y : Int32} (d : decode κ.2.1 pc = .ok (.lushr, 1)) (k : gGo l ε κ R F (pc + 1) L (.long (gUsh x y) :: st) M) : gGo l ε κ R F pc L (.int y :: .long x :: st) M := g_lushr d k
theorem g_shl {x : Int64} {y : Int32} (d : decode κ.2.1 pc = .ok (.lshl, 1)) (k : gGo l ε κ R F (pc + 1) L (.long (gShl x y) :: st) M) : gGo l ε κ R F pc L (.int y :: .long x :: st) M := g_lshl d k
theorem g_ish {x y : Int32} (d : decode κ.2.1 pc = .ok (.ishl, 1)) (k : gGo l ε κ R F (pc + 1) L (.int (gIsh x y) :: st) M) : gGo l ε κ R F pc L (.int y :: .int x :: st) M := g_ishl d k
theorem g_putO {idx ci k g c0 : Nat} {x : Int32} {fs : List (Option (Nat × Nat))} (d : decode κ.2.1 pc = .ok (.putfield idx, 3)) (hf : gFp κ.1.cls idx ci k .int) (hh : gHas ε g c0 (3, ci, fs)) (hk : fs[k]? = some none) (hr : gSO M g c0 k x = some M1) (kk : gGo l ε κ R F (pc + 3) L st M1) : gGo l ε κ R F pc L (.int x :: .ref (ε.2.2.1 g c0) :: st) M := by
  cases hr
  exact g_put d hf hh hk rfl rfl kk
theorem g_putON {idx ci k g c0 : Nat} {x : Int32} {fs : List (Option (Nat × Nat))} (d : decode κ.2.1 pc = .ok (.putfield idx, 3)) (hf : gFpN κ.1.cls idx ci k .int) (hh : gHas ε g c0 (3, ci, fs)) (hk : fs[k]? = some none) (hr : gSO M g c0 k x = some M1) (kk : gGo l ε κ R F (pc + 3) L st M1) : gGo l ε κ R F pc L (.int x :: .ref (ε.2.2.1 g c0) :: st) M := by
  cases hr
  exact g_putN d hf hh hk rfl rfl kk
theorem g_putZ {idx ci k g c0 : Nat} {x x' : Int32} {fs : List (Option (Nat × Nat))} (d : decode κ.2.1 pc = .ok (.putfield idx, 3)) (hf : gFp κ.1.cls idx ci k .boolean) (hh : gHas ε g c0 (3, ci, fs)) (hk : fs[k]? = some none) (hb : gBl x = some x') (hr : gSO M g c0 k x = some M1) (kk : gGo l ε κ R F (pc + 3) L st M1) : gGo l ε κ R F pc L (.int x :: .ref (ε.2.2.1 g c0) :: st) M := by
  cases hr
  exact g_put d hf hh hk (gB_n (gBl_s hb).2) (gB_f (gBl_s hb).2) kk
theorem g_aaloadO {g c0 n g1 c1 k : Nat} {i : Int32} (d : decode κ.2.1 pc = .ok (.aaload, 1)) (hh : gHas ε g c0 (2, n, [some (g1, c1)])) (hr : gIn n i = some k) (kk : gGo l ε κ R F (pc + 1) L (.ref (ε.2.2.1 (g1 + k) c1) :: st) M) : gGo l ε κ R F pc L (.int i :: .ref (ε.2.2.1 g c0) :: st) M := by
  obtain ⟨h1, rfl, -⟩ := gIn_s hr
  exact g_aaload d hh h1 kk
theorem g_bastoreO {g c0 n : Nat} {i x x' : Int32} (d : decode κ.2.1 pc = .ok (.bastore, 1)) (hh : gHas ε g c0 (1, n, [])) (hb : gBl x = some x') (hr : gWr M g c0 n i x = some M1) (kk : gGo l ε κ R F (pc + 1) L st M1) : gGo l ε κ R F pc L (.int x :: .int i :: .ref (ε.2.2.1 g c0) :: st) M := g_bastore d hh (gB_p (gBl_s hb).2) hr kk
theorem g_zretO {v v' : Int32} (d : decode κ.2.1 pc = .ok (.ireturn, 1)) (hret : κ.2.2.2 = some .boolean) (hb : gBl v = some v') : gGo l ε κ R (gFn ε (some (.int v)) M) pc L [.int v] M := g_zret d hret (gB_n (gBl_s hb).2)
end GOO
end
section
abbrev k_JA_fill : gMD := (⟨"java/util/Arrays", "fill", "([II)V"⟩, prog_21_method_103_code, 4, none)
theorem w_37 : Cond.initialized "java/util/Arrays" ∈ gWs := gWs_in (i := 37) (by decide +kernel) rfl
theorem w_78 : Cond.static ⟨"java/util/Arrays", "fill", "([II)V"⟩ ∈ gWs := gWs_in (i := 78) (by decide +kernel) rfl
set_option maxRecDepth 100000 in
theorem ca_JA_fill : gCaS k_JA_fill 2 := ⟨⟨gWs_in (i := 79) rfl rfl, w_37, by decide, by decide, by decide +kernel⟩, w_78⟩
theorem d_JA_fill_0 : decode prog_21_method_103_code 0 = .ok (.iconst 0, 1) := by decide +kernel
theorem d_JA_fill_1 : decode prog_21_method_103_code 1 = .ok (.istore_n 2, 1) := by decide +kernel
theorem d_JA_fill_2 : decode prog_21_method_103_code 2 = .ok (.aload_n 0, 1) := by decide +kernel
theorem d_JA_fill_3 : decode prog_21_method_103_code 3 = .ok (.arraylength, 1) := by decide +kernel
theorem d_JA_fill_4 : decode prog_21_method_103_code 4 = .ok (.istore_n 3, 1) := by decide +kernel
theorem d_JA_fill_5 : decode prog_21_method_103_code 5 = .ok (.iload_n 2, 1) := by decide +kernel
theorem d_JA_fill_6 : decode prog_21_method_103_code 6 = .ok (.iload_n 3, 1) := by decide +kernel
theorem d_JA_fill_7 : decode prog_21_method_103_code 7 = .ok (.if_icmp .ge 13, 3) := by decide +kernel
theorem d_JA_fill_10 : decode prog_21_method_103_code 10 = .ok (.aload_n 0, 1) := by decide +kernel
theorem d_JA_fill_11 : decode prog_21_method_103_code 11 = .ok (.iload_n 2, 1) := by decide +kernel
theorem d_JA_fill_12 : decode prog_21_method_103_code 12 = .ok (.iload_n 1, 1) := by decide +kernel
theorem d_JA_fill_13 : decode prog_21_method_103_code 13 = .ok (.iastore, 1) := by decide +kernel
theorem d_JA_fill_14 : decode prog_21_method_103_code 14 = .ok (.iinc 2 1, 3) := by decide +kernel
theorem d_JA_fill_17 : decode prog_21_method_103_code 17 = .ok (.goto (-12), 3) := by decide +kernel
theorem d_JA_fill_20 : decode prog_21_method_103_code 20 = .ok (.return_, 1) := by decide +kernel
noncomputable def f_JA_fill_s5 (g0 : Nat) (c0 : Nat) (n0 : Nat) (M : gMem) (x1 : Int32) (x2 : Int32) (x3 : Int32) : Option ((Int32 × gMem) ⊕ gMem) :=
  if x3 ≤ x2 then
    some (.inr M)
  else
    (gWr M g0 c0 n0 x2 x1).bind fun M1 =>
    some (.inl ((x2 + 1), M1))
theorem t_JA_fill_s5 {l : Launch} {ε : gEnv} (g0 : Nat) (c0 : Nat) (n0 : Nat) (h0 : gHas ε g0 c0 (0, n0, [])) (M : gMem) (x1 : Int32) (x2 : Int32) (x3 : Int32) (res : ((Int32 × gMem) ⊕ gMem)) (h : f_JA_fill_s5 g0 c0 n0 M x1 x2 x3 = some res) (r : gMem) (k1 : ∀ s0 : (Int32 × gMem), res = .inl s0 → gGo l ε k_JA_fill (gR 0 0) (gFn ε none r) 5 [(0, .ref (ε.2.2.1 g0 c0)), (1, .int x1), (2, .int s0.1), (3, .int x3)] [] s0.2) (k2 : ∀ r', res = .inr r' → r' = r) : gGo l ε k_JA_fill (gR 0 0) (gFn ε none r) 5 [(0, .ref (ε.2.2.1 g0 c0)), (1, .int x1), (2, .int x2), (3, .int x3)] [] M := by
  unfold f_JA_fill_s5 at h
  refine g_iload_n d_JA_fill_5 rfl 2 rfl ?_
  refine g_iload_n d_JA_fill_6 rfl 3 rfl ?_
  refine g_icmp_ge (tgt := 20) d_JA_fill_7 (by decide) (fun c2 => ?_) (fun c2 => ?_)
  · rw [if_pos c2] at h
    obtain rfl := Option.some.inj h
    have e9 := k2 _ rfl
    subst e9
    exact g_vret d_JA_fill_20 rfl
  · rw [if_neg c2] at h
    refine g_aload_n d_JA_fill_10 rfl 0 rfl ?_
    refine g_iload_n d_JA_fill_11 rfl 2 rfl ?_
    refine g_iload_n d_JA_fill_12 rfl 1 rfl ?_
    obtain ⟨M1, hM1, h⟩ := gOb h
    refine g_iastore d_JA_fill_13 h0 hM1 ?_
    refine g_iinc (v := (x2 + 1)) (L' := [(2, .int (x2 + 1)), (0, .ref (ε.2.2.1 g0 c0)), (1, .int x1), (3, .int x3)]) d_JA_fill_14 (j := 2) rfl rfl (by decide) rfl ?_
    refine g_goto (tgt := 5) d_JA_fill_17 (by decide) ?_
    refine gGo_sub [1, 2, 0, 3] rfl ?_
    obtain rfl := Option.some.inj h
    exact k1 _ rfl
noncomputable def f_JA_fill_l5 (g0 : Nat) (c0 : Nat) (n0 : Nat) (x1 : Int32) (x3 : Int32) (s : (Int32 × gMem)) : Option gMem := gLp (fun s => f_JA_fill_s5 g0 c0 n0 s.2 x1 s.1 x3) s
theorem t_JA_fill_l5 {l : Launch} {ε : gEnv} (g0 : Nat) (c0 : Nat) (n0 : Nat) (h0 : gHas ε g0 c0 (0, n0, [])) (x1 : Int32) (x3 : Int32) (s : (Int32 × gMem)) (r : gMem) (h : f_JA_fill_l5 g0 c0 n0 x1 x3 s = some r) : gGo l ε k_JA_fill (gR 0 0) (gFn ε none r) 5 [(0, .ref (ε.2.2.1 g0 c0)), (1, .int x1), (2, .int s.1), (3, .int x3)] [] s.2 :=
  g_loop _ (fun r s => gGo l ε k_JA_fill (gR 0 0) (gFn ε none r) 5 [(0, .ref (ε.2.2.1 g0 c0)), (1, .int x1), (2, .int s.1), (3, .int x3)] [] s.2) (fun s res h r k1 k2 => t_JA_fill_s5 g0 c0 n0 h0 s.2 x1 s.1 x3 res h r k1 k2) s r h
noncomputable def f_JA_fill (g0 : Nat) (c0 : Nat) (n0 : Nat) (M : gMem) (a1 : Int32) : Option gMem :=
  f_JA_fill_l5 g0 c0 n0 a1 (Int32.ofNat n0) (0, M)
theorem t_JA_fill {l : Launch} {ε : gEnv} (g0 : Nat) (c0 : Nat) (n0 : Nat) (h0 : gHas ε g0 c0 (0, n0, [])) (M : gMem) (a1 : Int32) (r : gMem) (h : f_JA_fill g0 c0 n0 M a1 = some r) : gGo l ε k_JA_fill (gR 0 0) (gFn ε none r) 0 [(0, .ref (ε.2.2.1 g0 c0)), (1, .int a1)] [] M := by
  unfold f_JA_fill at h
  refine g_iconst (v := 0) d_JA_fill_0 (by decide) ?_
  refine g_istore_n (L' := [(2, .int 0), (0, .ref (ε.2.2.1 g0 c0)), (1, .int a1)]) d_JA_fill_1 rfl (by decide) rfl ?_
  refine g_aload_n d_JA_fill_2 rfl 1 rfl ?_
  refine g_alen d_JA_fill_3 h0 ?_
  refine g_istore_n (L' := [(3, .int (Int32.ofNat n0)), (2, .int 0), (0, .ref (ε.2.2.1 g0 c0)), (1, .int a1)]) d_JA_fill_4 rfl (by decide) rfl ?_
  refine gGo_sub [2, 3, 1, 0] rfl ?_
  exact t_JA_fill_l5 g0 c0 n0 h0 a1 (Int32.ofNat n0) (0, M) _ h
theorem ct_JA_fill {l : Launch} {ε : gEnv} (g0 : Nat) (c0 : Nat) (n0 : Nat) (h0 : gHas ε g0 c0 (0, n0, [])) (M : gMem) (a1 : Int32) (r : gMem) (h : f_JA_fill g0 c0 n0 M a1 = some r) : gCt l ε k_JA_fill 0 0 [.ref (ε.2.2.1 g0 c0), .int a1] M none r :=
  gCt_of (by decide) (Nat.le_of_ble_eq_true rfl) rfl (t_JA_fill g0 c0 n0 h0 M a1 r h)
abbrev k_Cards_clear : gMD := (⟨"DropSignals$Cards", "clear", "()V"⟩, prog_2_method_2_code, 1, none)
theorem w_36 : Cond.initialized "DropSignals$Cards" ∈ gWs := gWs_in (i := 36) (by decide +kernel) rfl
theorem w_74 : Cond.instanceMethod ⟨"DropSignals$Cards", "clear", "()V"⟩ ∈ gWs := gWs_in (i := 74) (by decide +kernel) rfl
theorem w_75 : Cond.selects "DropSignals$Cards" ⟨"DropSignals$Cards", "clear", "()V"⟩ ⟨"DropSignals$Cards", "clear", "()V"⟩ ∈ gWs := gWs_in (i := 75) (by decide +kernel) rfl
set_option maxRecDepth 100000 in
theorem ca_Cards_clear : gCaV k_Cards_clear 0 := ⟨⟨gWs_in (i := 76) rfl rfl, w_36, by decide, by decide, by decide +kernel⟩, w_74, w_75⟩
theorem d_Cards_clear_0 : decode prog_2_method_2_code 0 = .ok (.aload_n 0, 1) := by decide +kernel
theorem d_Cards_clear_1 : decode prog_2_method_2_code 1 = .ok (.getfield 9, 3) := by decide +kernel
theorem d_Cards_clear_4 : decode prog_2_method_2_code 4 = .ok (.iconst (-1), 1) := by decide +kernel
theorem d_Cards_clear_5 : decode prog_2_method_2_code 5 = .ok (.invokestatic 24, 3) := by decide +kernel
theorem d_Cards_clear_8 : decode prog_2_method_2_code 8 = .ok (.aload_n 0, 1) := by decide +kernel
theorem d_Cards_clear_9 : decode prog_2_method_2_code 9 = .ok (.getfield 15, 3) := by decide +kernel
theorem d_Cards_clear_12 : decode prog_2_method_2_code 12 = .ok (.iconst (-1), 1) := by decide +kernel
theorem d_Cards_clear_13 : decode prog_2_method_2_code 13 = .ok (.invokestatic 24, 3) := by decide +kernel
theorem d_Cards_clear_16 : decode prog_2_method_2_code 16 = .ok (.aload_n 0, 1) := by decide +kernel
theorem d_Cards_clear_17 : decode prog_2_method_2_code 17 = .ok (.getfield 18, 3) := by decide +kernel
theorem d_Cards_clear_20 : decode prog_2_method_2_code 20 = .ok (.iconst (-1), 1) := by decide +kernel
theorem d_Cards_clear_21 : decode prog_2_method_2_code 21 = .ok (.invokestatic 24, 3) := by decide +kernel
theorem d_Cards_clear_24 : decode prog_2_method_2_code 24 = .ok (.aload_n 0, 1) := by decide +kernel
theorem d_Cards_clear_25 : decode prog_2_method_2_code 25 = .ok (.iconst 0, 1) := by decide +kernel
theorem d_Cards_clear_26 : decode prog_2_method_2_code 26 = .ok (.putfield 30, 3) := by decide +kernel
theorem d_Cards_clear_29 : decode prog_2_method_2_code 29 = .ok (.return_, 1) := by decide +kernel
theorem uw_0 : ∀ w ∈ u_ws gN0 gF0 4, w ∈ gWs := by
  intro w hw
  have h := List.all_eq_true.mp (show (u_ws gN0 gF0 4).all (fun w => decide (w ∈ lw_tbl) && goodWord w) = true by decide +kernel) w hw
  simp only [Bool.and_eq_true, decide_eq_true_eq] at h
  exact List.mem_filter.mpr h
theorem w_80 : Cond.fieldLink "DropSignals$Cards" 9 "DropSignals$Cards" "owners" "[I" ∈ gWs := gWs_in (i := 80) (by decide +kernel) rfl
theorem fl_Cards_9 : gFl "DropSignals$Cards" 9 0 0 := ⟨gN0, gF0, 4, rfl, uw_0, by decide, w_80⟩
theorem w_77 : Cond.methodLink "DropSignals$Cards" 24 ⟨"java/util/Arrays", "fill", "([II)V"⟩ ∈ gWs := gWs_in (i := 77) (by decide +kernel) rfl
theorem w_81 : Cond.fieldLink "DropSignals$Cards" 15 "DropSignals$Cards" "times" "[I" ∈ gWs := gWs_in (i := 81) (by decide +kernel) rfl
theorem fl_Cards_15 : gFl "DropSignals$Cards" 15 0 1 := ⟨gN0, gF0, 4, rfl, uw_0, by decide, w_81⟩
theorem w_82 : Cond.fieldLink "DropSignals$Cards" 18 "DropSignals$Cards" "order" "[I" ∈ gWs := gWs_in (i := 82) (by decide +kernel) rfl
theorem fl_Cards_18 : gFl "DropSignals$Cards" 18 0 2 := ⟨gN0, gF0, 4, rfl, uw_0, by decide, w_82⟩
theorem w_84 : Cond.fieldLink "DropSignals$Cards" 30 "DropSignals$Cards" "laid" "I" ∈ gWs := gWs_in (i := 84) (by decide +kernel) rfl
theorem fl_Cards_30 : gFl "DropSignals$Cards" 30 0 3 := ⟨gN0, gF0, 4, rfl, uw_0, by decide, w_84⟩
theorem fp_Cards_30 : gFp "DropSignals$Cards" 30 0 3 .int := ⟨gN0, gF0, 4, rfl, uw_0, by decide, w_84, ⟨gX0, gY0⟩, gD0, rfl, by decide +kernel⟩
noncomputable def f_Cards_clear (e : Nat) (M : gMem) : Option gMem :=
  (f_JA_fill e 5 32 M (-1)).bind fun q1 =>
  (f_JA_fill e 6 32 q1 (-1)).bind fun q2 =>
  (f_JA_fill e 7 32 q2 (-1)).bind fun q3 =>
  (gSO q3 e 1 3 0).bind fun M4 =>
  some M4
theorem t_Cards_clear {l : Launch} {ε : gEnv} (e : Nat) (hC : gCd ε e) (M : gMem) (r : gMem) (h : f_Cards_clear e M = some r) : gGo l ε k_Cards_clear (gR 1 23) (gFn ε none r) 0 [(0, .ref (ε.2.2.1 e 1))] [] M := by
  unfold f_Cards_clear at h
  refine g_aload_n d_Cards_clear_0 rfl 0 rfl ?_
  refine g_getR d_Cards_clear_1 fl_Cards_9 (gCd_h1 hC) rfl ?_
  refine g_iconst (v := -1) d_Cards_clear_4 (by decide) ?_
  obtain ⟨q1, hq1, h⟩ := gOb h
  refine g_callS_v (As := [.ref (ε.2.2.1 e 5), .int (-1)]) (rest := []) (ct_JA_fill e 5 32 (gCd_h5 hC) M (-1) _ hq1) d_Cards_clear_5 ca_JA_fill w_77 rfl rfl (Nat.le_of_ble_eq_true rfl) ⟨(Nat.le_of_ble_eq_true rfl), (Nat.le_of_ble_eq_true rfl)⟩ ?_
  refine g_aload_n d_Cards_clear_8 rfl 0 rfl ?_
  refine g_getR d_Cards_clear_9 fl_Cards_15 (gCd_h1 hC) rfl ?_
  refine g_iconst (v := -1) d_Cards_clear_12 (by decide) ?_
  obtain ⟨q2, hq2, h⟩ := gOb h
  refine g_callS_v (As := [.ref (ε.2.2.1 e 6), .int (-1)]) (rest := []) (ct_JA_fill e 6 32 (gCd_h6 hC) q1 (-1) _ hq2) d_Cards_clear_13 ca_JA_fill w_77 rfl rfl (Nat.le_of_ble_eq_true rfl) ⟨(Nat.le_of_ble_eq_true rfl), (Nat.le_of_ble_eq_true rfl)⟩ ?_
  refine g_aload_n d_Cards_clear_16 rfl 0 rfl ?_
  refine g_getR d_Cards_clear_17 fl_Cards_18 (gCd_h1 hC) rfl ?_
  refine g_iconst (v := -1) d_Cards_clear_20 (by decide) ?_
  obtain ⟨q3, hq3, h⟩ := gOb h
  refine g_callS_v (As := [.ref (ε.2.2.1 e 7), .int (-1)]) (rest := []) (ct_JA_fill e 7 32 (gCd_h7 hC) q2 (-1) _ hq3) d_Cards_clear_21 ca_JA_fill w_77 rfl rfl (Nat.le_of_ble_eq_true rfl) ⟨(Nat.le_of_ble_eq_true rfl), (Nat.le_of_ble_eq_true rfl)⟩ ?_
  refine g_aload_n d_Cards_clear_24 rfl 0 rfl ?_
  refine g_iconst (v := 0) d_Cards_clear_25 (by decide) ?_
  obtain ⟨M4, hM4, h⟩ := gOb h
  refine g_putO d_Cards_clear_26 fp_Cards_30 (gCd_h1 hC) rfl hM4 ?_
  obtain rfl := Option.some.inj h
  exact g_vret d_Cards_clear_29 rfl
theorem ct_Cards_clear {l : Launch} {ε : gEnv} (e : Nat) (hC : gCd ε e) (M : gMem) (r : gMem) (h : f_Cards_clear e M = some r) : gCt l ε k_Cards_clear 1 23 [.ref (ε.2.2.1 e 1)] M none r :=
  gCt_of (by decide) (Nat.le_of_ble_eq_true rfl) rfl (t_Cards_clear e hC M r h)
abbrev k_DS_copyRow : gMD := (⟨"DropSignals", "copyRow", "([I[I)V"⟩, prog_1_method_31_code, 2, none)
theorem w_34 : Cond.initialized "DropSignals" ∈ gWs := gWs_in (i := 34) (by decide +kernel) rfl
theorem w_339 : Cond.static ⟨"DropSignals", "copyRow", "([I[I)V"⟩ ∈ gWs := gWs_in (i := 339) (by decide +kernel) rfl
set_option maxRecDepth 100000 in
theorem ca_DS_copyRow : gCaS k_DS_copyRow 2 := ⟨⟨gWs_in (i := 340) rfl rfl, w_34, by decide, by decide, by decide +kernel⟩, w_339⟩
theorem d_DS_copyRow_0 : decode prog_1_method_31_code 0 = .ok (.aload_n 0, 1) := by decide +kernel
theorem d_DS_copyRow_1 : decode prog_1_method_31_code 1 = .ok (.iconst 0, 1) := by decide +kernel
theorem d_DS_copyRow_2 : decode prog_1_method_31_code 2 = .ok (.aload_n 1, 1) := by decide +kernel
theorem d_DS_copyRow_3 : decode prog_1_method_31_code 3 = .ok (.iconst 0, 1) := by decide +kernel
theorem d_DS_copyRow_4 : decode prog_1_method_31_code 4 = .ok (.aload_n 0, 1) := by decide +kernel
theorem d_DS_copyRow_5 : decode prog_1_method_31_code 5 = .ok (.arraylength, 1) := by decide +kernel
theorem d_DS_copyRow_6 : decode prog_1_method_31_code 6 = .ok (.aload_n 1, 1) := by decide +kernel
theorem d_DS_copyRow_7 : decode prog_1_method_31_code 7 = .ok (.arraylength, 1) := by decide +kernel
theorem d_DS_copyRow_8 : decode prog_1_method_31_code 8 = .ok (.invokestatic 289, 3) := by decide +kernel
theorem d_DS_copyRow_11 : decode prog_1_method_31_code 11 = .ok (.invokestatic 294, 3) := by decide +kernel
theorem d_DS_copyRow_14 : decode prog_1_method_31_code 14 = .ok (.return_, 1) := by decide +kernel
theorem w_341 : Cond.methodLink "DropSignals" 289 Lib.Math.min.name ∈ gWs := gWs_in (i := 341) (by decide +kernel) rfl
theorem w_342 : Cond.static Lib.Math.min.name ∈ gWs := gWs_in (i := 342) (by decide +kernel) rfl
theorem w_51 : Cond.initialized "java/lang/Math" ∈ gWs := gWs_in (i := 51) (by decide +kernel) rfl
theorem w_343 : Cond.code Lib.Math.min.name Lib.Math.min.code 2 (some .int) ∈ gWs := gWs_in (i := 343) (by decide +kernel) rfl
theorem w_344 : Cond.methodLink "DropSignals" 294 arraycopyName ∈ gWs := gWs_in (i := 344) (by decide +kernel) rfl
theorem w_346 : Cond.native arraycopyName ∈ gWs := gWs_in (i := 346) (by decide +kernel) rfl
theorem w_345 : Cond.static arraycopyName ∈ gWs := gWs_in (i := 345) (by decide +kernel) rfl
theorem w_52 : Cond.initialized "java/lang/System" ∈ gWs := gWs_in (i := 52) (by decide +kernel) rfl
noncomputable def f_DS_copyRow (g0 : Nat) (c0 : Nat) (n0 : Nat) (g1 : Nat) (c1 : Nat) (n1 : Nat) (M : gMem) : Option gMem :=
  (gCp M g0 c0 n0 g1 c1 n1 0 0 (if (Int32.ofNat n1) < (Int32.ofNat n0) then (Int32.ofNat n1) else (Int32.ofNat n0))).bind fun M1 =>
  some M1
theorem t_DS_copyRow {l : Launch} {ε : gEnv} (g0 : Nat) (c0 : Nat) (n0 : Nat) (g1 : Nat) (c1 : Nat) (n1 : Nat) (h0 : gHas ε g0 c0 (0, n0, [])) (h1 : gHas ε g1 c1 (0, n1, [])) (M : gMem) (r : gMem) (h : f_DS_copyRow g0 c0 n0 g1 c1 n1 M = some r) : gGo l ε k_DS_copyRow (gR 1 30) (gFn ε none r) 0 [(0, .ref (ε.2.2.1 g0 c0)), (1, .ref (ε.2.2.1 g1 c1))] [] M := by
  unfold f_DS_copyRow at h
  refine g_aload_n d_DS_copyRow_0 rfl 0 rfl ?_
  refine g_iconst (v := 0) d_DS_copyRow_1 (by decide) ?_
  refine g_aload_n d_DS_copyRow_2 rfl 1 rfl ?_
  refine g_iconst (v := 0) d_DS_copyRow_3 (by decide) ?_
  refine g_aload_n d_DS_copyRow_4 rfl 0 rfl ?_
  refine g_alen d_DS_copyRow_5 h0 ?_
  refine g_aload_n d_DS_copyRow_6 rfl 1 rfl ?_
  refine g_alen d_DS_copyRow_7 h1 ?_
  refine g_min d_DS_copyRow_8 w_341 w_342 w_51 w_343 (Nat.le_of_ble_eq_true rfl) (Nat.le_of_ble_eq_true rfl) ?_
  obtain ⟨M1, hM1, h⟩ := gOb h
  refine g_copy d_DS_copyRow_11 w_344 w_346 w_345 w_52 h0 h1 (Nat.le_of_ble_eq_true rfl) (Nat.le_of_ble_eq_true rfl) hM1 ?_
  obtain rfl := Option.some.inj h
  exact g_vret d_DS_copyRow_14 rfl
theorem ct_DS_copyRow {l : Launch} {ε : gEnv} (g0 : Nat) (c0 : Nat) (n0 : Nat) (g1 : Nat) (c1 : Nat) (n1 : Nat) (h0 : gHas ε g0 c0 (0, n0, [])) (h1 : gHas ε g1 c1 (0, n1, [])) (M : gMem) (r : gMem) (h : f_DS_copyRow g0 c0 n0 g1 c1 n1 M = some r) : gCt l ε k_DS_copyRow 1 30 [.ref (ε.2.2.1 g0 c0), .ref (ε.2.2.1 g1 c1)] M none r :=
  gCt_of (by decide) (Nat.le_of_ble_eq_true rfl) rfl (t_DS_copyRow g0 c0 n0 g1 c1 n1 h0 h1 M r h)
abbrev k_Cards_copyFrom : gMD := (⟨"DropSignals$Cards", "copyFrom", "(LDropSignals$Cards;)V"⟩, prog_2_method_3_code, 2, none)
theorem w_335 : Cond.instanceMethod ⟨"DropSignals$Cards", "copyFrom", "(LDropSignals$Cards;)V"⟩ ∈ gWs := gWs_in (i := 335) (by decide +kernel) rfl
theorem w_336 : Cond.selects "DropSignals$Cards" ⟨"DropSignals$Cards", "copyFrom", "(LDropSignals$Cards;)V"⟩ ⟨"DropSignals$Cards", "copyFrom", "(LDropSignals$Cards;)V"⟩ ∈ gWs := gWs_in (i := 336) (by decide +kernel) rfl
set_option maxRecDepth 100000 in
theorem ca_Cards_copyFrom : gCaV k_Cards_copyFrom 1 := ⟨⟨gWs_in (i := 337) rfl rfl, w_36, by decide, by decide, by decide +kernel⟩, w_335, w_336⟩
theorem d_Cards_copyFrom_0 : decode prog_2_method_3_code 0 = .ok (.aload_n 1, 1) := by decide +kernel
theorem d_Cards_copyFrom_1 : decode prog_2_method_3_code 1 = .ok (.getfield 9, 3) := by decide +kernel
theorem d_Cards_copyFrom_4 : decode prog_2_method_3_code 4 = .ok (.aload_n 0, 1) := by decide +kernel
theorem d_Cards_copyFrom_5 : decode prog_2_method_3_code 5 = .ok (.getfield 9, 3) := by decide +kernel
theorem d_Cards_copyFrom_8 : decode prog_2_method_3_code 8 = .ok (.invokestatic 34, 3) := by decide +kernel
theorem d_Cards_copyFrom_11 : decode prog_2_method_3_code 11 = .ok (.aload_n 1, 1) := by decide +kernel
theorem d_Cards_copyFrom_12 : decode prog_2_method_3_code 12 = .ok (.getfield 15, 3) := by decide +kernel
theorem d_Cards_copyFrom_15 : decode prog_2_method_3_code 15 = .ok (.aload_n 0, 1) := by decide +kernel
theorem d_Cards_copyFrom_16 : decode prog_2_method_3_code 16 = .ok (.getfield 15, 3) := by decide +kernel
theorem d_Cards_copyFrom_19 : decode prog_2_method_3_code 19 = .ok (.invokestatic 34, 3) := by decide +kernel
theorem d_Cards_copyFrom_22 : decode prog_2_method_3_code 22 = .ok (.aload_n 1, 1) := by decide +kernel
theorem d_Cards_copyFrom_23 : decode prog_2_method_3_code 23 = .ok (.getfield 18, 3) := by decide +kernel
theorem d_Cards_copyFrom_26 : decode prog_2_method_3_code 26 = .ok (.aload_n 0, 1) := by decide +kernel
theorem d_Cards_copyFrom_27 : decode prog_2_method_3_code 27 = .ok (.getfield 18, 3) := by decide +kernel
theorem d_Cards_copyFrom_30 : decode prog_2_method_3_code 30 = .ok (.invokestatic 34, 3) := by decide +kernel
theorem d_Cards_copyFrom_33 : decode prog_2_method_3_code 33 = .ok (.aload_n 0, 1) := by decide +kernel
theorem d_Cards_copyFrom_34 : decode prog_2_method_3_code 34 = .ok (.aload_n 1, 1) := by decide +kernel
theorem d_Cards_copyFrom_35 : decode prog_2_method_3_code 35 = .ok (.getfield 30, 3) := by decide +kernel
theorem d_Cards_copyFrom_38 : decode prog_2_method_3_code 38 = .ok (.putfield 30, 3) := by decide +kernel
theorem d_Cards_copyFrom_41 : decode prog_2_method_3_code 41 = .ok (.return_, 1) := by decide +kernel
noncomputable def f_Cards_copyFrom (e : Nat) (e0 : Nat) (M : gMem) : Option gMem :=
  (f_DS_copyRow e0 5 32 e 5 32 M).bind fun q1 =>
  (f_DS_copyRow e0 6 32 e 6 32 q1).bind fun q2 =>
  (f_DS_copyRow e0 7 32 e 7 32 q2).bind fun q3 =>
  (gSO q3 e 1 3 (q3 e0 1 3)).bind fun M4 =>
  some M4
theorem t_Cards_copyFrom {l : Launch} {ε : gEnv} (e : Nat) (e0 : Nat) (hC : gCd ε e) (hC0 : gCd ε e0) (M : gMem) (r : gMem) (h : f_Cards_copyFrom e e0 M = some r) : gGo l ε k_Cards_copyFrom (gR 2 51) (gFn ε none r) 0 [(0, .ref (ε.2.2.1 e 1)), (1, .ref (ε.2.2.1 e0 1))] [] M := by
  unfold f_Cards_copyFrom at h
  refine g_aload_n d_Cards_copyFrom_0 rfl 1 rfl ?_
  refine g_getR d_Cards_copyFrom_1 fl_Cards_9 (gCd_h1 hC0) rfl ?_
  refine g_aload_n d_Cards_copyFrom_4 rfl 0 rfl ?_
  refine g_getR d_Cards_copyFrom_5 fl_Cards_9 (gCd_h1 hC) rfl ?_
  obtain ⟨q1, hq1, h⟩ := gOb h
  refine g_callN_v (As := [.ref (ε.2.2.1 e0 5), .ref (ε.2.2.1 e 5)]) (rest := []) (j := 338) (host := "DropSignals") (ct_DS_copyRow e0 5 32 e 5 32 (gCd_h5 hC0) (gCd_h5 hC) M _ hq1) d_Cards_copyFrom_8 ca_DS_copyRow (by decide +kernel) rfl rfl (Nat.le_of_ble_eq_true rfl) ⟨(Nat.le_of_ble_eq_true rfl), (Nat.le_of_ble_eq_true rfl)⟩ ?_
  refine g_aload_n d_Cards_copyFrom_11 rfl 1 rfl ?_
  refine g_getR d_Cards_copyFrom_12 fl_Cards_15 (gCd_h1 hC0) rfl ?_
  refine g_aload_n d_Cards_copyFrom_15 rfl 0 rfl ?_
  refine g_getR d_Cards_copyFrom_16 fl_Cards_15 (gCd_h1 hC) rfl ?_
  obtain ⟨q2, hq2, h⟩ := gOb h
  refine g_callN_v (As := [.ref (ε.2.2.1 e0 6), .ref (ε.2.2.1 e 6)]) (rest := []) (j := 338) (host := "DropSignals") (ct_DS_copyRow e0 6 32 e 6 32 (gCd_h6 hC0) (gCd_h6 hC) q1 _ hq2) d_Cards_copyFrom_19 ca_DS_copyRow (by decide +kernel) rfl rfl (Nat.le_of_ble_eq_true rfl) ⟨(Nat.le_of_ble_eq_true rfl), (Nat.le_of_ble_eq_true rfl)⟩ ?_
  refine g_aload_n d_Cards_copyFrom_22 rfl 1 rfl ?_
  refine g_getR d_Cards_copyFrom_23 fl_Cards_18 (gCd_h1 hC0) rfl ?_
  refine g_aload_n d_Cards_copyFrom_26 rfl 0 rfl ?_
  refine g_getR d_Cards_copyFrom_27 fl_Cards_18 (gCd_h1 hC) rfl ?_
  obtain ⟨q3, hq3, h⟩ := gOb h
  refine g_callN_v (As := [.ref (ε.2.2.1 e0 7), .ref (ε.2.2.1 e 7)]) (rest := []) (j := 338) (host := "DropSignals") (ct_DS_copyRow e0 7 32 e 7 32 (gCd_h7 hC0) (gCd_h7 hC) q2 _ hq3) d_Cards_copyFrom_30 ca_DS_copyRow (by decide +kernel) rfl rfl (Nat.le_of_ble_eq_true rfl) ⟨(Nat.le_of_ble_eq_true rfl), (Nat.le_of_ble_eq_true rfl)⟩ ?_
  refine g_aload_n d_Cards_copyFrom_33 rfl 0 rfl ?_
  refine g_aload_n d_Cards_copyFrom_34 rfl 1 rfl ?_
  refine g_getI d_Cards_copyFrom_35 fl_Cards_30 (gCd_h1 hC0) rfl ?_
  obtain ⟨M4, hM4, h⟩ := gOb h
  refine g_putO d_Cards_copyFrom_38 fp_Cards_30 (gCd_h1 hC) rfl hM4 ?_
  obtain rfl := Option.some.inj h
  exact g_vret d_Cards_copyFrom_41 rfl
theorem ct_Cards_copyFrom {l : Launch} {ε : gEnv} (e : Nat) (e0 : Nat) (hC : gCd ε e) (hC0 : gCd ε e0) (M : gMem) (r : gMem) (h : f_Cards_copyFrom e e0 M = some r) : gCt l ε k_Cards_copyFrom 2 51 [.ref (ε.2.2.1 e 1), .ref (ε.2.2.1 e0 1)] M none r :=
  gCt_of (by decide) (Nat.le_of_ble_eq_true rfl) rfl (t_Cards_copyFrom e e0 hC hC0 M r h)
abbrev k_DS_put : gMD := (⟨"DropSignals", "put", "([III)V"⟩, prog_1_method_29_code, 3, none)
theorem w_363 : Cond.static ⟨"DropSignals", "put", "([III)V"⟩ ∈ gWs := gWs_in (i := 363) (by decide +kernel) rfl
set_option maxRecDepth 100000 in
theorem ca_DS_put : gCaS k_DS_put 3 := ⟨⟨gWs_in (i := 364) rfl rfl, w_34, by decide, by decide, by decide +kernel⟩, w_363⟩
theorem d_DS_put_0 : decode prog_1_method_29_code 0 = .ok (.iload_n 1, 1) := by decide +kernel
theorem d_DS_put_1 : decode prog_1_method_29_code 1 = .ok (.ifCond .lt 13, 3) := by decide +kernel
theorem d_DS_put_4 : decode prog_1_method_29_code 4 = .ok (.iload_n 1, 1) := by decide +kernel
theorem d_DS_put_5 : decode prog_1_method_29_code 5 = .ok (.aload_n 0, 1) := by decide +kernel
theorem d_DS_put_6 : decode prog_1_method_29_code 6 = .ok (.arraylength, 1) := by decide +kernel
theorem d_DS_put_7 : decode prog_1_method_29_code 7 = .ok (.if_icmp .ge 7, 3) := by decide +kernel
theorem d_DS_put_10 : decode prog_1_method_29_code 10 = .ok (.aload_n 0, 1) := by decide +kernel
theorem d_DS_put_11 : decode prog_1_method_29_code 11 = .ok (.iload_n 1, 1) := by decide +kernel
theorem d_DS_put_12 : decode prog_1_method_29_code 12 = .ok (.iload_n 2, 1) := by decide +kernel
theorem d_DS_put_13 : decode prog_1_method_29_code 13 = .ok (.iastore, 1) := by decide +kernel
theorem d_DS_put_14 : decode prog_1_method_29_code 14 = .ok (.return_, 1) := by decide +kernel
noncomputable def f_DS_put (g0 : Nat) (c0 : Nat) (n0 : Nat) (M : gMem) (a1 : Int32) (a2 : Int32) : Option gMem :=
  if a1 < 0 then
    some M
  else
    if (Int32.ofNat n0) ≤ a1 then
      some M
    else
      (gWr M g0 c0 n0 a1 a2).bind fun M1 =>
      some M1
theorem t_DS_put {l : Launch} {ε : gEnv} (g0 : Nat) (c0 : Nat) (n0 : Nat) (h0 : gHas ε g0 c0 (0, n0, [])) (M : gMem) (a1 : Int32) (a2 : Int32) (r : gMem) (h : f_DS_put g0 c0 n0 M a1 a2 = some r) : gGo l ε k_DS_put (gR 0 0) (gFn ε none r) 0 [(0, .ref (ε.2.2.1 g0 c0)), (1, .int a1), (2, .int a2)] [] M := by
  unfold f_DS_put at h
  refine g_iload_n d_DS_put_0 rfl 1 rfl ?_
  refine g_if_lt (tgt := 14) d_DS_put_1 (by decide) (fun c3 => ?_) (fun c3 => ?_)
  · rw [if_pos c3] at h
    obtain rfl := Option.some.inj h
    exact g_vret d_DS_put_14 rfl
  · rw [if_neg c3] at h
    refine g_iload_n d_DS_put_4 rfl 1 rfl ?_
    refine g_aload_n d_DS_put_5 rfl 0 rfl ?_
    refine g_alen d_DS_put_6 h0 ?_
    refine g_icmp_ge (tgt := 14) d_DS_put_7 (by decide) (fun c2 => ?_) (fun c2 => ?_)
    · rw [if_pos c2] at h
      obtain rfl := Option.some.inj h
      exact g_vret d_DS_put_14 rfl
    · rw [if_neg c2] at h
      refine g_aload_n d_DS_put_10 rfl 0 rfl ?_
      refine g_iload_n d_DS_put_11 rfl 1 rfl ?_
      refine g_iload_n d_DS_put_12 rfl 2 rfl ?_
      obtain ⟨M1, hM1, h⟩ := gOb h
      refine g_iastore d_DS_put_13 h0 hM1 ?_
      obtain rfl := Option.some.inj h
      exact g_vret d_DS_put_14 rfl
theorem ct_DS_put {l : Launch} {ε : gEnv} (g0 : Nat) (c0 : Nat) (n0 : Nat) (h0 : gHas ε g0 c0 (0, n0, [])) (M : gMem) (a1 : Int32) (a2 : Int32) (r : gMem) (h : f_DS_put g0 c0 n0 M a1 a2 = some r) : gCt l ε k_DS_put 0 0 [.ref (ε.2.2.1 g0 c0), .int a1, .int a2] M none r :=
  gCt_of (by decide) (Nat.le_of_ble_eq_true rfl) rfl (t_DS_put g0 c0 n0 h0 M a1 a2 r h)
abbrev k_DS_following : gMD := (⟨"DropSignals", "following", "(J)J"⟩, prog_1_method_32_code, 2, (some .long))
theorem w_366 : Cond.static ⟨"DropSignals", "following", "(J)J"⟩ ∈ gWs := gWs_in (i := 366) (by decide +kernel) rfl
set_option maxRecDepth 100000 in
theorem ca_DS_following : gCaS k_DS_following 1 := ⟨⟨gWs_in (i := 367) rfl rfl, w_34, by decide, by decide, by decide +kernel⟩, w_366⟩
theorem d_DS_following_0 : decode prog_1_method_32_code 0 = .ok (.lload_n 0, 1) := by decide +kernel
theorem d_DS_following_1 : decode prog_1_method_32_code 1 = .ok (.ldc2_w 300, 3) := by decide +kernel
theorem d_DS_following_4 : decode prog_1_method_32_code 4 = .ok (.lmul, 1) := by decide +kernel
theorem d_DS_following_5 : decode prog_1_method_32_code 5 = .ok (.ldc2_w 302, 3) := by decide +kernel
theorem d_DS_following_8 : decode prog_1_method_32_code 8 = .ok (.ladd, 1) := by decide +kernel
theorem d_DS_following_9 : decode prog_1_method_32_code 9 = .ok (.lreturn, 1) := by decide +kernel
theorem w_368 : Cond.constantLong "DropSignals" 300 (6364136223846793005) ∈ gWs := gWs_in (i := 368) (by decide +kernel) rfl
theorem w_369 : Cond.constantLong "DropSignals" 302 (1442695040888963407) ∈ gWs := gWs_in (i := 369) (by decide +kernel) rfl
noncomputable def f_DS_following (a0 : Int64) : Option Int64 :=
  some ((a0 * (6364136223846793005)) + (1442695040888963407))
theorem t_DS_following {l : Launch} {ε : gEnv} (M : gMem) (a0 : Int64) (r : Int64) (h : f_DS_following a0 = some r) : gGo l ε k_DS_following (gR 0 0) (gFn ε (some (.long r)) M) 0 [(0, .long a0)] [] M := by
  unfold f_DS_following at h
  refine g_lload_n d_DS_following_0 rfl 0 rfl ?_
  refine g_ldc2 d_DS_following_1 w_368 ?_
  refine g_lmul d_DS_following_4 ?_
  refine g_ldc2 d_DS_following_5 w_369 ?_
  refine g_ladd d_DS_following_8 ?_
  obtain rfl := Option.some.inj h
  exact g_lret d_DS_following_9 rfl
theorem ct_DS_following {l : Launch} {ε : gEnv} (M : gMem) (a0 : Int64) (r : Int64) (h : f_DS_following a0 = some r) : gCt l ε k_DS_following 0 0 [.long a0] M (some (.long r)) M :=
  gCt_of (by decide) (Nat.le_of_ble_eq_true rfl) rfl (t_DS_following M a0 r h)
abbrev k_DS_upperBits : gMD := (⟨"DropSignals", "upperBits", "(J)I"⟩, prog_1_method_33_code, 2, (some .int))
theorem w_371 : Cond.static ⟨"DropSignals", "upperBits", "(J)I"⟩ ∈ gWs := gWs_in (i := 371) (by decide +kernel) rfl
set_option maxRecDepth 100000 in
theorem ca_DS_upperBits : gCaS k_DS_upperBits 1 := ⟨⟨gWs_in (i := 372) rfl rfl, w_34, by decide, by decide, by decide +kernel⟩, w_371⟩
theorem d_DS_upperBits_0 : decode prog_1_method_33_code 0 = .ok (.lload_n 0, 1) := by decide +kernel
theorem d_DS_upperBits_1 : decode prog_1_method_33_code 1 = .ok (.bipush 33, 2) := by decide +kernel
theorem d_DS_upperBits_3 : decode prog_1_method_33_code 3 = .ok (.lushr, 1) := by decide +kernel
theorem d_DS_upperBits_4 : decode prog_1_method_33_code 4 = .ok (.l2i, 1) := by decide +kernel
theorem d_DS_upperBits_5 : decode prog_1_method_33_code 5 = .ok (.ireturn, 1) := by decide +kernel
noncomputable def f_DS_upperBits (a0 : Int64) : Option Int32 :=
  some (Int64.toInt32 (gUsh a0 33))
theorem t_DS_upperBits {l : Launch} {ε : gEnv} (M : gMem) (a0 : Int64) (r : Int32) (h : f_DS_upperBits a0 = some r) : gGo l ε k_DS_upperBits (gR 0 0) (gFn ε (some (.int r)) M) 0 [(0, .long a0)] [] M := by
  unfold f_DS_upperBits at h
  refine g_lload_n d_DS_upperBits_0 rfl 0 rfl ?_
  refine g_bipush (v := 33) d_DS_upperBits_1 (by decide) ?_
  refine g_ush d_DS_upperBits_3 ?_
  refine g_l2i d_DS_upperBits_4 ?_
  obtain rfl := Option.some.inj h
  exact g_iret d_DS_upperBits_5 rfl
theorem ct_DS_upperBits {l : Launch} {ε : gEnv} (M : gMem) (a0 : Int64) (r : Int32) (h : f_DS_upperBits a0 = some r) : gCt l ε k_DS_upperBits 0 0 [.long a0] M (some (.int r)) M :=
  gCt_of (by decide) (Nat.le_of_ble_eq_true rfl) rfl (t_DS_upperBits M a0 r h)
abbrev k_DS_at : gMD := (⟨"DropSignals", "at", "([II)I"⟩, prog_1_method_28_code, 2, (some .int))
theorem w_305 : Cond.static ⟨"DropSignals", "at", "([II)I"⟩ ∈ gWs := gWs_in (i := 305) (by decide +kernel) rfl
set_option maxRecDepth 100000 in
theorem ca_DS_at : gCaS k_DS_at 2 := ⟨⟨gWs_in (i := 306) rfl rfl, w_34, by decide, by decide, by decide +kernel⟩, w_305⟩
theorem d_DS_at_0 : decode prog_1_method_28_code 0 = .ok (.iload_n 1, 1) := by decide +kernel
theorem d_DS_at_1 : decode prog_1_method_28_code 1 = .ok (.ifCond .lt 15, 3) := by decide +kernel
theorem d_DS_at_4 : decode prog_1_method_28_code 4 = .ok (.iload_n 1, 1) := by decide +kernel
theorem d_DS_at_5 : decode prog_1_method_28_code 5 = .ok (.aload_n 0, 1) := by decide +kernel
theorem d_DS_at_6 : decode prog_1_method_28_code 6 = .ok (.arraylength, 1) := by decide +kernel
theorem d_DS_at_7 : decode prog_1_method_28_code 7 = .ok (.if_icmp .ge 9, 3) := by decide +kernel
theorem d_DS_at_10 : decode prog_1_method_28_code 10 = .ok (.aload_n 0, 1) := by decide +kernel
theorem d_DS_at_11 : decode prog_1_method_28_code 11 = .ok (.iload_n 1, 1) := by decide +kernel
theorem d_DS_at_12 : decode prog_1_method_28_code 12 = .ok (.iaload, 1) := by decide +kernel
theorem d_DS_at_13 : decode prog_1_method_28_code 13 = .ok (.goto 4, 3) := by decide +kernel
theorem d_DS_at_16 : decode prog_1_method_28_code 16 = .ok (.iconst (-1), 1) := by decide +kernel
theorem d_DS_at_17 : decode prog_1_method_28_code 17 = .ok (.ireturn, 1) := by decide +kernel
noncomputable def f_DS_at (g0 : Nat) (c0 : Nat) (n0 : Nat) (M : gMem) (a1 : Int32) : Option Int32 :=
  if a1 < 0 then
    some (-1)
  else
    if (Int32.ofNat n0) ≤ a1 then
      some (-1)
    else
      (gRd n0 (M g0 c0) a1).bind fun v1 =>
      some v1
theorem t_DS_at {l : Launch} {ε : gEnv} (g0 : Nat) (c0 : Nat) (n0 : Nat) (h0 : gHas ε g0 c0 (0, n0, [])) (M : gMem) (a1 : Int32) (r : Int32) (h : f_DS_at g0 c0 n0 M a1 = some r) : gGo l ε k_DS_at (gR 0 0) (gFn ε (some (.int r)) M) 0 [(0, .ref (ε.2.2.1 g0 c0)), (1, .int a1)] [] M := by
  unfold f_DS_at at h
  refine g_iload_n d_DS_at_0 rfl 1 rfl ?_
  refine g_if_lt (tgt := 16) d_DS_at_1 (by decide) (fun c3 => ?_) (fun c3 => ?_)
  · rw [if_pos c3] at h
    refine g_iconst (v := -1) d_DS_at_16 (by decide) ?_
    obtain rfl := Option.some.inj h
    exact g_iret d_DS_at_17 rfl
  · rw [if_neg c3] at h
    refine g_iload_n d_DS_at_4 rfl 1 rfl ?_
    refine g_aload_n d_DS_at_5 rfl 0 rfl ?_
    refine g_alen d_DS_at_6 h0 ?_
    refine g_icmp_ge (tgt := 16) d_DS_at_7 (by decide) (fun c2 => ?_) (fun c2 => ?_)
    · rw [if_pos c2] at h
      refine g_iconst (v := -1) d_DS_at_16 (by decide) ?_
      obtain rfl := Option.some.inj h
      exact g_iret d_DS_at_17 rfl
    · rw [if_neg c2] at h
      refine g_aload_n d_DS_at_10 rfl 0 rfl ?_
      refine g_iload_n d_DS_at_11 rfl 1 rfl ?_
      obtain ⟨v1, hv1, h⟩ := gOb h
      refine g_iaload d_DS_at_12 h0 hv1 ?_
      refine g_goto (tgt := 17) d_DS_at_13 (by decide) ?_
      obtain rfl := Option.some.inj h
      exact g_iret d_DS_at_17 rfl
theorem ct_DS_at {l : Launch} {ε : gEnv} (g0 : Nat) (c0 : Nat) (n0 : Nat) (h0 : gHas ε g0 c0 (0, n0, [])) (M : gMem) (a1 : Int32) (r : Int32) (h : f_DS_at g0 c0 n0 M a1 = some r) : gCt l ε k_DS_at 0 0 [.ref (ε.2.2.1 g0 c0), .int a1] M (some (.int r)) M :=
  gCt_of (by decide) (Nat.le_of_ble_eq_true rfl) rfl (t_DS_at g0 c0 n0 h0 M a1 r h)
abbrev k_Cards_shuffle : gMD := (⟨"DropSignals$Cards", "shuffle", "(J)V"⟩, prog_2_method_4_code, 8, none)
theorem w_359 : Cond.instanceMethod ⟨"DropSignals$Cards", "shuffle", "(J)V"⟩ ∈ gWs := gWs_in (i := 359) (by decide +kernel) rfl
theorem w_360 : Cond.selects "DropSignals$Cards" ⟨"DropSignals$Cards", "shuffle", "(J)V"⟩ ⟨"DropSignals$Cards", "shuffle", "(J)V"⟩ ∈ gWs := gWs_in (i := 360) (by decide +kernel) rfl
set_option maxRecDepth 100000 in
theorem ca_Cards_shuffle : gCaV k_Cards_shuffle 1 := ⟨⟨gWs_in (i := 361) rfl rfl, w_36, by decide, by decide, by decide +kernel⟩, w_359, w_360⟩
theorem d_Cards_shuffle_0 : decode prog_2_method_4_code 0 = .ok (.iconst 0, 1) := by decide +kernel
theorem d_Cards_shuffle_1 : decode prog_2_method_4_code 1 = .ok (.istore_n 3, 1) := by decide +kernel
theorem d_Cards_shuffle_2 : decode prog_2_method_4_code 2 = .ok (.iload_n 3, 1) := by decide +kernel
theorem d_Cards_shuffle_3 : decode prog_2_method_4_code 3 = .ok (.bipush 32, 2) := by decide +kernel
theorem d_Cards_shuffle_5 : decode prog_2_method_4_code 5 = .ok (.if_icmp .ge 18, 3) := by decide +kernel
theorem d_Cards_shuffle_8 : decode prog_2_method_4_code 8 = .ok (.aload_n 0, 1) := by decide +kernel
theorem d_Cards_shuffle_9 : decode prog_2_method_4_code 9 = .ok (.getfield 18, 3) := by decide +kernel
theorem d_Cards_shuffle_12 : decode prog_2_method_4_code 12 = .ok (.iload_n 3, 1) := by decide +kernel
theorem d_Cards_shuffle_13 : decode prog_2_method_4_code 13 = .ok (.iload_n 3, 1) := by decide +kernel
theorem d_Cards_shuffle_14 : decode prog_2_method_4_code 14 = .ok (.invokestatic 38, 3) := by decide +kernel
theorem d_Cards_shuffle_17 : decode prog_2_method_4_code 17 = .ok (.iinc 3 1, 3) := by decide +kernel
theorem d_Cards_shuffle_20 : decode prog_2_method_4_code 20 = .ok (.goto (-18), 3) := by decide +kernel
theorem d_Cards_shuffle_23 : decode prog_2_method_4_code 23 = .ok (.lload_n 1, 1) := by decide +kernel
theorem d_Cards_shuffle_24 : decode prog_2_method_4_code 24 = .ok (.lstore_n 3, 1) := by decide +kernel
theorem d_Cards_shuffle_25 : decode prog_2_method_4_code 25 = .ok (.bipush 31, 2) := by decide +kernel
theorem d_Cards_shuffle_27 : decode prog_2_method_4_code 27 = .ok (.istore 5, 2) := by decide +kernel
theorem d_Cards_shuffle_29 : decode prog_2_method_4_code 29 = .ok (.iload 5, 2) := by decide +kernel
theorem d_Cards_shuffle_31 : decode prog_2_method_4_code 31 = .ok (.ifCond .le 65, 3) := by decide +kernel
theorem d_Cards_shuffle_34 : decode prog_2_method_4_code 34 = .ok (.lload_n 3, 1) := by decide +kernel
theorem d_Cards_shuffle_35 : decode prog_2_method_4_code 35 = .ok (.invokestatic 42, 3) := by decide +kernel
theorem d_Cards_shuffle_38 : decode prog_2_method_4_code 38 = .ok (.lstore_n 3, 1) := by decide +kernel
theorem d_Cards_shuffle_39 : decode prog_2_method_4_code 39 = .ok (.lload_n 3, 1) := by decide +kernel
theorem d_Cards_shuffle_40 : decode prog_2_method_4_code 40 = .ok (.invokestatic 46, 3) := by decide +kernel
theorem d_Cards_shuffle_43 : decode prog_2_method_4_code 43 = .ok (.iload 5, 2) := by decide +kernel
theorem d_Cards_shuffle_45 : decode prog_2_method_4_code 45 = .ok (.iconst 1, 1) := by decide +kernel
theorem d_Cards_shuffle_46 : decode prog_2_method_4_code 46 = .ok (.iadd, 1) := by decide +kernel
theorem d_Cards_shuffle_47 : decode prog_2_method_4_code 47 = .ok (.irem, 1) := by decide +kernel
theorem d_Cards_shuffle_48 : decode prog_2_method_4_code 48 = .ok (.istore 6, 2) := by decide +kernel
theorem d_Cards_shuffle_50 : decode prog_2_method_4_code 50 = .ok (.aload_n 0, 1) := by decide +kernel
theorem d_Cards_shuffle_51 : decode prog_2_method_4_code 51 = .ok (.getfield 18, 3) := by decide +kernel
theorem d_Cards_shuffle_54 : decode prog_2_method_4_code 54 = .ok (.iload 5, 2) := by decide +kernel
theorem d_Cards_shuffle_56 : decode prog_2_method_4_code 56 = .ok (.invokestatic 50, 3) := by decide +kernel
theorem d_Cards_shuffle_59 : decode prog_2_method_4_code 59 = .ok (.istore 7, 2) := by decide +kernel
theorem d_Cards_shuffle_61 : decode prog_2_method_4_code 61 = .ok (.aload_n 0, 1) := by decide +kernel
theorem d_Cards_shuffle_62 : decode prog_2_method_4_code 62 = .ok (.getfield 18, 3) := by decide +kernel
theorem d_Cards_shuffle_65 : decode prog_2_method_4_code 65 = .ok (.iload 5, 2) := by decide +kernel
theorem d_Cards_shuffle_67 : decode prog_2_method_4_code 67 = .ok (.aload_n 0, 1) := by decide +kernel
theorem d_Cards_shuffle_68 : decode prog_2_method_4_code 68 = .ok (.getfield 18, 3) := by decide +kernel
theorem d_Cards_shuffle_71 : decode prog_2_method_4_code 71 = .ok (.iload 6, 2) := by decide +kernel
theorem d_Cards_shuffle_73 : decode prog_2_method_4_code 73 = .ok (.invokestatic 50, 3) := by decide +kernel
theorem d_Cards_shuffle_76 : decode prog_2_method_4_code 76 = .ok (.invokestatic 38, 3) := by decide +kernel
theorem d_Cards_shuffle_79 : decode prog_2_method_4_code 79 = .ok (.aload_n 0, 1) := by decide +kernel
theorem d_Cards_shuffle_80 : decode prog_2_method_4_code 80 = .ok (.getfield 18, 3) := by decide +kernel
theorem d_Cards_shuffle_83 : decode prog_2_method_4_code 83 = .ok (.iload 6, 2) := by decide +kernel
theorem d_Cards_shuffle_85 : decode prog_2_method_4_code 85 = .ok (.iload 7, 2) := by decide +kernel
theorem d_Cards_shuffle_87 : decode prog_2_method_4_code 87 = .ok (.invokestatic 38, 3) := by decide +kernel
theorem d_Cards_shuffle_90 : decode prog_2_method_4_code 90 = .ok (.iinc 5 (-1), 3) := by decide +kernel
theorem d_Cards_shuffle_93 : decode prog_2_method_4_code 93 = .ok (.goto (-64), 3) := by decide +kernel
theorem d_Cards_shuffle_96 : decode prog_2_method_4_code 96 = .ok (.iconst 0, 1) := by decide +kernel
theorem d_Cards_shuffle_97 : decode prog_2_method_4_code 97 = .ok (.istore 5, 2) := by decide +kernel
theorem d_Cards_shuffle_99 : decode prog_2_method_4_code 99 = .ok (.iload 5, 2) := by decide +kernel
theorem d_Cards_shuffle_101 : decode prog_2_method_4_code 101 = .ok (.bipush 32, 2) := by decide +kernel
theorem d_Cards_shuffle_103 : decode prog_2_method_4_code 103 = .ok (.if_icmp .ge 29, 3) := by decide +kernel
theorem d_Cards_shuffle_106 : decode prog_2_method_4_code 106 = .ok (.aload_n 0, 1) := by decide +kernel
theorem d_Cards_shuffle_107 : decode prog_2_method_4_code 107 = .ok (.getfield 9, 3) := by decide +kernel
theorem d_Cards_shuffle_110 : decode prog_2_method_4_code 110 = .ok (.aload_n 0, 1) := by decide +kernel
theorem d_Cards_shuffle_111 : decode prog_2_method_4_code 111 = .ok (.getfield 18, 3) := by decide +kernel
theorem d_Cards_shuffle_114 : decode prog_2_method_4_code 114 = .ok (.iload 5, 2) := by decide +kernel
theorem d_Cards_shuffle_116 : decode prog_2_method_4_code 116 = .ok (.invokestatic 50, 3) := by decide +kernel
theorem d_Cards_shuffle_119 : decode prog_2_method_4_code 119 = .ok (.iload 5, 2) := by decide +kernel
theorem d_Cards_shuffle_121 : decode prog_2_method_4_code 121 = .ok (.iconst 4, 1) := by decide +kernel
theorem d_Cards_shuffle_122 : decode prog_2_method_4_code 122 = .ok (.irem, 1) := by decide +kernel
theorem d_Cards_shuffle_123 : decode prog_2_method_4_code 123 = .ok (.invokestatic 38, 3) := by decide +kernel
theorem d_Cards_shuffle_126 : decode prog_2_method_4_code 126 = .ok (.iinc 5 1, 3) := by decide +kernel
theorem d_Cards_shuffle_129 : decode prog_2_method_4_code 129 = .ok (.goto (-30), 3) := by decide +kernel
theorem d_Cards_shuffle_132 : decode prog_2_method_4_code 132 = .ok (.aload_n 0, 1) := by decide +kernel
theorem d_Cards_shuffle_133 : decode prog_2_method_4_code 133 = .ok (.getfield 15, 3) := by decide +kernel
theorem d_Cards_shuffle_136 : decode prog_2_method_4_code 136 = .ok (.iconst (-1), 1) := by decide +kernel
theorem d_Cards_shuffle_137 : decode prog_2_method_4_code 137 = .ok (.invokestatic 24, 3) := by decide +kernel
theorem d_Cards_shuffle_140 : decode prog_2_method_4_code 140 = .ok (.aload_n 0, 1) := by decide +kernel
theorem d_Cards_shuffle_141 : decode prog_2_method_4_code 141 = .ok (.getfield 18, 3) := by decide +kernel
theorem d_Cards_shuffle_144 : decode prog_2_method_4_code 144 = .ok (.iconst (-1), 1) := by decide +kernel
theorem d_Cards_shuffle_145 : decode prog_2_method_4_code 145 = .ok (.invokestatic 24, 3) := by decide +kernel
theorem d_Cards_shuffle_148 : decode prog_2_method_4_code 148 = .ok (.aload_n 0, 1) := by decide +kernel
theorem d_Cards_shuffle_149 : decode prog_2_method_4_code 149 = .ok (.iconst 0, 1) := by decide +kernel
theorem d_Cards_shuffle_150 : decode prog_2_method_4_code 150 = .ok (.putfield 30, 3) := by decide +kernel
theorem d_Cards_shuffle_153 : decode prog_2_method_4_code 153 = .ok (.return_, 1) := by decide +kernel
noncomputable def f_Cards_shuffle_s99 (e : Nat) (M : gMem) (x5 : Int32) : Option ((Int32 × gMem) ⊕ gMem) :=
  if 32 ≤ x5 then
    (f_JA_fill e 6 32 M (-1)).bind fun q1 =>
    (f_JA_fill e 7 32 q1 (-1)).bind fun q2 =>
    (gSO q2 e 1 3 0).bind fun M3 =>
    some (.inr M3)
  else
    (f_DS_at e 7 32 M x5).bind fun q4 =>
    (f_DS_put e 5 32 M q4 (gRem x5 4)).bind fun q5 =>
    some (.inl ((x5 + 1), q5))
theorem t_Cards_shuffle_s99 {l : Launch} {ε : gEnv} (e : Nat) (hC : gCd ε e) (M : gMem) (x5 : Int32) (res : ((Int32 × gMem) ⊕ gMem)) (h : f_Cards_shuffle_s99 e M x5 = some res) (r : gMem) (k1 : ∀ s0 : (Int32 × gMem), res = .inl s0 → gGo l ε k_Cards_shuffle (gR 1 23) (gFn ε none r) 99 [(0, .ref (ε.2.2.1 e 1)), (5, .int s0.1)] [] s0.2) (k2 : ∀ r', res = .inr r' → r' = r) : gGo l ε k_Cards_shuffle (gR 1 23) (gFn ε none r) 99 [(0, .ref (ε.2.2.1 e 1)), (5, .int x5)] [] M := by
  unfold f_Cards_shuffle_s99 at h
  refine g_iload d_Cards_shuffle_99 1 rfl ?_
  refine g_bipush (v := 32) d_Cards_shuffle_101 (by decide) ?_
  refine g_icmp_ge (tgt := 132) d_Cards_shuffle_103 (by decide) (fun c6 => ?_) (fun c6 => ?_)
  · rw [if_pos c6] at h
    refine g_aload_n d_Cards_shuffle_132 rfl 0 rfl ?_
    refine g_getR d_Cards_shuffle_133 fl_Cards_15 (gCd_h1 hC) rfl ?_
    refine g_iconst (v := -1) d_Cards_shuffle_136 (by decide) ?_
    obtain ⟨q1, hq1, h⟩ := gOb h
    refine g_callS_v (As := [.ref (ε.2.2.1 e 6), .int (-1)]) (rest := []) (ct_JA_fill e 6 32 (gCd_h6 hC) M (-1) _ hq1) d_Cards_shuffle_137 ca_JA_fill w_77 rfl rfl (Nat.le_of_ble_eq_true rfl) ⟨(Nat.le_of_ble_eq_true rfl), (Nat.le_of_ble_eq_true rfl)⟩ ?_
    refine g_aload_n d_Cards_shuffle_140 rfl 0 rfl ?_
    refine g_getR d_Cards_shuffle_141 fl_Cards_18 (gCd_h1 hC) rfl ?_
    refine g_iconst (v := -1) d_Cards_shuffle_144 (by decide) ?_
    obtain ⟨q2, hq2, h⟩ := gOb h
    refine g_callS_v (As := [.ref (ε.2.2.1 e 7), .int (-1)]) (rest := []) (ct_JA_fill e 7 32 (gCd_h7 hC) q1 (-1) _ hq2) d_Cards_shuffle_145 ca_JA_fill w_77 rfl rfl (Nat.le_of_ble_eq_true rfl) ⟨(Nat.le_of_ble_eq_true rfl), (Nat.le_of_ble_eq_true rfl)⟩ ?_
    refine g_aload_n d_Cards_shuffle_148 rfl 0 rfl ?_
    refine g_iconst (v := 0) d_Cards_shuffle_149 (by decide) ?_
    obtain ⟨M3, hM3, h⟩ := gOb h
    refine g_putO d_Cards_shuffle_150 fp_Cards_30 (gCd_h1 hC) rfl hM3 ?_
    obtain rfl := Option.some.inj h
    have e9 := k2 _ rfl
    subst e9
    exact g_vret d_Cards_shuffle_153 rfl
  · rw [if_neg c6] at h
    refine g_aload_n d_Cards_shuffle_106 rfl 0 rfl ?_
    refine g_getR d_Cards_shuffle_107 fl_Cards_9 (gCd_h1 hC) rfl ?_
    refine g_aload_n d_Cards_shuffle_110 rfl 0 rfl ?_
    refine g_getR d_Cards_shuffle_111 fl_Cards_18 (gCd_h1 hC) rfl ?_
    refine g_iload d_Cards_shuffle_114 1 rfl ?_
    obtain ⟨q4, hq4, h⟩ := gOb h
    refine g_callN_i (As := [.ref (ε.2.2.1 e 7), .int x5]) (rest := [.ref (ε.2.2.1 e 5)]) (j := 373) (host := "DropSignals") (ct_DS_at e 7 32 (gCd_h7 hC) M x5 _ hq4) d_Cards_shuffle_116 ca_DS_at (by decide +kernel) rfl rfl (Nat.le_of_ble_eq_true rfl) ⟨(Nat.le_of_ble_eq_true rfl), (Nat.le_of_ble_eq_true rfl)⟩ ?_
    refine g_iload d_Cards_shuffle_119 1 rfl ?_
    refine g_iconst (v := 4) d_Cards_shuffle_121 (by decide) ?_
    refine g_rem d_Cards_shuffle_122 (by decide) ?_
    obtain ⟨q5, hq5, h⟩ := gOb h
    refine g_callN_v (As := [.ref (ε.2.2.1 e 5), .int q4, .int (gRem x5 4)]) (rest := []) (j := 362) (host := "DropSignals") (ct_DS_put e 5 32 (gCd_h5 hC) M q4 (gRem x5 4) _ hq5) d_Cards_shuffle_123 ca_DS_put (by decide +kernel) rfl rfl (Nat.le_of_ble_eq_true rfl) ⟨(Nat.le_of_ble_eq_true rfl), (Nat.le_of_ble_eq_true rfl)⟩ ?_
    refine g_iinc (v := (x5 + 1)) (L' := [(5, .int (x5 + 1)), (0, .ref (ε.2.2.1 e 1))]) d_Cards_shuffle_126 (j := 1) rfl rfl (by decide) rfl ?_
    refine g_goto (tgt := 99) d_Cards_shuffle_129 (by decide) ?_
    refine gGo_sub [1, 0] rfl ?_
    obtain rfl := Option.some.inj h
    exact k1 _ rfl
noncomputable def f_Cards_shuffle_l99 (e : Nat) (s : (Int32 × gMem)) : Option gMem := gLp (fun s => f_Cards_shuffle_s99 e s.2 s.1) s
theorem t_Cards_shuffle_l99 {l : Launch} {ε : gEnv} (e : Nat) (hC : gCd ε e) (s : (Int32 × gMem)) (r : gMem) (h : f_Cards_shuffle_l99 e s = some r) : gGo l ε k_Cards_shuffle (gR 1 23) (gFn ε none r) 99 [(0, .ref (ε.2.2.1 e 1)), (5, .int s.1)] [] s.2 :=
  g_loop _ (fun r s => gGo l ε k_Cards_shuffle (gR 1 23) (gFn ε none r) 99 [(0, .ref (ε.2.2.1 e 1)), (5, .int s.1)] [] s.2) (fun s res h r k1 k2 => t_Cards_shuffle_s99 e hC s.2 s.1 res h r k1 k2) s r h
noncomputable def f_Cards_shuffle_s29 (e : Nat) (M : gMem) (x3 : Int64) (x5 : Int32) : Option ((Int64 × Int32 × gMem) ⊕ gMem) :=
  if x5 ≤ 0 then
    (f_Cards_shuffle_l99 e (0, M)).map .inr
  else
    (f_DS_following x3).bind fun q7 =>
    (f_DS_upperBits q7).bind fun q8 =>
    (gNz (x5 + 1)).bind fun _ =>
    (f_DS_at e 7 32 M x5).bind fun q10 =>
    (f_DS_at e 7 32 M (gRem q8 (x5 + 1))).bind fun q11 =>
    (f_DS_put e 7 32 M x5 q11).bind fun q12 =>
    (f_DS_put e 7 32 q12 (gRem q8 (x5 + 1)) q10).bind fun q13 =>
    some (.inl (q7, (x5 + (-1)), q13))
theorem t_Cards_shuffle_s29 {l : Launch} {ε : gEnv} (e : Nat) (hC : gCd ε e) (M : gMem) (x3 : Int64) (x5 : Int32) (res : ((Int64 × Int32 × gMem) ⊕ gMem)) (h : f_Cards_shuffle_s29 e M x3 x5 = some res) (r : gMem) (k1 : ∀ s0 : (Int64 × Int32 × gMem), res = .inl s0 → gGo l ε k_Cards_shuffle (gR 1 23) (gFn ε none r) 29 [(0, .ref (ε.2.2.1 e 1)), (3, .long s0.1), (5, .int s0.2.1)] [] s0.2.2) (k2 : ∀ r', res = .inr r' → r' = r) : gGo l ε k_Cards_shuffle (gR 1 23) (gFn ε none r) 29 [(0, .ref (ε.2.2.1 e 1)), (3, .long x3), (5, .int x5)] [] M := by
  unfold f_Cards_shuffle_s29 at h
  refine g_iload d_Cards_shuffle_29 2 rfl ?_
  refine g_if_le (tgt := 96) d_Cards_shuffle_31 (by decide) (fun c14 => ?_) (fun c14 => ?_)
  · rw [if_pos c14] at h
    refine g_iconst (v := 0) d_Cards_shuffle_96 (by decide) ?_
    refine g_istore (L' := [(5, .int 0), (0, .ref (ε.2.2.1 e 1)), (3, .long x3)]) d_Cards_shuffle_97 (by decide) rfl ?_
    refine gGo_sub [1, 0] rfl ?_
    obtain ⟨r9, h9, h8⟩ := gOm h
    cases h8
    have e9 := k2 _ rfl
    subst e9
    exact t_Cards_shuffle_l99 e hC (0, M) _ h9
  · rw [if_neg c14] at h
    refine g_lload_n d_Cards_shuffle_34 rfl 1 rfl ?_
    obtain ⟨q7, hq7, h⟩ := gOb h
    refine g_callN_l (As := [.long x3]) (rest := []) (j := 365) (host := "DropSignals") (ct_DS_following M x3 _ hq7) d_Cards_shuffle_35 ca_DS_following (by decide +kernel) rfl rfl (Nat.le_of_ble_eq_true rfl) ⟨(Nat.le_of_ble_eq_true rfl), (Nat.le_of_ble_eq_true rfl)⟩ ?_
    refine g_lstore_n (L' := [(3, .long q7), (0, .ref (ε.2.2.1 e 1)), (5, .int x5)]) d_Cards_shuffle_38 rfl (by decide) rfl ?_
    refine g_lload_n d_Cards_shuffle_39 rfl 0 rfl ?_
    obtain ⟨q8, hq8, h⟩ := gOb h
    refine g_callN_i (As := [.long q7]) (rest := []) (j := 370) (host := "DropSignals") (ct_DS_upperBits M q7 _ hq8) d_Cards_shuffle_40 ca_DS_upperBits (by decide +kernel) rfl rfl (Nat.le_of_ble_eq_true rfl) ⟨(Nat.le_of_ble_eq_true rfl), (Nat.le_of_ble_eq_true rfl)⟩ ?_
    refine g_iload d_Cards_shuffle_43 2 rfl ?_
    refine g_iconst (v := 1) d_Cards_shuffle_45 (by decide) ?_
    refine g_iadd d_Cards_shuffle_46 ?_
    obtain ⟨z9, hz9, h⟩ := gOb h
    refine g_rem d_Cards_shuffle_47 (gNz_s hz9).2 ?_
    refine g_istore (L' := [(6, .int (gRem q8 (x5 + 1))), (3, .long q7), (0, .ref (ε.2.2.1 e 1)), (5, .int x5)]) d_Cards_shuffle_48 (by decide) rfl ?_
    refine g_aload_n d_Cards_shuffle_50 rfl 2 rfl ?_
    refine g_getR d_Cards_shuffle_51 fl_Cards_18 (gCd_h1 hC) rfl ?_
    refine g_iload d_Cards_shuffle_54 3 rfl ?_
    obtain ⟨q10, hq10, h⟩ := gOb h
    refine g_callN_i (As := [.ref (ε.2.2.1 e 7), .int x5]) (rest := []) (j := 373) (host := "DropSignals") (ct_DS_at e 7 32 (gCd_h7 hC) M x5 _ hq10) d_Cards_shuffle_56 ca_DS_at (by decide +kernel) rfl rfl (Nat.le_of_ble_eq_true rfl) ⟨(Nat.le_of_ble_eq_true rfl), (Nat.le_of_ble_eq_true rfl)⟩ ?_
    refine g_istore (L' := [(7, .int q10), (6, .int (gRem q8 (x5 + 1))), (3, .long q7), (0, .ref (ε.2.2.1 e 1)), (5, .int x5)]) d_Cards_shuffle_59 (by decide) rfl ?_
    refine g_aload_n d_Cards_shuffle_61 rfl 3 rfl ?_
    refine g_getR d_Cards_shuffle_62 fl_Cards_18 (gCd_h1 hC) rfl ?_
    refine g_iload d_Cards_shuffle_65 4 rfl ?_
    refine g_aload_n d_Cards_shuffle_67 rfl 3 rfl ?_
    refine g_getR d_Cards_shuffle_68 fl_Cards_18 (gCd_h1 hC) rfl ?_
    refine g_iload d_Cards_shuffle_71 1 rfl ?_
    obtain ⟨q11, hq11, h⟩ := gOb h
    refine g_callN_i (As := [.ref (ε.2.2.1 e 7), .int (gRem q8 (x5 + 1))]) (rest := [.int x5, .ref (ε.2.2.1 e 7)]) (j := 373) (host := "DropSignals") (ct_DS_at e 7 32 (gCd_h7 hC) M (gRem q8 (x5 + 1)) _ hq11) d_Cards_shuffle_73 ca_DS_at (by decide +kernel) rfl rfl (Nat.le_of_ble_eq_true rfl) ⟨(Nat.le_of_ble_eq_true rfl), (Nat.le_of_ble_eq_true rfl)⟩ ?_
    obtain ⟨q12, hq12, h⟩ := gOb h
    refine g_callN_v (As := [.ref (ε.2.2.1 e 7), .int x5, .int q11]) (rest := []) (j := 362) (host := "DropSignals") (ct_DS_put e 7 32 (gCd_h7 hC) M x5 q11 _ hq12) d_Cards_shuffle_76 ca_DS_put (by decide +kernel) rfl rfl (Nat.le_of_ble_eq_true rfl) ⟨(Nat.le_of_ble_eq_true rfl), (Nat.le_of_ble_eq_true rfl)⟩ ?_
    refine g_aload_n d_Cards_shuffle_79 rfl 3 rfl ?_
    refine g_getR d_Cards_shuffle_80 fl_Cards_18 (gCd_h1 hC) rfl ?_
    refine g_iload d_Cards_shuffle_83 1 rfl ?_
    refine g_iload d_Cards_shuffle_85 0 rfl ?_
    obtain ⟨q13, hq13, h⟩ := gOb h
    refine g_callN_v (As := [.ref (ε.2.2.1 e 7), .int (gRem q8 (x5 + 1)), .int q10]) (rest := []) (j := 362) (host := "DropSignals") (ct_DS_put e 7 32 (gCd_h7 hC) q12 (gRem q8 (x5 + 1)) q10 _ hq13) d_Cards_shuffle_87 ca_DS_put (by decide +kernel) rfl rfl (Nat.le_of_ble_eq_true rfl) ⟨(Nat.le_of_ble_eq_true rfl), (Nat.le_of_ble_eq_true rfl)⟩ ?_
    refine g_iinc (v := (x5 + (-1))) (L' := [(5, .int (x5 + (-1))), (7, .int q10), (6, .int (gRem q8 (x5 + 1))), (3, .long q7), (0, .ref (ε.2.2.1 e 1))]) d_Cards_shuffle_90 (j := 4) rfl rfl (by decide) rfl ?_
    refine g_goto (tgt := 29) d_Cards_shuffle_93 (by decide) ?_
    refine gGo_sub [4, 3, 0] rfl ?_
    obtain rfl := Option.some.inj h
    exact k1 _ rfl
noncomputable def f_Cards_shuffle_l29 (e : Nat) (s : (Int64 × Int32 × gMem)) : Option gMem := gLp (fun s => f_Cards_shuffle_s29 e s.2.2 s.1 s.2.1) s
theorem t_Cards_shuffle_l29 {l : Launch} {ε : gEnv} (e : Nat) (hC : gCd ε e) (s : (Int64 × Int32 × gMem)) (r : gMem) (h : f_Cards_shuffle_l29 e s = some r) : gGo l ε k_Cards_shuffle (gR 1 23) (gFn ε none r) 29 [(0, .ref (ε.2.2.1 e 1)), (3, .long s.1), (5, .int s.2.1)] [] s.2.2 :=
  g_loop _ (fun r s => gGo l ε k_Cards_shuffle (gR 1 23) (gFn ε none r) 29 [(0, .ref (ε.2.2.1 e 1)), (3, .long s.1), (5, .int s.2.1)] [] s.2.2) (fun s res h r k1 k2 => t_Cards_shuffle_s29 e hC s.2.2 s.1 s.2.1 res h r k1 k2) s r h
noncomputable def f_Cards_shuffle_s2 (e : Nat) (M : gMem) (x1 : Int64) (x3 : Int32) : Option ((Int32 × gMem) ⊕ gMem) :=
  if 32 ≤ x3 then
    (f_Cards_shuffle_l29 e (x1, 31, M)).map .inr
  else
    (f_DS_put e 7 32 M x3 x3).bind fun q15 =>
    some (.inl ((x3 + 1), q15))
theorem t_Cards_shuffle_s2 {l : Launch} {ε : gEnv} (e : Nat) (hC : gCd ε e) (M : gMem) (x1 : Int64) (x3 : Int32) (res : ((Int32 × gMem) ⊕ gMem)) (h : f_Cards_shuffle_s2 e M x1 x3 = some res) (r : gMem) (k1 : ∀ s0 : (Int32 × gMem), res = .inl s0 → gGo l ε k_Cards_shuffle (gR 1 23) (gFn ε none r) 2 [(0, .ref (ε.2.2.1 e 1)), (1, .long x1), (3, .int s0.1)] [] s0.2) (k2 : ∀ r', res = .inr r' → r' = r) : gGo l ε k_Cards_shuffle (gR 1 23) (gFn ε none r) 2 [(0, .ref (ε.2.2.1 e 1)), (1, .long x1), (3, .int x3)] [] M := by
  unfold f_Cards_shuffle_s2 at h
  refine g_iload_n d_Cards_shuffle_2 rfl 2 rfl ?_
  refine g_bipush (v := 32) d_Cards_shuffle_3 (by decide) ?_
  refine g_icmp_ge (tgt := 23) d_Cards_shuffle_5 (by decide) (fun c16 => ?_) (fun c16 => ?_)
  · rw [if_pos c16] at h
    refine g_lload_n d_Cards_shuffle_23 rfl 1 rfl ?_
    refine g_lstore_n (L' := [(3, .long x1), (0, .ref (ε.2.2.1 e 1)), (1, .long x1)]) d_Cards_shuffle_24 rfl (by decide) rfl ?_
    refine g_bipush (v := 31) d_Cards_shuffle_25 (by decide) ?_
    refine g_istore (L' := [(5, .int 31), (3, .long x1), (0, .ref (ε.2.2.1 e 1)), (1, .long x1)]) d_Cards_shuffle_27 (by decide) rfl ?_
    refine gGo_sub [2, 1, 0] rfl ?_
    obtain ⟨r9, h9, h8⟩ := gOm h
    cases h8
    have e9 := k2 _ rfl
    subst e9
    exact t_Cards_shuffle_l29 e hC (x1, 31, M) _ h9
  · rw [if_neg c16] at h
    refine g_aload_n d_Cards_shuffle_8 rfl 0 rfl ?_
    refine g_getR d_Cards_shuffle_9 fl_Cards_18 (gCd_h1 hC) rfl ?_
    refine g_iload_n d_Cards_shuffle_12 rfl 2 rfl ?_
    refine g_iload_n d_Cards_shuffle_13 rfl 2 rfl ?_
    obtain ⟨q15, hq15, h⟩ := gOb h
    refine g_callN_v (As := [.ref (ε.2.2.1 e 7), .int x3, .int x3]) (rest := []) (j := 362) (host := "DropSignals") (ct_DS_put e 7 32 (gCd_h7 hC) M x3 x3 _ hq15) d_Cards_shuffle_14 ca_DS_put (by decide +kernel) rfl rfl (Nat.le_of_ble_eq_true rfl) ⟨(Nat.le_of_ble_eq_true rfl), (Nat.le_of_ble_eq_true rfl)⟩ ?_
    refine g_iinc (v := (x3 + 1)) (L' := [(3, .int (x3 + 1)), (0, .ref (ε.2.2.1 e 1)), (1, .long x1)]) d_Cards_shuffle_17 (j := 2) rfl rfl (by decide) rfl ?_
    refine g_goto (tgt := 2) d_Cards_shuffle_20 (by decide) ?_
    refine gGo_sub [1, 2, 0] rfl ?_
    obtain rfl := Option.some.inj h
    exact k1 _ rfl
noncomputable def f_Cards_shuffle_l2 (e : Nat) (x1 : Int64) (s : (Int32 × gMem)) : Option gMem := gLp (fun s => f_Cards_shuffle_s2 e s.2 x1 s.1) s
theorem t_Cards_shuffle_l2 {l : Launch} {ε : gEnv} (e : Nat) (hC : gCd ε e) (x1 : Int64) (s : (Int32 × gMem)) (r : gMem) (h : f_Cards_shuffle_l2 e x1 s = some r) : gGo l ε k_Cards_shuffle (gR 1 23) (gFn ε none r) 2 [(0, .ref (ε.2.2.1 e 1)), (1, .long x1), (3, .int s.1)] [] s.2 :=
  g_loop _ (fun r s => gGo l ε k_Cards_shuffle (gR 1 23) (gFn ε none r) 2 [(0, .ref (ε.2.2.1 e 1)), (1, .long x1), (3, .int s.1)] [] s.2) (fun s res h r k1 k2 => t_Cards_shuffle_s2 e hC s.2 x1 s.1 res h r k1 k2) s r h
noncomputable def f_Cards_shuffle (e : Nat) (M : gMem) (a0 : Int64) : Option gMem :=
  f_Cards_shuffle_l2 e a0 (0, M)
theorem t_Cards_shuffle {l : Launch} {ε : gEnv} (e : Nat) (hC : gCd ε e) (M : gMem) (a0 : Int64) (r : gMem) (h : f_Cards_shuffle e M a0 = some r) : gGo l ε k_Cards_shuffle (gR 1 23) (gFn ε none r) 0 [(0, .ref (ε.2.2.1 e 1)), (1, .long a0)] [] M := by
  unfold f_Cards_shuffle at h
  refine g_iconst (v := 0) d_Cards_shuffle_0 (by decide) ?_
  refine g_istore_n (L' := [(3, .int 0), (0, .ref (ε.2.2.1 e 1)), (1, .long a0)]) d_Cards_shuffle_1 rfl (by decide) rfl ?_
  refine gGo_sub [1, 2, 0] rfl ?_
  exact t_Cards_shuffle_l2 e hC a0 (0, M) _ h
theorem ct_Cards_shuffle {l : Launch} {ε : gEnv} (e : Nat) (hC : gCd ε e) (M : gMem) (a0 : Int64) (r : gMem) (h : f_Cards_shuffle e M a0 = some r) : gCt l ε k_Cards_shuffle 1 23 [.ref (ε.2.2.1 e 1), .long a0] M none r :=
  gCt_of (by decide) (Nat.le_of_ble_eq_true rfl) rfl (t_Cards_shuffle e hC M a0 r h)
abbrev k_Cards_lay : gMD := (⟨"DropSignals$Cards", "lay", "(I)V"⟩, prog_2_method_5_code, 2, none)
theorem w_601 : Cond.instanceMethod ⟨"DropSignals$Cards", "lay", "(I)V"⟩ ∈ gWs := gWs_in (i := 601) (by decide +kernel) rfl
theorem w_602 : Cond.selects "DropSignals$Cards" ⟨"DropSignals$Cards", "lay", "(I)V"⟩ ⟨"DropSignals$Cards", "lay", "(I)V"⟩ ∈ gWs := gWs_in (i := 602) (by decide +kernel) rfl
set_option maxRecDepth 100000 in
theorem ca_Cards_lay : gCaV k_Cards_lay 1 := ⟨⟨gWs_in (i := 603) rfl rfl, w_36, by decide, by decide, by decide +kernel⟩, w_601, w_602⟩
theorem d_Cards_lay_0 : decode prog_2_method_5_code 0 = .ok (.aload_n 0, 1) := by decide +kernel
theorem d_Cards_lay_1 : decode prog_2_method_5_code 1 = .ok (.getfield 18, 3) := by decide +kernel
theorem d_Cards_lay_4 : decode prog_2_method_5_code 4 = .ok (.aload_n 0, 1) := by decide +kernel
theorem d_Cards_lay_5 : decode prog_2_method_5_code 5 = .ok (.getfield 30, 3) := by decide +kernel
theorem d_Cards_lay_8 : decode prog_2_method_5_code 8 = .ok (.iload_n 1, 1) := by decide +kernel
theorem d_Cards_lay_9 : decode prog_2_method_5_code 9 = .ok (.invokestatic 38, 3) := by decide +kernel
theorem d_Cards_lay_12 : decode prog_2_method_5_code 12 = .ok (.aload_n 0, 1) := by decide +kernel
theorem d_Cards_lay_13 : decode prog_2_method_5_code 13 = .ok (.getfield 15, 3) := by decide +kernel
theorem d_Cards_lay_16 : decode prog_2_method_5_code 16 = .ok (.iload_n 1, 1) := by decide +kernel
theorem d_Cards_lay_17 : decode prog_2_method_5_code 17 = .ok (.aload_n 0, 1) := by decide +kernel
theorem d_Cards_lay_18 : decode prog_2_method_5_code 18 = .ok (.getfield 30, 3) := by decide +kernel
theorem d_Cards_lay_21 : decode prog_2_method_5_code 21 = .ok (.invokestatic 38, 3) := by decide +kernel
theorem d_Cards_lay_24 : decode prog_2_method_5_code 24 = .ok (.aload_n 0, 1) := by decide +kernel
theorem d_Cards_lay_25 : decode prog_2_method_5_code 25 = .ok (.dup, 1) := by decide +kernel
theorem d_Cards_lay_26 : decode prog_2_method_5_code 26 = .ok (.getfield 30, 3) := by decide +kernel
theorem d_Cards_lay_29 : decode prog_2_method_5_code 29 = .ok (.iconst 1, 1) := by decide +kernel
theorem d_Cards_lay_30 : decode prog_2_method_5_code 30 = .ok (.iadd, 1) := by decide +kernel
theorem d_Cards_lay_31 : decode prog_2_method_5_code 31 = .ok (.putfield 30, 3) := by decide +kernel
theorem d_Cards_lay_34 : decode prog_2_method_5_code 34 = .ok (.return_, 1) := by decide +kernel
noncomputable def f_Cards_lay (e : Nat) (M : gMem) (a0 : Int32) : Option gMem :=
  (f_DS_put e 7 32 M (M e 1 3) a0).bind fun q1 =>
  (f_DS_put e 6 32 q1 a0 (q1 e 1 3)).bind fun q2 =>
  (gSO q2 e 1 3 ((q2 e 1 3) + 1)).bind fun M3 =>
  some M3
theorem t_Cards_lay {l : Launch} {ε : gEnv} (e : Nat) (hC : gCd ε e) (M : gMem) (a0 : Int32) (r : gMem) (h : f_Cards_lay e M a0 = some r) : gGo l ε k_Cards_lay (gR 1 22) (gFn ε none r) 0 [(0, .ref (ε.2.2.1 e 1)), (1, .int a0)] [] M := by
  unfold f_Cards_lay at h
  refine g_aload_n d_Cards_lay_0 rfl 0 rfl ?_
  refine g_getR d_Cards_lay_1 fl_Cards_18 (gCd_h1 hC) rfl ?_
  refine g_aload_n d_Cards_lay_4 rfl 0 rfl ?_
  refine g_getI d_Cards_lay_5 fl_Cards_30 (gCd_h1 hC) rfl ?_
  refine g_iload_n d_Cards_lay_8 rfl 1 rfl ?_
  obtain ⟨q1, hq1, h⟩ := gOb h
  refine g_callN_v (As := [.ref (ε.2.2.1 e 7), .int (M e 1 3), .int a0]) (rest := []) (j := 362) (host := "DropSignals") (ct_DS_put e 7 32 (gCd_h7 hC) M (M e 1 3) a0 _ hq1) d_Cards_lay_9 ca_DS_put (by decide +kernel) rfl rfl (Nat.le_of_ble_eq_true rfl) ⟨(Nat.le_of_ble_eq_true rfl), (Nat.le_of_ble_eq_true rfl)⟩ ?_
  refine g_aload_n d_Cards_lay_12 rfl 0 rfl ?_
  refine g_getR d_Cards_lay_13 fl_Cards_15 (gCd_h1 hC) rfl ?_
  refine g_iload_n d_Cards_lay_16 rfl 1 rfl ?_
  refine g_aload_n d_Cards_lay_17 rfl 0 rfl ?_
  refine g_getI d_Cards_lay_18 fl_Cards_30 (gCd_h1 hC) rfl ?_
  obtain ⟨q2, hq2, h⟩ := gOb h
  refine g_callN_v (As := [.ref (ε.2.2.1 e 6), .int a0, .int (q1 e 1 3)]) (rest := []) (j := 362) (host := "DropSignals") (ct_DS_put e 6 32 (gCd_h6 hC) q1 a0 (q1 e 1 3) _ hq2) d_Cards_lay_21 ca_DS_put (by decide +kernel) rfl rfl (Nat.le_of_ble_eq_true rfl) ⟨(Nat.le_of_ble_eq_true rfl), (Nat.le_of_ble_eq_true rfl)⟩ ?_
  refine g_aload_n d_Cards_lay_24 rfl 0 rfl ?_
  refine g_dup d_Cards_lay_25 rfl ?_
  refine g_getI d_Cards_lay_26 fl_Cards_30 (gCd_h1 hC) rfl ?_
  refine g_iconst (v := 1) d_Cards_lay_29 (by decide) ?_
  refine g_iadd d_Cards_lay_30 ?_
  obtain ⟨M3, hM3, h⟩ := gOb h
  refine g_putO d_Cards_lay_31 fp_Cards_30 (gCd_h1 hC) rfl hM3 ?_
  obtain rfl := Option.some.inj h
  exact g_vret d_Cards_lay_34 rfl
theorem ct_Cards_lay {l : Launch} {ε : gEnv} (e : Nat) (hC : gCd ε e) (M : gMem) (a0 : Int32) (r : gMem) (h : f_Cards_lay e M a0 = some r) : gCt l ε k_Cards_lay 1 22 [.ref (ε.2.2.1 e 1), .int a0] M none r :=
  gCt_of (by decide) (Nat.le_of_ble_eq_true rfl) rfl (t_Cards_lay e hC M a0 r h)
abbrev k_Cards_dealtTo : gMD := (⟨"DropSignals$Cards", "dealtTo", "(I)I"⟩, prog_2_method_6_code, 2, (some .int))
theorem w_416 : Cond.instanceMethod ⟨"DropSignals$Cards", "dealtTo", "(I)I"⟩ ∈ gWs := gWs_in (i := 416) (by decide +kernel) rfl
theorem w_417 : Cond.selects "DropSignals$Cards" ⟨"DropSignals$Cards", "dealtTo", "(I)I"⟩ ⟨"DropSignals$Cards", "dealtTo", "(I)I"⟩ ∈ gWs := gWs_in (i := 417) (by decide +kernel) rfl
set_option maxRecDepth 100000 in
theorem ca_Cards_dealtTo : gCaV k_Cards_dealtTo 1 := ⟨⟨gWs_in (i := 418) rfl rfl, w_36, by decide, by decide, by decide +kernel⟩, w_416, w_417⟩
theorem d_Cards_dealtTo_0 : decode prog_2_method_6_code 0 = .ok (.iload_n 1, 1) := by decide +kernel
theorem d_Cards_dealtTo_1 : decode prog_2_method_6_code 1 = .ok (.ifCond .lt 21, 3) := by decide +kernel
theorem d_Cards_dealtTo_4 : decode prog_2_method_6_code 4 = .ok (.iload_n 1, 1) := by decide +kernel
theorem d_Cards_dealtTo_5 : decode prog_2_method_6_code 5 = .ok (.aload_n 0, 1) := by decide +kernel
theorem d_Cards_dealtTo_6 : decode prog_2_method_6_code 6 = .ok (.getfield 9, 3) := by decide +kernel
theorem d_Cards_dealtTo_9 : decode prog_2_method_6_code 9 = .ok (.arraylength, 1) := by decide +kernel
theorem d_Cards_dealtTo_10 : decode prog_2_method_6_code 10 = .ok (.if_icmp .ge 12, 3) := by decide +kernel
theorem d_Cards_dealtTo_13 : decode prog_2_method_6_code 13 = .ok (.aload_n 0, 1) := by decide +kernel
theorem d_Cards_dealtTo_14 : decode prog_2_method_6_code 14 = .ok (.getfield 9, 3) := by decide +kernel
theorem d_Cards_dealtTo_17 : decode prog_2_method_6_code 17 = .ok (.iload_n 1, 1) := by decide +kernel
theorem d_Cards_dealtTo_18 : decode prog_2_method_6_code 18 = .ok (.iaload, 1) := by decide +kernel
theorem d_Cards_dealtTo_19 : decode prog_2_method_6_code 19 = .ok (.goto 4, 3) := by decide +kernel
theorem d_Cards_dealtTo_22 : decode prog_2_method_6_code 22 = .ok (.iconst (-1), 1) := by decide +kernel
theorem d_Cards_dealtTo_23 : decode prog_2_method_6_code 23 = .ok (.ireturn, 1) := by decide +kernel
noncomputable def f_Cards_dealtTo (e : Nat) (M : gMem) (a0 : Int32) : Option Int32 :=
  if a0 < 0 then
    some (-1)
  else
    if (Int32.ofNat 32) ≤ a0 then
      some (-1)
    else
      (gRd 32 (M e 5) a0).bind fun v1 =>
      some v1
theorem t_Cards_dealtTo {l : Launch} {ε : gEnv} (e : Nat) (hC : gCd ε e) (M : gMem) (a0 : Int32) (r : Int32) (h : f_Cards_dealtTo e M a0 = some r) : gGo l ε k_Cards_dealtTo (gR 0 0) (gFn ε (some (.int r)) M) 0 [(0, .ref (ε.2.2.1 e 1)), (1, .int a0)] [] M := by
  unfold f_Cards_dealtTo at h
  refine g_iload_n d_Cards_dealtTo_0 rfl 1 rfl ?_
  refine g_if_lt (tgt := 22) d_Cards_dealtTo_1 (by decide) (fun c3 => ?_) (fun c3 => ?_)
  · rw [if_pos c3] at h
    refine g_iconst (v := -1) d_Cards_dealtTo_22 (by decide) ?_
    obtain rfl := Option.some.inj h
    exact g_iret d_Cards_dealtTo_23 rfl
  · rw [if_neg c3] at h
    refine g_iload_n d_Cards_dealtTo_4 rfl 1 rfl ?_
    refine g_aload_n d_Cards_dealtTo_5 rfl 0 rfl ?_
    refine g_getR d_Cards_dealtTo_6 fl_Cards_9 (gCd_h1 hC) rfl ?_
    refine g_alen d_Cards_dealtTo_9 (gCd_h5 hC) ?_
    refine g_icmp_ge (tgt := 22) d_Cards_dealtTo_10 (by decide) (fun c2 => ?_) (fun c2 => ?_)
    · rw [if_pos c2] at h
      refine g_iconst (v := -1) d_Cards_dealtTo_22 (by decide) ?_
      obtain rfl := Option.some.inj h
      exact g_iret d_Cards_dealtTo_23 rfl
    · rw [if_neg c2] at h
      refine g_aload_n d_Cards_dealtTo_13 rfl 0 rfl ?_
      refine g_getR d_Cards_dealtTo_14 fl_Cards_9 (gCd_h1 hC) rfl ?_
      refine g_iload_n d_Cards_dealtTo_17 rfl 1 rfl ?_
      obtain ⟨v1, hv1, h⟩ := gOb h
      refine g_iaload d_Cards_dealtTo_18 (gCd_h5 hC) hv1 ?_
      refine g_goto (tgt := 23) d_Cards_dealtTo_19 (by decide) ?_
      obtain rfl := Option.some.inj h
      exact g_iret d_Cards_dealtTo_23 rfl
theorem ct_Cards_dealtTo {l : Launch} {ε : gEnv} (e : Nat) (hC : gCd ε e) (M : gMem) (a0 : Int32) (r : Int32) (h : f_Cards_dealtTo e M a0 = some r) : gCt l ε k_Cards_dealtTo 0 0 [.ref (ε.2.2.1 e 1), .int a0] M (some (.int r)) M :=
  gCt_of (by decide) (Nat.le_of_ble_eq_true rfl) rfl (t_Cards_dealtTo e hC M a0 r h)
abbrev k_Cards_playedAt : gMD := (⟨"DropSignals$Cards", "playedAt", "(I)I"⟩, prog_2_method_7_code, 2, (some .int))
theorem w_698 : Cond.instanceMethod ⟨"DropSignals$Cards", "playedAt", "(I)I"⟩ ∈ gWs := gWs_in (i := 698) (by decide +kernel) rfl
theorem w_699 : Cond.selects "DropSignals$Cards" ⟨"DropSignals$Cards", "playedAt", "(I)I"⟩ ⟨"DropSignals$Cards", "playedAt", "(I)I"⟩ ∈ gWs := gWs_in (i := 699) (by decide +kernel) rfl
set_option maxRecDepth 100000 in
theorem ca_Cards_playedAt : gCaV k_Cards_playedAt 1 := ⟨⟨gWs_in (i := 700) rfl rfl, w_36, by decide, by decide, by decide +kernel⟩, w_698, w_699⟩
theorem d_Cards_playedAt_0 : decode prog_2_method_7_code 0 = .ok (.aload_n 0, 1) := by decide +kernel
theorem d_Cards_playedAt_1 : decode prog_2_method_7_code 1 = .ok (.getfield 15, 3) := by decide +kernel
theorem d_Cards_playedAt_4 : decode prog_2_method_7_code 4 = .ok (.iload_n 1, 1) := by decide +kernel
theorem d_Cards_playedAt_5 : decode prog_2_method_7_code 5 = .ok (.invokestatic 50, 3) := by decide +kernel
theorem d_Cards_playedAt_8 : decode prog_2_method_7_code 8 = .ok (.ireturn, 1) := by decide +kernel
noncomputable def f_Cards_playedAt (e : Nat) (M : gMem) (a0 : Int32) : Option Int32 :=
  (f_DS_at e 6 32 M a0).bind fun q1 =>
  some q1
theorem t_Cards_playedAt {l : Launch} {ε : gEnv} (e : Nat) (hC : gCd ε e) (M : gMem) (a0 : Int32) (r : Int32) (h : f_Cards_playedAt e M a0 = some r) : gGo l ε k_Cards_playedAt (gR 1 21) (gFn ε (some (.int r)) M) 0 [(0, .ref (ε.2.2.1 e 1)), (1, .int a0)] [] M := by
  unfold f_Cards_playedAt at h
  refine g_aload_n d_Cards_playedAt_0 rfl 0 rfl ?_
  refine g_getR d_Cards_playedAt_1 fl_Cards_15 (gCd_h1 hC) rfl ?_
  refine g_iload_n d_Cards_playedAt_4 rfl 1 rfl ?_
  obtain ⟨q1, hq1, h⟩ := gOb h
  refine g_callN_i (As := [.ref (ε.2.2.1 e 6), .int a0]) (rest := []) (j := 373) (host := "DropSignals") (ct_DS_at e 6 32 (gCd_h6 hC) M a0 _ hq1) d_Cards_playedAt_5 ca_DS_at (by decide +kernel) rfl rfl (Nat.le_of_ble_eq_true rfl) ⟨(Nat.le_of_ble_eq_true rfl), (Nat.le_of_ble_eq_true rfl)⟩ ?_
  obtain rfl := Option.some.inj h
  exact g_iret d_Cards_playedAt_8 rfl
theorem ct_Cards_playedAt {l : Launch} {ε : gEnv} (e : Nat) (hC : gCd ε e) (M : gMem) (a0 : Int32) (r : Int32) (h : f_Cards_playedAt e M a0 = some r) : gCt l ε k_Cards_playedAt 1 21 [.ref (ε.2.2.1 e 1), .int a0] M (some (.int r)) M :=
  gCt_of (by decide) (Nat.le_of_ble_eq_true rfl) rfl (t_Cards_playedAt e hC M a0 r h)
abbrev k_Cards_holder : gMD := (⟨"DropSignals$Cards", "holder", "(I)I"⟩, prog_2_method_8_code, 2, (some .int))
theorem w_395 : Cond.instanceMethod ⟨"DropSignals$Cards", "holder", "(I)I"⟩ ∈ gWs := gWs_in (i := 395) (by decide +kernel) rfl
theorem w_396 : Cond.selects "DropSignals$Cards" ⟨"DropSignals$Cards", "holder", "(I)I"⟩ ⟨"DropSignals$Cards", "holder", "(I)I"⟩ ∈ gWs := gWs_in (i := 396) (by decide +kernel) rfl
set_option maxRecDepth 100000 in
theorem ca_Cards_holder : gCaV k_Cards_holder 1 := ⟨⟨gWs_in (i := 397) rfl rfl, w_36, by decide, by decide, by decide +kernel⟩, w_395, w_396⟩
theorem d_Cards_holder_0 : decode prog_2_method_8_code 0 = .ok (.iload_n 1, 1) := by decide +kernel
theorem d_Cards_holder_1 : decode prog_2_method_8_code 1 = .ok (.ifCond .lt 40, 3) := by decide +kernel
theorem d_Cards_holder_4 : decode prog_2_method_8_code 4 = .ok (.iload_n 1, 1) := by decide +kernel
theorem d_Cards_holder_5 : decode prog_2_method_8_code 5 = .ok (.aload_n 0, 1) := by decide +kernel
theorem d_Cards_holder_6 : decode prog_2_method_8_code 6 = .ok (.getfield 9, 3) := by decide +kernel
theorem d_Cards_holder_9 : decode prog_2_method_8_code 9 = .ok (.arraylength, 1) := by decide +kernel
theorem d_Cards_holder_10 : decode prog_2_method_8_code 10 = .ok (.if_icmp .ge 31, 3) := by decide +kernel
theorem d_Cards_holder_13 : decode prog_2_method_8_code 13 = .ok (.iload_n 1, 1) := by decide +kernel
theorem d_Cards_holder_14 : decode prog_2_method_8_code 14 = .ok (.aload_n 0, 1) := by decide +kernel
theorem d_Cards_holder_15 : decode prog_2_method_8_code 15 = .ok (.getfield 15, 3) := by decide +kernel
theorem d_Cards_holder_18 : decode prog_2_method_8_code 18 = .ok (.arraylength, 1) := by decide +kernel
theorem d_Cards_holder_19 : decode prog_2_method_8_code 19 = .ok (.if_icmp .ge 22, 3) := by decide +kernel
theorem d_Cards_holder_22 : decode prog_2_method_8_code 22 = .ok (.aload_n 0, 1) := by decide +kernel
theorem d_Cards_holder_23 : decode prog_2_method_8_code 23 = .ok (.getfield 15, 3) := by decide +kernel
theorem d_Cards_holder_26 : decode prog_2_method_8_code 26 = .ok (.iload_n 1, 1) := by decide +kernel
theorem d_Cards_holder_27 : decode prog_2_method_8_code 27 = .ok (.iaload, 1) := by decide +kernel
theorem d_Cards_holder_28 : decode prog_2_method_8_code 28 = .ok (.iconst (-1), 1) := by decide +kernel
theorem d_Cards_holder_29 : decode prog_2_method_8_code 29 = .ok (.if_icmp .ne 12, 3) := by decide +kernel
theorem d_Cards_holder_32 : decode prog_2_method_8_code 32 = .ok (.aload_n 0, 1) := by decide +kernel
theorem d_Cards_holder_33 : decode prog_2_method_8_code 33 = .ok (.getfield 9, 3) := by decide +kernel
theorem d_Cards_holder_36 : decode prog_2_method_8_code 36 = .ok (.iload_n 1, 1) := by decide +kernel
theorem d_Cards_holder_37 : decode prog_2_method_8_code 37 = .ok (.iaload, 1) := by decide +kernel
theorem d_Cards_holder_38 : decode prog_2_method_8_code 38 = .ok (.goto 4, 3) := by decide +kernel
theorem d_Cards_holder_41 : decode prog_2_method_8_code 41 = .ok (.iconst (-1), 1) := by decide +kernel
theorem d_Cards_holder_42 : decode prog_2_method_8_code 42 = .ok (.ireturn, 1) := by decide +kernel
noncomputable def f_Cards_holder (e : Nat) (M : gMem) (a0 : Int32) : Option Int32 :=
  if a0 < 0 then
    some (-1)
  else
    if (Int32.ofNat 32) ≤ a0 then
      some (-1)
    else
      if (Int32.ofNat 32) ≤ a0 then
        some (-1)
      else
        (gRd 32 (M e 6) a0).bind fun v1 =>
        if v1 = (-1) then
          (gRd 32 (M e 5) a0).bind fun v2 =>
          some v2
        else
          some (-1)
theorem t_Cards_holder {l : Launch} {ε : gEnv} (e : Nat) (hC : gCd ε e) (M : gMem) (a0 : Int32) (r : Int32) (h : f_Cards_holder e M a0 = some r) : gGo l ε k_Cards_holder (gR 0 0) (gFn ε (some (.int r)) M) 0 [(0, .ref (ε.2.2.1 e 1)), (1, .int a0)] [] M := by
  unfold f_Cards_holder at h
  refine g_iload_n d_Cards_holder_0 rfl 1 rfl ?_
  refine g_if_lt (tgt := 41) d_Cards_holder_1 (by decide) (fun c6 => ?_) (fun c6 => ?_)
  · rw [if_pos c6] at h
    refine g_iconst (v := -1) d_Cards_holder_41 (by decide) ?_
    obtain rfl := Option.some.inj h
    exact g_iret d_Cards_holder_42 rfl
  · rw [if_neg c6] at h
    refine g_iload_n d_Cards_holder_4 rfl 1 rfl ?_
    refine g_aload_n d_Cards_holder_5 rfl 0 rfl ?_
    refine g_getR d_Cards_holder_6 fl_Cards_9 (gCd_h1 hC) rfl ?_
    refine g_alen d_Cards_holder_9 (gCd_h5 hC) ?_
    refine g_icmp_ge (tgt := 41) d_Cards_holder_10 (by decide) (fun c5 => ?_) (fun c5 => ?_)
    · rw [if_pos c5] at h
      refine g_iconst (v := -1) d_Cards_holder_41 (by decide) ?_
      obtain rfl := Option.some.inj h
      exact g_iret d_Cards_holder_42 rfl
    · rw [if_neg c5] at h
      refine g_iload_n d_Cards_holder_13 rfl 1 rfl ?_
      refine g_aload_n d_Cards_holder_14 rfl 0 rfl ?_
      refine g_getR d_Cards_holder_15 fl_Cards_15 (gCd_h1 hC) rfl ?_
      refine g_alen d_Cards_holder_18 (gCd_h6 hC) ?_
      refine g_icmp_ge (tgt := 41) d_Cards_holder_19 (by decide) (fun c4 => ?_) (fun c4 => ?_)
      · rw [if_pos c4] at h
        refine g_iconst (v := -1) d_Cards_holder_41 (by decide) ?_
        obtain rfl := Option.some.inj h
        exact g_iret d_Cards_holder_42 rfl
      · rw [if_neg c4] at h
        refine g_aload_n d_Cards_holder_22 rfl 0 rfl ?_
        refine g_getR d_Cards_holder_23 fl_Cards_15 (gCd_h1 hC) rfl ?_
        refine g_iload_n d_Cards_holder_26 rfl 1 rfl ?_
        obtain ⟨v1, hv1, h⟩ := gOb h
        refine g_iaload d_Cards_holder_27 (gCd_h6 hC) hv1 ?_
        refine g_iconst (v := -1) d_Cards_holder_28 (by decide) ?_
        refine g_icmp_ne (tgt := 41) d_Cards_holder_29 (by decide) (fun c3 => ?_) (fun c3 => ?_)
        · rw [if_neg c3] at h
          refine g_iconst (v := -1) d_Cards_holder_41 (by decide) ?_
          obtain rfl := Option.some.inj h
          exact g_iret d_Cards_holder_42 rfl
        · rw [if_pos c3] at h
          refine g_aload_n d_Cards_holder_32 rfl 0 rfl ?_
          refine g_getR d_Cards_holder_33 fl_Cards_9 (gCd_h1 hC) rfl ?_
          refine g_iload_n d_Cards_holder_36 rfl 1 rfl ?_
          obtain ⟨v2, hv2, h⟩ := gOb h
          refine g_iaload d_Cards_holder_37 (gCd_h5 hC) hv2 ?_
          refine g_goto (tgt := 42) d_Cards_holder_38 (by decide) ?_
          obtain rfl := Option.some.inj h
          exact g_iret d_Cards_holder_42 rfl
theorem ct_Cards_holder {l : Launch} {ε : gEnv} (e : Nat) (hC : gCd ε e) (M : gMem) (a0 : Int32) (r : Int32) (h : f_Cards_holder e M a0 = some r) : gCt l ε k_Cards_holder 0 0 [.ref (ε.2.2.1 e 1), .int a0] M (some (.int r)) M :=
  gCt_of (by decide) (Nat.le_of_ble_eq_true rfl) rfl (t_Cards_holder e hC M a0 r h)
abbrev k_Cards_trickSize : gMD := (⟨"DropSignals$Cards", "trickSize", "()I"⟩, prog_2_method_9_code, 1, (some .int))
theorem w_629 : Cond.instanceMethod ⟨"DropSignals$Cards", "trickSize", "()I"⟩ ∈ gWs := gWs_in (i := 629) (by decide +kernel) rfl
theorem w_630 : Cond.selects "DropSignals$Cards" ⟨"DropSignals$Cards", "trickSize", "()I"⟩ ⟨"DropSignals$Cards", "trickSize", "()I"⟩ ∈ gWs := gWs_in (i := 630) (by decide +kernel) rfl
set_option maxRecDepth 100000 in
theorem ca_Cards_trickSize : gCaV k_Cards_trickSize 0 := ⟨⟨gWs_in (i := 631) rfl rfl, w_36, by decide, by decide, by decide +kernel⟩, w_629, w_630⟩
theorem d_Cards_trickSize_0 : decode prog_2_method_9_code 0 = .ok (.aload_n 0, 1) := by decide +kernel
theorem d_Cards_trickSize_1 : decode prog_2_method_9_code 1 = .ok (.getfield 30, 3) := by decide +kernel
theorem d_Cards_trickSize_4 : decode prog_2_method_9_code 4 = .ok (.iconst 4, 1) := by decide +kernel
theorem d_Cards_trickSize_5 : decode prog_2_method_9_code 5 = .ok (.irem, 1) := by decide +kernel
theorem d_Cards_trickSize_6 : decode prog_2_method_9_code 6 = .ok (.ireturn, 1) := by decide +kernel
noncomputable def f_Cards_trickSize (e : Nat) (M : gMem) : Option Int32 :=
  some (gRem (M e 1 3) 4)
theorem t_Cards_trickSize {l : Launch} {ε : gEnv} (e : Nat) (hC : gCd ε e) (M : gMem) (r : Int32) (h : f_Cards_trickSize e M = some r) : gGo l ε k_Cards_trickSize (gR 0 0) (gFn ε (some (.int r)) M) 0 [(0, .ref (ε.2.2.1 e 1))] [] M := by
  unfold f_Cards_trickSize at h
  refine g_aload_n d_Cards_trickSize_0 rfl 0 rfl ?_
  refine g_getI d_Cards_trickSize_1 fl_Cards_30 (gCd_h1 hC) rfl ?_
  refine g_iconst (v := 4) d_Cards_trickSize_4 (by decide) ?_
  refine g_rem d_Cards_trickSize_5 (by decide) ?_
  obtain rfl := Option.some.inj h
  exact g_iret d_Cards_trickSize_6 rfl
theorem ct_Cards_trickSize {l : Launch} {ε : gEnv} (e : Nat) (hC : gCd ε e) (M : gMem) (r : Int32) (h : f_Cards_trickSize e M = some r) : gCt l ε k_Cards_trickSize 0 0 [.ref (ε.2.2.1 e 1)] M (some (.int r)) M :=
  gCt_of (by decide) (Nat.le_of_ble_eq_true rfl) rfl (t_Cards_trickSize e hC M r h)
abbrev k_Cards_inTrick : gMD := (⟨"DropSignals$Cards", "inTrick", "(I)I"⟩, prog_2_method_10_code, 2, (some .int))
theorem w_732 : Cond.instanceMethod ⟨"DropSignals$Cards", "inTrick", "(I)I"⟩ ∈ gWs := gWs_in (i := 732) (by decide +kernel) rfl
theorem w_733 : Cond.selects "DropSignals$Cards" ⟨"DropSignals$Cards", "inTrick", "(I)I"⟩ ⟨"DropSignals$Cards", "inTrick", "(I)I"⟩ ∈ gWs := gWs_in (i := 733) (by decide +kernel) rfl
set_option maxRecDepth 100000 in
theorem ca_Cards_inTrick : gCaV k_Cards_inTrick 1 := ⟨⟨gWs_in (i := 734) rfl rfl, w_36, by decide, by decide, by decide +kernel⟩, w_732, w_733⟩
theorem d_Cards_inTrick_0 : decode prog_2_method_10_code 0 = .ok (.iload_n 1, 1) := by decide +kernel
theorem d_Cards_inTrick_1 : decode prog_2_method_10_code 1 = .ok (.ifCond .lt 32, 3) := by decide +kernel
theorem d_Cards_inTrick_4 : decode prog_2_method_10_code 4 = .ok (.iload_n 1, 1) := by decide +kernel
theorem d_Cards_inTrick_5 : decode prog_2_method_10_code 5 = .ok (.aload_n 0, 1) := by decide +kernel
theorem d_Cards_inTrick_6 : decode prog_2_method_10_code 6 = .ok (.invokevirtual 54, 3) := by decide +kernel
theorem d_Cards_inTrick_9 : decode prog_2_method_10_code 9 = .ok (.if_icmp .ge 24, 3) := by decide +kernel
theorem d_Cards_inTrick_12 : decode prog_2_method_10_code 12 = .ok (.aload_n 0, 1) := by decide +kernel
theorem d_Cards_inTrick_13 : decode prog_2_method_10_code 13 = .ok (.getfield 18, 3) := by decide +kernel
theorem d_Cards_inTrick_16 : decode prog_2_method_10_code 16 = .ok (.aload_n 0, 1) := by decide +kernel
theorem d_Cards_inTrick_17 : decode prog_2_method_10_code 17 = .ok (.getfield 30, 3) := by decide +kernel
theorem d_Cards_inTrick_20 : decode prog_2_method_10_code 20 = .ok (.aload_n 0, 1) := by decide +kernel
theorem d_Cards_inTrick_21 : decode prog_2_method_10_code 21 = .ok (.invokevirtual 54, 3) := by decide +kernel
theorem d_Cards_inTrick_24 : decode prog_2_method_10_code 24 = .ok (.isub, 1) := by decide +kernel
theorem d_Cards_inTrick_25 : decode prog_2_method_10_code 25 = .ok (.iload_n 1, 1) := by decide +kernel
theorem d_Cards_inTrick_26 : decode prog_2_method_10_code 26 = .ok (.iadd, 1) := by decide +kernel
theorem d_Cards_inTrick_27 : decode prog_2_method_10_code 27 = .ok (.invokestatic 50, 3) := by decide +kernel
theorem d_Cards_inTrick_30 : decode prog_2_method_10_code 30 = .ok (.goto 4, 3) := by decide +kernel
theorem d_Cards_inTrick_33 : decode prog_2_method_10_code 33 = .ok (.iconst (-1), 1) := by decide +kernel
theorem d_Cards_inTrick_34 : decode prog_2_method_10_code 34 = .ok (.ireturn, 1) := by decide +kernel
theorem w_735 : Cond.methodLink "DropSignals$Cards" 54 ⟨"DropSignals$Cards", "trickSize", "()I"⟩ ∈ gWs := gWs_in (i := 735) (by decide +kernel) rfl
noncomputable def f_Cards_inTrick (e : Nat) (M : gMem) (a0 : Int32) : Option Int32 :=
  if a0 < 0 then
    some (-1)
  else
    (f_Cards_trickSize e M).bind fun q1 =>
    if q1 ≤ a0 then
      some (-1)
    else
      (f_Cards_trickSize e M).bind fun q2 =>
      (f_DS_at e 7 32 M (((M e 1 3) - q2) + a0)).bind fun q3 =>
      some q3
theorem t_Cards_inTrick {l : Launch} {ε : gEnv} (e : Nat) (hC : gCd ε e) (M : gMem) (a0 : Int32) (r : Int32) (h : f_Cards_inTrick e M a0 = some r) : gGo l ε k_Cards_inTrick (gR 1 21) (gFn ε (some (.int r)) M) 0 [(0, .ref (ε.2.2.1 e 1)), (1, .int a0)] [] M := by
  unfold f_Cards_inTrick at h
  refine g_iload_n d_Cards_inTrick_0 rfl 1 rfl ?_
  refine g_if_lt (tgt := 33) d_Cards_inTrick_1 (by decide) (fun c5 => ?_) (fun c5 => ?_)
  · rw [if_pos c5] at h
    refine g_iconst (v := -1) d_Cards_inTrick_33 (by decide) ?_
    obtain rfl := Option.some.inj h
    exact g_iret d_Cards_inTrick_34 rfl
  · rw [if_neg c5] at h
    refine g_iload_n d_Cards_inTrick_4 rfl 1 rfl ?_
    refine g_aload_n d_Cards_inTrick_5 rfl 0 rfl ?_
    obtain ⟨q1, hq1, h⟩ := gOb h
    refine g_callV_i (As := []) (rest := [.int a0]) (ct_Cards_trickSize e hC M _ hq1) d_Cards_inTrick_6 ca_Cards_trickSize w_735 (gCd_h1 hC) rfl rfl rfl (Nat.le_of_ble_eq_true rfl) ⟨(Nat.le_of_ble_eq_true rfl), (Nat.le_of_ble_eq_true rfl)⟩ ?_
    refine g_icmp_ge (tgt := 33) d_Cards_inTrick_9 (by decide) (fun c4 => ?_) (fun c4 => ?_)
    · rw [if_pos c4] at h
      refine g_iconst (v := -1) d_Cards_inTrick_33 (by decide) ?_
      obtain rfl := Option.some.inj h
      exact g_iret d_Cards_inTrick_34 rfl
    · rw [if_neg c4] at h
      refine g_aload_n d_Cards_inTrick_12 rfl 0 rfl ?_
      refine g_getR d_Cards_inTrick_13 fl_Cards_18 (gCd_h1 hC) rfl ?_
      refine g_aload_n d_Cards_inTrick_16 rfl 0 rfl ?_
      refine g_getI d_Cards_inTrick_17 fl_Cards_30 (gCd_h1 hC) rfl ?_
      refine g_aload_n d_Cards_inTrick_20 rfl 0 rfl ?_
      obtain ⟨q2, hq2, h⟩ := gOb h
      refine g_callV_i (As := []) (rest := [.int (M e 1 3), .ref (ε.2.2.1 e 7)]) (ct_Cards_trickSize e hC M _ hq2) d_Cards_inTrick_21 ca_Cards_trickSize w_735 (gCd_h1 hC) rfl rfl rfl (Nat.le_of_ble_eq_true rfl) ⟨(Nat.le_of_ble_eq_true rfl), (Nat.le_of_ble_eq_true rfl)⟩ ?_
      refine g_isub d_Cards_inTrick_24 ?_
      refine g_iload_n d_Cards_inTrick_25 rfl 1 rfl ?_
      refine g_iadd d_Cards_inTrick_26 ?_
      obtain ⟨q3, hq3, h⟩ := gOb h
      refine g_callN_i (As := [.ref (ε.2.2.1 e 7), .int (((M e 1 3) - q2) + a0)]) (rest := []) (j := 373) (host := "DropSignals") (ct_DS_at e 7 32 (gCd_h7 hC) M (((M e 1 3) - q2) + a0) _ hq3) d_Cards_inTrick_27 ca_DS_at (by decide +kernel) rfl rfl (Nat.le_of_ble_eq_true rfl) ⟨(Nat.le_of_ble_eq_true rfl), (Nat.le_of_ble_eq_true rfl)⟩ ?_
      refine g_goto (tgt := 34) d_Cards_inTrick_30 (by decide) ?_
      obtain rfl := Option.some.inj h
      exact g_iret d_Cards_inTrick_34 rfl
theorem ct_Cards_inTrick {l : Launch} {ε : gEnv} (e : Nat) (hC : gCd ε e) (M : gMem) (a0 : Int32) (r : Int32) (h : f_Cards_inTrick e M a0 = some r) : gCt l ε k_Cards_inTrick 1 21 [.ref (ε.2.2.1 e 1), .int a0] M (some (.int r)) M :=
  gCt_of (by decide) (Nat.le_of_ble_eq_true rfl) rfl (t_Cards_inTrick e hC M a0 r h)
abbrev k_Cards_ledSuit : gMD := (⟨"DropSignals$Cards", "ledSuit", "()I"⟩, prog_2_method_11_code, 2, (some .int))
theorem w_387 : Cond.instanceMethod ⟨"DropSignals$Cards", "ledSuit", "()I"⟩ ∈ gWs := gWs_in (i := 387) (by decide +kernel) rfl
theorem w_388 : Cond.selects "DropSignals$Cards" ⟨"DropSignals$Cards", "ledSuit", "()I"⟩ ⟨"DropSignals$Cards", "ledSuit", "()I"⟩ ∈ gWs := gWs_in (i := 388) (by decide +kernel) rfl
set_option maxRecDepth 100000 in
theorem ca_Cards_ledSuit : gCaV k_Cards_ledSuit 0 := ⟨⟨gWs_in (i := 389) rfl rfl, w_36, by decide, by decide, by decide +kernel⟩, w_387, w_388⟩
theorem d_Cards_ledSuit_0 : decode prog_2_method_11_code 0 = .ok (.aload_n 0, 1) := by decide +kernel
theorem d_Cards_ledSuit_1 : decode prog_2_method_11_code 1 = .ok (.getfield 30, 3) := by decide +kernel
theorem d_Cards_ledSuit_4 : decode prog_2_method_11_code 4 = .ok (.iconst 4, 1) := by decide +kernel
theorem d_Cards_ledSuit_5 : decode prog_2_method_11_code 5 = .ok (.irem, 1) := by decide +kernel
theorem d_Cards_ledSuit_6 : decode prog_2_method_11_code 6 = .ok (.istore_n 1, 1) := by decide +kernel
theorem d_Cards_ledSuit_7 : decode prog_2_method_11_code 7 = .ok (.iload_n 1, 1) := by decide +kernel
theorem d_Cards_ledSuit_8 : decode prog_2_method_11_code 8 = .ok (.ifCond .ne 7, 3) := by decide +kernel
theorem d_Cards_ledSuit_11 : decode prog_2_method_11_code 11 = .ok (.iconst (-1), 1) := by decide +kernel
theorem d_Cards_ledSuit_12 : decode prog_2_method_11_code 12 = .ok (.goto 19, 3) := by decide +kernel
theorem d_Cards_ledSuit_15 : decode prog_2_method_11_code 15 = .ok (.aload_n 0, 1) := by decide +kernel
theorem d_Cards_ledSuit_16 : decode prog_2_method_11_code 16 = .ok (.getfield 18, 3) := by decide +kernel
theorem d_Cards_ledSuit_19 : decode prog_2_method_11_code 19 = .ok (.aload_n 0, 1) := by decide +kernel
theorem d_Cards_ledSuit_20 : decode prog_2_method_11_code 20 = .ok (.getfield 30, 3) := by decide +kernel
theorem d_Cards_ledSuit_23 : decode prog_2_method_11_code 23 = .ok (.iload_n 1, 1) := by decide +kernel
theorem d_Cards_ledSuit_24 : decode prog_2_method_11_code 24 = .ok (.isub, 1) := by decide +kernel
theorem d_Cards_ledSuit_25 : decode prog_2_method_11_code 25 = .ok (.invokestatic 50, 3) := by decide +kernel
theorem d_Cards_ledSuit_28 : decode prog_2_method_11_code 28 = .ok (.bipush 8, 2) := by decide +kernel
theorem d_Cards_ledSuit_30 : decode prog_2_method_11_code 30 = .ok (.idiv, 1) := by decide +kernel
theorem d_Cards_ledSuit_31 : decode prog_2_method_11_code 31 = .ok (.ireturn, 1) := by decide +kernel
noncomputable def f_Cards_ledSuit (e : Nat) (M : gMem) : Option Int32 :=
  if (gRem (M e 1 3) 4) = 0 then
    some (-1)
  else
    (f_DS_at e 7 32 M ((M e 1 3) - (gRem (M e 1 3) 4))).bind fun q1 =>
    some (q1 / 8)
theorem t_Cards_ledSuit {l : Launch} {ε : gEnv} (e : Nat) (hC : gCd ε e) (M : gMem) (r : Int32) (h : f_Cards_ledSuit e M = some r) : gGo l ε k_Cards_ledSuit (gR 1 21) (gFn ε (some (.int r)) M) 0 [(0, .ref (ε.2.2.1 e 1))] [] M := by
  unfold f_Cards_ledSuit at h
  refine g_aload_n d_Cards_ledSuit_0 rfl 0 rfl ?_
  refine g_getI d_Cards_ledSuit_1 fl_Cards_30 (gCd_h1 hC) rfl ?_
  refine g_iconst (v := 4) d_Cards_ledSuit_4 (by decide) ?_
  refine g_rem d_Cards_ledSuit_5 (by decide) ?_
  refine g_istore_n (L' := [(1, .int (gRem (M e 1 3) 4)), (0, .ref (ε.2.2.1 e 1))]) d_Cards_ledSuit_6 rfl (by decide) rfl ?_
  refine g_iload_n d_Cards_ledSuit_7 rfl 0 rfl ?_
  refine g_if_ne (tgt := 15) d_Cards_ledSuit_8 (by decide) (fun c2 => ?_) (fun c2 => ?_)
  · rw [if_neg c2] at h
    refine g_aload_n d_Cards_ledSuit_15 rfl 1 rfl ?_
    refine g_getR d_Cards_ledSuit_16 fl_Cards_18 (gCd_h1 hC) rfl ?_
    refine g_aload_n d_Cards_ledSuit_19 rfl 1 rfl ?_
    refine g_getI d_Cards_ledSuit_20 fl_Cards_30 (gCd_h1 hC) rfl ?_
    refine g_iload_n d_Cards_ledSuit_23 rfl 0 rfl ?_
    refine g_isub d_Cards_ledSuit_24 ?_
    obtain ⟨q1, hq1, h⟩ := gOb h
    refine g_callN_i (As := [.ref (ε.2.2.1 e 7), .int ((M e 1 3) - (gRem (M e 1 3) 4))]) (rest := []) (j := 373) (host := "DropSignals") (ct_DS_at e 7 32 (gCd_h7 hC) M ((M e 1 3) - (gRem (M e 1 3) 4)) _ hq1) d_Cards_ledSuit_25 ca_DS_at (by decide +kernel) rfl rfl (Nat.le_of_ble_eq_true rfl) ⟨(Nat.le_of_ble_eq_true rfl), (Nat.le_of_ble_eq_true rfl)⟩ ?_
    refine g_bipush (v := 8) d_Cards_ledSuit_28 (by decide) ?_
    refine g_idiv d_Cards_ledSuit_30 (by decide) ?_
    obtain rfl := Option.some.inj h
    exact g_iret d_Cards_ledSuit_31 rfl
  · rw [if_pos c2] at h
    refine g_iconst (v := -1) d_Cards_ledSuit_11 (by decide) ?_
    refine g_goto (tgt := 31) d_Cards_ledSuit_12 (by decide) ?_
    obtain rfl := Option.some.inj h
    exact g_iret d_Cards_ledSuit_31 rfl
theorem ct_Cards_ledSuit {l : Launch} {ε : gEnv} (e : Nat) (hC : gCd ε e) (M : gMem) (r : Int32) (h : f_Cards_ledSuit e M = some r) : gCt l ε k_Cards_ledSuit 1 21 [.ref (ε.2.2.1 e 1)] M (some (.int r)) M :=
  gCt_of (by decide) (Nat.le_of_ble_eq_true rfl) rfl (t_Cards_ledSuit e hC M r h)
abbrev k_Cards_dealt : gMD := (⟨"DropSignals$Cards", "dealt", "(II)I"⟩, prog_2_method_12_code, 5, (some .int))
theorem w_412 : Cond.instanceMethod ⟨"DropSignals$Cards", "dealt", "(II)I"⟩ ∈ gWs := gWs_in (i := 412) (by decide +kernel) rfl
theorem w_413 : Cond.selects "DropSignals$Cards" ⟨"DropSignals$Cards", "dealt", "(II)I"⟩ ⟨"DropSignals$Cards", "dealt", "(II)I"⟩ ∈ gWs := gWs_in (i := 413) (by decide +kernel) rfl
set_option maxRecDepth 100000 in
theorem ca_Cards_dealt : gCaV k_Cards_dealt 2 := ⟨⟨gWs_in (i := 414) rfl rfl, w_36, by decide, by decide, by decide +kernel⟩, w_412, w_413⟩
theorem d_Cards_dealt_0 : decode prog_2_method_12_code 0 = .ok (.iconst 0, 1) := by decide +kernel
theorem d_Cards_dealt_1 : decode prog_2_method_12_code 1 = .ok (.istore_n 3, 1) := by decide +kernel
theorem d_Cards_dealt_2 : decode prog_2_method_12_code 2 = .ok (.iconst 0, 1) := by decide +kernel
theorem d_Cards_dealt_3 : decode prog_2_method_12_code 3 = .ok (.istore 4, 2) := by decide +kernel
theorem d_Cards_dealt_5 : decode prog_2_method_12_code 5 = .ok (.iload 4, 2) := by decide +kernel
theorem d_Cards_dealt_7 : decode prog_2_method_12_code 7 = .ok (.bipush 8, 2) := by decide +kernel
theorem d_Cards_dealt_9 : decode prog_2_method_12_code 9 = .ok (.if_icmp .ge 27, 3) := by decide +kernel
theorem d_Cards_dealt_12 : decode prog_2_method_12_code 12 = .ok (.aload_n 0, 1) := by decide +kernel
theorem d_Cards_dealt_13 : decode prog_2_method_12_code 13 = .ok (.iload_n 2, 1) := by decide +kernel
theorem d_Cards_dealt_14 : decode prog_2_method_12_code 14 = .ok (.bipush 8, 2) := by decide +kernel
theorem d_Cards_dealt_16 : decode prog_2_method_12_code 16 = .ok (.imul, 1) := by decide +kernel
theorem d_Cards_dealt_17 : decode prog_2_method_12_code 17 = .ok (.iload 4, 2) := by decide +kernel
theorem d_Cards_dealt_19 : decode prog_2_method_12_code 19 = .ok (.iadd, 1) := by decide +kernel
theorem d_Cards_dealt_20 : decode prog_2_method_12_code 20 = .ok (.invokevirtual 58, 3) := by decide +kernel
theorem d_Cards_dealt_23 : decode prog_2_method_12_code 23 = .ok (.iload_n 1, 1) := by decide +kernel
theorem d_Cards_dealt_24 : decode prog_2_method_12_code 24 = .ok (.if_icmp .ne 6, 3) := by decide +kernel
theorem d_Cards_dealt_27 : decode prog_2_method_12_code 27 = .ok (.iinc 3 1, 3) := by decide +kernel
theorem d_Cards_dealt_30 : decode prog_2_method_12_code 30 = .ok (.iinc 4 1, 3) := by decide +kernel
theorem d_Cards_dealt_33 : decode prog_2_method_12_code 33 = .ok (.goto (-28), 3) := by decide +kernel
theorem d_Cards_dealt_36 : decode prog_2_method_12_code 36 = .ok (.iload_n 3, 1) := by decide +kernel
theorem d_Cards_dealt_37 : decode prog_2_method_12_code 37 = .ok (.ireturn, 1) := by decide +kernel
theorem w_415 : Cond.methodLink "DropSignals$Cards" 58 ⟨"DropSignals$Cards", "dealtTo", "(I)I"⟩ ∈ gWs := gWs_in (i := 415) (by decide +kernel) rfl
noncomputable def f_Cards_dealt_b30 (e : Nat) (M : gMem) (x1 : Int32) (x2 : Int32) (x3 : Int32) (x4 : Int32) : Option ((Int32 × Int32) ⊕ Int32) :=
  some (.inl (x3, (x4 + 1)))
theorem t_Cards_dealt_b30 {l : Launch} {ε : gEnv} (e : Nat) (hC : gCd ε e) (M : gMem) (x1 : Int32) (x2 : Int32) (x3 : Int32) (x4 : Int32) (res : ((Int32 × Int32) ⊕ Int32)) (h : f_Cards_dealt_b30 e M x1 x2 x3 x4 = some res) (r : Int32) (k1 : ∀ s0 : (Int32 × Int32), res = .inl s0 → gGo l ε k_Cards_dealt (gR 1 21) (gFn ε (some (.int r)) M) 5 [(0, .ref (ε.2.2.1 e 1)), (1, .int x1), (2, .int x2), (3, .int s0.1), (4, .int s0.2)] [] M) (k2 : ∀ r', res = .inr r' → r' = r) : gGo l ε k_Cards_dealt (gR 1 21) (gFn ε (some (.int r)) M) 30 [(0, .ref (ε.2.2.1 e 1)), (1, .int x1), (2, .int x2), (3, .int x3), (4, .int x4)] [] M := by
  unfold f_Cards_dealt_b30 at h
  refine g_iinc (v := (x4 + 1)) (L' := [(4, .int (x4 + 1)), (0, .ref (ε.2.2.1 e 1)), (1, .int x1), (2, .int x2), (3, .int x3)]) d_Cards_dealt_30 (j := 4) rfl rfl (by decide) rfl ?_
  refine g_goto (tgt := 5) d_Cards_dealt_33 (by decide) ?_
  refine gGo_sub [1, 2, 3, 4, 0] rfl ?_
  obtain rfl := Option.some.inj h
  exact k1 _ rfl
noncomputable def f_Cards_dealt_s5 (e : Nat) (M : gMem) (x1 : Int32) (x2 : Int32) (x3 : Int32) (x4 : Int32) : Option ((Int32 × Int32) ⊕ Int32) :=
  if 8 ≤ x4 then
    some (.inr x3)
  else
    (f_Cards_dealtTo e M ((x2 * 8) + x4)).bind fun q1 =>
    if q1 = x1 then
      f_Cards_dealt_b30 e M x1 x2 (x3 + 1) x4
    else
      f_Cards_dealt_b30 e M x1 x2 x3 x4
theorem t_Cards_dealt_s5 {l : Launch} {ε : gEnv} (e : Nat) (hC : gCd ε e) (M : gMem) (x1 : Int32) (x2 : Int32) (x3 : Int32) (x4 : Int32) (res : ((Int32 × Int32) ⊕ Int32)) (h : f_Cards_dealt_s5 e M x1 x2 x3 x4 = some res) (r : Int32) (k1 : ∀ s0 : (Int32 × Int32), res = .inl s0 → gGo l ε k_Cards_dealt (gR 1 21) (gFn ε (some (.int r)) M) 5 [(0, .ref (ε.2.2.1 e 1)), (1, .int x1), (2, .int x2), (3, .int s0.1), (4, .int s0.2)] [] M) (k2 : ∀ r', res = .inr r' → r' = r) : gGo l ε k_Cards_dealt (gR 1 21) (gFn ε (some (.int r)) M) 5 [(0, .ref (ε.2.2.1 e 1)), (1, .int x1), (2, .int x2), (3, .int x3), (4, .int x4)] [] M := by
  unfold f_Cards_dealt_s5 at h
  refine g_iload d_Cards_dealt_5 4 rfl ?_
  refine g_bipush (v := 8) d_Cards_dealt_7 (by decide) ?_
  refine g_icmp_ge (tgt := 36) d_Cards_dealt_9 (by decide) (fun c3 => ?_) (fun c3 => ?_)
  · rw [if_pos c3] at h
    refine g_iload_n d_Cards_dealt_36 rfl 3 rfl ?_
    obtain rfl := Option.some.inj h
    have e9 := k2 _ rfl
    subst e9
    exact g_iret d_Cards_dealt_37 rfl
  · rw [if_neg c3] at h
    refine g_aload_n d_Cards_dealt_12 rfl 0 rfl ?_
    refine g_iload_n d_Cards_dealt_13 rfl 2 rfl ?_
    refine g_bipush (v := 8) d_Cards_dealt_14 (by decide) ?_
    refine g_imul d_Cards_dealt_16 ?_
    refine g_iload d_Cards_dealt_17 4 rfl ?_
    refine g_iadd d_Cards_dealt_19 ?_
    obtain ⟨q1, hq1, h⟩ := gOb h
    refine g_callV_i (As := [.int ((x2 * 8) + x4)]) (rest := []) (ct_Cards_dealtTo e hC M ((x2 * 8) + x4) _ hq1) d_Cards_dealt_20 ca_Cards_dealtTo w_415 (gCd_h1 hC) rfl rfl rfl (Nat.le_of_ble_eq_true rfl) ⟨(Nat.le_of_ble_eq_true rfl), (Nat.le_of_ble_eq_true rfl)⟩ ?_
    refine g_iload_n d_Cards_dealt_23 rfl 1 rfl ?_
    refine g_icmp_ne (tgt := 30) d_Cards_dealt_24 (by decide) (fun c2 => ?_) (fun c2 => ?_)
    · rw [if_neg c2] at h
      exact t_Cards_dealt_b30 e hC M x1 x2 x3 x4 _ h r k1 k2
    · rw [if_pos c2] at h
      refine g_iinc (v := (x3 + 1)) (L' := [(3, .int (x3 + 1)), (0, .ref (ε.2.2.1 e 1)), (1, .int x1), (2, .int x2), (4, .int x4)]) d_Cards_dealt_27 (j := 3) rfl rfl (by decide) rfl ?_
      refine gGo_sub [1, 2, 3, 0, 4] rfl ?_
      exact t_Cards_dealt_b30 e hC M x1 x2 (x3 + 1) x4 _ h r k1 k2
noncomputable def f_Cards_dealt_l5 (e : Nat) (M : gMem) (x1 : Int32) (x2 : Int32) (s : (Int32 × Int32)) : Option Int32 := gLp (fun s => f_Cards_dealt_s5 e M x1 x2 s.1 s.2) s
theorem t_Cards_dealt_l5 {l : Launch} {ε : gEnv} (e : Nat) (hC : gCd ε e) (M : gMem) (x1 : Int32) (x2 : Int32) (s : (Int32 × Int32)) (r : Int32) (h : f_Cards_dealt_l5 e M x1 x2 s = some r) : gGo l ε k_Cards_dealt (gR 1 21) (gFn ε (some (.int r)) M) 5 [(0, .ref (ε.2.2.1 e 1)), (1, .int x1), (2, .int x2), (3, .int s.1), (4, .int s.2)] [] M :=
  g_loop _ (fun r s => gGo l ε k_Cards_dealt (gR 1 21) (gFn ε (some (.int r)) M) 5 [(0, .ref (ε.2.2.1 e 1)), (1, .int x1), (2, .int x2), (3, .int s.1), (4, .int s.2)] [] M) (fun s res h r k1 k2 => t_Cards_dealt_s5 e hC M x1 x2 s.1 s.2 res h r k1 k2) s r h
noncomputable def f_Cards_dealt (e : Nat) (M : gMem) (a0 : Int32) (a1 : Int32) : Option Int32 :=
  f_Cards_dealt_l5 e M a0 a1 (0, 0)
theorem t_Cards_dealt {l : Launch} {ε : gEnv} (e : Nat) (hC : gCd ε e) (M : gMem) (a0 : Int32) (a1 : Int32) (r : Int32) (h : f_Cards_dealt e M a0 a1 = some r) : gGo l ε k_Cards_dealt (gR 1 21) (gFn ε (some (.int r)) M) 0 [(0, .ref (ε.2.2.1 e 1)), (1, .int a0), (2, .int a1)] [] M := by
  unfold f_Cards_dealt at h
  refine g_iconst (v := 0) d_Cards_dealt_0 (by decide) ?_
  refine g_istore_n (L' := [(3, .int 0), (0, .ref (ε.2.2.1 e 1)), (1, .int a0), (2, .int a1)]) d_Cards_dealt_1 rfl (by decide) rfl ?_
  refine g_iconst (v := 0) d_Cards_dealt_2 (by decide) ?_
  refine g_istore (L' := [(4, .int 0), (3, .int 0), (0, .ref (ε.2.2.1 e 1)), (1, .int a0), (2, .int a1)]) d_Cards_dealt_3 (by decide) rfl ?_
  refine gGo_sub [2, 3, 4, 1, 0] rfl ?_
  exact t_Cards_dealt_l5 e hC M a0 a1 (0, 0) _ h
theorem ct_Cards_dealt {l : Launch} {ε : gEnv} (e : Nat) (hC : gCd ε e) (M : gMem) (a0 : Int32) (a1 : Int32) (r : Int32) (h : f_Cards_dealt e M a0 a1 = some r) : gCt l ε k_Cards_dealt 1 21 [.ref (ε.2.2.1 e 1), .int a0, .int a1] M (some (.int r)) M :=
  gCt_of (by decide) (Nat.le_of_ble_eq_true rfl) rfl (t_Cards_dealt e hC M a0 a1 r h)
abbrev k_Cards_held : gMD := (⟨"DropSignals$Cards", "held", "(II)I"⟩, prog_2_method_13_code, 5, (some .int))
theorem w_391 : Cond.instanceMethod ⟨"DropSignals$Cards", "held", "(II)I"⟩ ∈ gWs := gWs_in (i := 391) (by decide +kernel) rfl
theorem w_392 : Cond.selects "DropSignals$Cards" ⟨"DropSignals$Cards", "held", "(II)I"⟩ ⟨"DropSignals$Cards", "held", "(II)I"⟩ ∈ gWs := gWs_in (i := 392) (by decide +kernel) rfl
set_option maxRecDepth 100000 in
theorem ca_Cards_held : gCaV k_Cards_held 2 := ⟨⟨gWs_in (i := 393) rfl rfl, w_36, by decide, by decide, by decide +kernel⟩, w_391, w_392⟩
theorem d_Cards_held_0 : decode prog_2_method_13_code 0 = .ok (.iconst 0, 1) := by decide +kernel
theorem d_Cards_held_1 : decode prog_2_method_13_code 1 = .ok (.istore_n 3, 1) := by decide +kernel
theorem d_Cards_held_2 : decode prog_2_method_13_code 2 = .ok (.iconst 0, 1) := by decide +kernel
theorem d_Cards_held_3 : decode prog_2_method_13_code 3 = .ok (.istore 4, 2) := by decide +kernel
theorem d_Cards_held_5 : decode prog_2_method_13_code 5 = .ok (.iload 4, 2) := by decide +kernel
theorem d_Cards_held_7 : decode prog_2_method_13_code 7 = .ok (.bipush 8, 2) := by decide +kernel
theorem d_Cards_held_9 : decode prog_2_method_13_code 9 = .ok (.if_icmp .ge 27, 3) := by decide +kernel
theorem d_Cards_held_12 : decode prog_2_method_13_code 12 = .ok (.aload_n 0, 1) := by decide +kernel
theorem d_Cards_held_13 : decode prog_2_method_13_code 13 = .ok (.iload_n 2, 1) := by decide +kernel
theorem d_Cards_held_14 : decode prog_2_method_13_code 14 = .ok (.bipush 8, 2) := by decide +kernel
theorem d_Cards_held_16 : decode prog_2_method_13_code 16 = .ok (.imul, 1) := by decide +kernel
theorem d_Cards_held_17 : decode prog_2_method_13_code 17 = .ok (.iload 4, 2) := by decide +kernel
theorem d_Cards_held_19 : decode prog_2_method_13_code 19 = .ok (.iadd, 1) := by decide +kernel
theorem d_Cards_held_20 : decode prog_2_method_13_code 20 = .ok (.invokevirtual 62, 3) := by decide +kernel
theorem d_Cards_held_23 : decode prog_2_method_13_code 23 = .ok (.iload_n 1, 1) := by decide +kernel
theorem d_Cards_held_24 : decode prog_2_method_13_code 24 = .ok (.if_icmp .ne 6, 3) := by decide +kernel
theorem d_Cards_held_27 : decode prog_2_method_13_code 27 = .ok (.iinc 3 1, 3) := by decide +kernel
theorem d_Cards_held_30 : decode prog_2_method_13_code 30 = .ok (.iinc 4 1, 3) := by decide +kernel
theorem d_Cards_held_33 : decode prog_2_method_13_code 33 = .ok (.goto (-28), 3) := by decide +kernel
theorem d_Cards_held_36 : decode prog_2_method_13_code 36 = .ok (.iload_n 3, 1) := by decide +kernel
theorem d_Cards_held_37 : decode prog_2_method_13_code 37 = .ok (.ireturn, 1) := by decide +kernel
theorem w_394 : Cond.methodLink "DropSignals$Cards" 62 ⟨"DropSignals$Cards", "holder", "(I)I"⟩ ∈ gWs := gWs_in (i := 394) (by decide +kernel) rfl
noncomputable def f_Cards_held_b30 (e : Nat) (M : gMem) (x1 : Int32) (x2 : Int32) (x3 : Int32) (x4 : Int32) : Option ((Int32 × Int32) ⊕ Int32) :=
  some (.inl (x3, (x4 + 1)))
theorem t_Cards_held_b30 {l : Launch} {ε : gEnv} (e : Nat) (hC : gCd ε e) (M : gMem) (x1 : Int32) (x2 : Int32) (x3 : Int32) (x4 : Int32) (res : ((Int32 × Int32) ⊕ Int32)) (h : f_Cards_held_b30 e M x1 x2 x3 x4 = some res) (r : Int32) (k1 : ∀ s0 : (Int32 × Int32), res = .inl s0 → gGo l ε k_Cards_held (gR 1 21) (gFn ε (some (.int r)) M) 5 [(0, .ref (ε.2.2.1 e 1)), (1, .int x1), (2, .int x2), (3, .int s0.1), (4, .int s0.2)] [] M) (k2 : ∀ r', res = .inr r' → r' = r) : gGo l ε k_Cards_held (gR 1 21) (gFn ε (some (.int r)) M) 30 [(0, .ref (ε.2.2.1 e 1)), (1, .int x1), (2, .int x2), (3, .int x3), (4, .int x4)] [] M := by
  unfold f_Cards_held_b30 at h
  refine g_iinc (v := (x4 + 1)) (L' := [(4, .int (x4 + 1)), (0, .ref (ε.2.2.1 e 1)), (1, .int x1), (2, .int x2), (3, .int x3)]) d_Cards_held_30 (j := 4) rfl rfl (by decide) rfl ?_
  refine g_goto (tgt := 5) d_Cards_held_33 (by decide) ?_
  refine gGo_sub [1, 2, 3, 4, 0] rfl ?_
  obtain rfl := Option.some.inj h
  exact k1 _ rfl
noncomputable def f_Cards_held_s5 (e : Nat) (M : gMem) (x1 : Int32) (x2 : Int32) (x3 : Int32) (x4 : Int32) : Option ((Int32 × Int32) ⊕ Int32) :=
  if 8 ≤ x4 then
    some (.inr x3)
  else
    (f_Cards_holder e M ((x2 * 8) + x4)).bind fun q1 =>
    if q1 = x1 then
      f_Cards_held_b30 e M x1 x2 (x3 + 1) x4
    else
      f_Cards_held_b30 e M x1 x2 x3 x4
theorem t_Cards_held_s5 {l : Launch} {ε : gEnv} (e : Nat) (hC : gCd ε e) (M : gMem) (x1 : Int32) (x2 : Int32) (x3 : Int32) (x4 : Int32) (res : ((Int32 × Int32) ⊕ Int32)) (h : f_Cards_held_s5 e M x1 x2 x3 x4 = some res) (r : Int32) (k1 : ∀ s0 : (Int32 × Int32), res = .inl s0 → gGo l ε k_Cards_held (gR 1 21) (gFn ε (some (.int r)) M) 5 [(0, .ref (ε.2.2.1 e 1)), (1, .int x1), (2, .int x2), (3, .int s0.1), (4, .int s0.2)] [] M) (k2 : ∀ r', res = .inr r' → r' = r) : gGo l ε k_Cards_held (gR 1 21) (gFn ε (some (.int r)) M) 5 [(0, .ref (ε.2.2.1 e 1)), (1, .int x1), (2, .int x2), (3, .int x3), (4, .int x4)] [] M := by
  unfold f_Cards_held_s5 at h
  refine g_iload d_Cards_held_5 4 rfl ?_
  refine g_bipush (v := 8) d_Cards_held_7 (by decide) ?_
  refine g_icmp_ge (tgt := 36) d_Cards_held_9 (by decide) (fun c3 => ?_) (fun c3 => ?_)
  · rw [if_pos c3] at h
    refine g_iload_n d_Cards_held_36 rfl 3 rfl ?_
    obtain rfl := Option.some.inj h
    have e9 := k2 _ rfl
    subst e9
    exact g_iret d_Cards_held_37 rfl
  · rw [if_neg c3] at h
    refine g_aload_n d_Cards_held_12 rfl 0 rfl ?_
    refine g_iload_n d_Cards_held_13 rfl 2 rfl ?_
    refine g_bipush (v := 8) d_Cards_held_14 (by decide) ?_
    refine g_imul d_Cards_held_16 ?_
    refine g_iload d_Cards_held_17 4 rfl ?_
    refine g_iadd d_Cards_held_19 ?_
    obtain ⟨q1, hq1, h⟩ := gOb h
    refine g_callV_i (As := [.int ((x2 * 8) + x4)]) (rest := []) (ct_Cards_holder e hC M ((x2 * 8) + x4) _ hq1) d_Cards_held_20 ca_Cards_holder w_394 (gCd_h1 hC) rfl rfl rfl (Nat.le_of_ble_eq_true rfl) ⟨(Nat.le_of_ble_eq_true rfl), (Nat.le_of_ble_eq_true rfl)⟩ ?_
    refine g_iload_n d_Cards_held_23 rfl 1 rfl ?_
    refine g_icmp_ne (tgt := 30) d_Cards_held_24 (by decide) (fun c2 => ?_) (fun c2 => ?_)
    · rw [if_neg c2] at h
      exact t_Cards_held_b30 e hC M x1 x2 x3 x4 _ h r k1 k2
    · rw [if_pos c2] at h
      refine g_iinc (v := (x3 + 1)) (L' := [(3, .int (x3 + 1)), (0, .ref (ε.2.2.1 e 1)), (1, .int x1), (2, .int x2), (4, .int x4)]) d_Cards_held_27 (j := 3) rfl rfl (by decide) rfl ?_
      refine gGo_sub [1, 2, 3, 0, 4] rfl ?_
      exact t_Cards_held_b30 e hC M x1 x2 (x3 + 1) x4 _ h r k1 k2
noncomputable def f_Cards_held_l5 (e : Nat) (M : gMem) (x1 : Int32) (x2 : Int32) (s : (Int32 × Int32)) : Option Int32 := gLp (fun s => f_Cards_held_s5 e M x1 x2 s.1 s.2) s
theorem t_Cards_held_l5 {l : Launch} {ε : gEnv} (e : Nat) (hC : gCd ε e) (M : gMem) (x1 : Int32) (x2 : Int32) (s : (Int32 × Int32)) (r : Int32) (h : f_Cards_held_l5 e M x1 x2 s = some r) : gGo l ε k_Cards_held (gR 1 21) (gFn ε (some (.int r)) M) 5 [(0, .ref (ε.2.2.1 e 1)), (1, .int x1), (2, .int x2), (3, .int s.1), (4, .int s.2)] [] M :=
  g_loop _ (fun r s => gGo l ε k_Cards_held (gR 1 21) (gFn ε (some (.int r)) M) 5 [(0, .ref (ε.2.2.1 e 1)), (1, .int x1), (2, .int x2), (3, .int s.1), (4, .int s.2)] [] M) (fun s res h r k1 k2 => t_Cards_held_s5 e hC M x1 x2 s.1 s.2 res h r k1 k2) s r h
noncomputable def f_Cards_held (e : Nat) (M : gMem) (a0 : Int32) (a1 : Int32) : Option Int32 :=
  f_Cards_held_l5 e M a0 a1 (0, 0)
theorem t_Cards_held {l : Launch} {ε : gEnv} (e : Nat) (hC : gCd ε e) (M : gMem) (a0 : Int32) (a1 : Int32) (r : Int32) (h : f_Cards_held e M a0 a1 = some r) : gGo l ε k_Cards_held (gR 1 21) (gFn ε (some (.int r)) M) 0 [(0, .ref (ε.2.2.1 e 1)), (1, .int a0), (2, .int a1)] [] M := by
  unfold f_Cards_held at h
  refine g_iconst (v := 0) d_Cards_held_0 (by decide) ?_
  refine g_istore_n (L' := [(3, .int 0), (0, .ref (ε.2.2.1 e 1)), (1, .int a0), (2, .int a1)]) d_Cards_held_1 rfl (by decide) rfl ?_
  refine g_iconst (v := 0) d_Cards_held_2 (by decide) ?_
  refine g_istore (L' := [(4, .int 0), (3, .int 0), (0, .ref (ε.2.2.1 e 1)), (1, .int a0), (2, .int a1)]) d_Cards_held_3 (by decide) rfl ?_
  refine gGo_sub [2, 3, 4, 1, 0] rfl ?_
  exact t_Cards_held_l5 e hC M a0 a1 (0, 0) _ h
theorem ct_Cards_held {l : Launch} {ε : gEnv} (e : Nat) (hC : gCd ε e) (M : gMem) (a0 : Int32) (a1 : Int32) (r : Int32) (h : f_Cards_held e M a0 a1 = some r) : gCt l ε k_Cards_held 1 21 [.ref (ε.2.2.1 e 1), .int a0, .int a1] M (some (.int r)) M :=
  gCt_of (by decide) (Nat.le_of_ble_eq_true rfl) rfl (t_Cards_held e hC M a0 a1 r h)
abbrev k_Cards_handSize : gMD := (⟨"DropSignals$Cards", "handSize", "(I)I"⟩, prog_2_method_14_code, 4, (some .int))
theorem w_817 : Cond.instanceMethod ⟨"DropSignals$Cards", "handSize", "(I)I"⟩ ∈ gWs := gWs_in (i := 817) (by decide +kernel) rfl
theorem w_818 : Cond.selects "DropSignals$Cards" ⟨"DropSignals$Cards", "handSize", "(I)I"⟩ ⟨"DropSignals$Cards", "handSize", "(I)I"⟩ ∈ gWs := gWs_in (i := 818) (by decide +kernel) rfl
set_option maxRecDepth 100000 in
theorem ca_Cards_handSize : gCaV k_Cards_handSize 1 := ⟨⟨gWs_in (i := 819) rfl rfl, w_36, by decide, by decide, by decide +kernel⟩, w_817, w_818⟩
theorem d_Cards_handSize_0 : decode prog_2_method_14_code 0 = .ok (.iconst 0, 1) := by decide +kernel
theorem d_Cards_handSize_1 : decode prog_2_method_14_code 1 = .ok (.istore_n 2, 1) := by decide +kernel
theorem d_Cards_handSize_2 : decode prog_2_method_14_code 2 = .ok (.iconst 0, 1) := by decide +kernel
theorem d_Cards_handSize_3 : decode prog_2_method_14_code 3 = .ok (.istore_n 3, 1) := by decide +kernel
theorem d_Cards_handSize_4 : decode prog_2_method_14_code 4 = .ok (.iload_n 3, 1) := by decide +kernel
theorem d_Cards_handSize_5 : decode prog_2_method_14_code 5 = .ok (.bipush 32, 2) := by decide +kernel
theorem d_Cards_handSize_7 : decode prog_2_method_14_code 7 = .ok (.if_icmp .ge 21, 3) := by decide +kernel
theorem d_Cards_handSize_10 : decode prog_2_method_14_code 10 = .ok (.aload_n 0, 1) := by decide +kernel
theorem d_Cards_handSize_11 : decode prog_2_method_14_code 11 = .ok (.iload_n 3, 1) := by decide +kernel
theorem d_Cards_handSize_12 : decode prog_2_method_14_code 12 = .ok (.invokevirtual 62, 3) := by decide +kernel
theorem d_Cards_handSize_15 : decode prog_2_method_14_code 15 = .ok (.iload_n 1, 1) := by decide +kernel
theorem d_Cards_handSize_16 : decode prog_2_method_14_code 16 = .ok (.if_icmp .ne 6, 3) := by decide +kernel
theorem d_Cards_handSize_19 : decode prog_2_method_14_code 19 = .ok (.iinc 2 1, 3) := by decide +kernel
theorem d_Cards_handSize_22 : decode prog_2_method_14_code 22 = .ok (.iinc 3 1, 3) := by decide +kernel
theorem d_Cards_handSize_25 : decode prog_2_method_14_code 25 = .ok (.goto (-21), 3) := by decide +kernel
theorem d_Cards_handSize_28 : decode prog_2_method_14_code 28 = .ok (.iload_n 2, 1) := by decide +kernel
theorem d_Cards_handSize_29 : decode prog_2_method_14_code 29 = .ok (.ireturn, 1) := by decide +kernel
noncomputable def f_Cards_handSize_b22 (e : Nat) (M : gMem) (x1 : Int32) (x2 : Int32) (x3 : Int32) : Option ((Int32 × Int32) ⊕ Int32) :=
  some (.inl (x2, (x3 + 1)))
theorem t_Cards_handSize_b22 {l : Launch} {ε : gEnv} (e : Nat) (hC : gCd ε e) (M : gMem) (x1 : Int32) (x2 : Int32) (x3 : Int32) (res : ((Int32 × Int32) ⊕ Int32)) (h : f_Cards_handSize_b22 e M x1 x2 x3 = some res) (r : Int32) (k1 : ∀ s0 : (Int32 × Int32), res = .inl s0 → gGo l ε k_Cards_handSize (gR 1 21) (gFn ε (some (.int r)) M) 4 [(0, .ref (ε.2.2.1 e 1)), (1, .int x1), (2, .int s0.1), (3, .int s0.2)] [] M) (k2 : ∀ r', res = .inr r' → r' = r) : gGo l ε k_Cards_handSize (gR 1 21) (gFn ε (some (.int r)) M) 22 [(0, .ref (ε.2.2.1 e 1)), (1, .int x1), (2, .int x2), (3, .int x3)] [] M := by
  unfold f_Cards_handSize_b22 at h
  refine g_iinc (v := (x3 + 1)) (L' := [(3, .int (x3 + 1)), (0, .ref (ε.2.2.1 e 1)), (1, .int x1), (2, .int x2)]) d_Cards_handSize_22 (j := 3) rfl rfl (by decide) rfl ?_
  refine g_goto (tgt := 4) d_Cards_handSize_25 (by decide) ?_
  refine gGo_sub [1, 2, 3, 0] rfl ?_
  obtain rfl := Option.some.inj h
  exact k1 _ rfl
noncomputable def f_Cards_handSize_s4 (e : Nat) (M : gMem) (x1 : Int32) (x2 : Int32) (x3 : Int32) : Option ((Int32 × Int32) ⊕ Int32) :=
  if 32 ≤ x3 then
    some (.inr x2)
  else
    (f_Cards_holder e M x3).bind fun q1 =>
    if q1 = x1 then
      f_Cards_handSize_b22 e M x1 (x2 + 1) x3
    else
      f_Cards_handSize_b22 e M x1 x2 x3
theorem t_Cards_handSize_s4 {l : Launch} {ε : gEnv} (e : Nat) (hC : gCd ε e) (M : gMem) (x1 : Int32) (x2 : Int32) (x3 : Int32) (res : ((Int32 × Int32) ⊕ Int32)) (h : f_Cards_handSize_s4 e M x1 x2 x3 = some res) (r : Int32) (k1 : ∀ s0 : (Int32 × Int32), res = .inl s0 → gGo l ε k_Cards_handSize (gR 1 21) (gFn ε (some (.int r)) M) 4 [(0, .ref (ε.2.2.1 e 1)), (1, .int x1), (2, .int s0.1), (3, .int s0.2)] [] M) (k2 : ∀ r', res = .inr r' → r' = r) : gGo l ε k_Cards_handSize (gR 1 21) (gFn ε (some (.int r)) M) 4 [(0, .ref (ε.2.2.1 e 1)), (1, .int x1), (2, .int x2), (3, .int x3)] [] M := by
  unfold f_Cards_handSize_s4 at h
  refine g_iload_n d_Cards_handSize_4 rfl 3 rfl ?_
  refine g_bipush (v := 32) d_Cards_handSize_5 (by decide) ?_
  refine g_icmp_ge (tgt := 28) d_Cards_handSize_7 (by decide) (fun c3 => ?_) (fun c3 => ?_)
  · rw [if_pos c3] at h
    refine g_iload_n d_Cards_handSize_28 rfl 2 rfl ?_
    obtain rfl := Option.some.inj h
    have e9 := k2 _ rfl
    subst e9
    exact g_iret d_Cards_handSize_29 rfl
  · rw [if_neg c3] at h
    refine g_aload_n d_Cards_handSize_10 rfl 0 rfl ?_
    refine g_iload_n d_Cards_handSize_11 rfl 3 rfl ?_
    obtain ⟨q1, hq1, h⟩ := gOb h
    refine g_callV_i (As := [.int x3]) (rest := []) (ct_Cards_holder e hC M x3 _ hq1) d_Cards_handSize_12 ca_Cards_holder w_394 (gCd_h1 hC) rfl rfl rfl (Nat.le_of_ble_eq_true rfl) ⟨(Nat.le_of_ble_eq_true rfl), (Nat.le_of_ble_eq_true rfl)⟩ ?_
    refine g_iload_n d_Cards_handSize_15 rfl 1 rfl ?_
    refine g_icmp_ne (tgt := 22) d_Cards_handSize_16 (by decide) (fun c2 => ?_) (fun c2 => ?_)
    · rw [if_neg c2] at h
      exact t_Cards_handSize_b22 e hC M x1 x2 x3 _ h r k1 k2
    · rw [if_pos c2] at h
      refine g_iinc (v := (x2 + 1)) (L' := [(2, .int (x2 + 1)), (0, .ref (ε.2.2.1 e 1)), (1, .int x1), (3, .int x3)]) d_Cards_handSize_19 (j := 2) rfl rfl (by decide) rfl ?_
      refine gGo_sub [1, 2, 0, 3] rfl ?_
      exact t_Cards_handSize_b22 e hC M x1 (x2 + 1) x3 _ h r k1 k2
noncomputable def f_Cards_handSize_l4 (e : Nat) (M : gMem) (x1 : Int32) (s : (Int32 × Int32)) : Option Int32 := gLp (fun s => f_Cards_handSize_s4 e M x1 s.1 s.2) s
theorem t_Cards_handSize_l4 {l : Launch} {ε : gEnv} (e : Nat) (hC : gCd ε e) (M : gMem) (x1 : Int32) (s : (Int32 × Int32)) (r : Int32) (h : f_Cards_handSize_l4 e M x1 s = some r) : gGo l ε k_Cards_handSize (gR 1 21) (gFn ε (some (.int r)) M) 4 [(0, .ref (ε.2.2.1 e 1)), (1, .int x1), (2, .int s.1), (3, .int s.2)] [] M :=
  g_loop _ (fun r s => gGo l ε k_Cards_handSize (gR 1 21) (gFn ε (some (.int r)) M) 4 [(0, .ref (ε.2.2.1 e 1)), (1, .int x1), (2, .int s.1), (3, .int s.2)] [] M) (fun s res h r k1 k2 => t_Cards_handSize_s4 e hC M x1 s.1 s.2 res h r k1 k2) s r h
noncomputable def f_Cards_handSize (e : Nat) (M : gMem) (a0 : Int32) : Option Int32 :=
  f_Cards_handSize_l4 e M a0 (0, 0)
theorem t_Cards_handSize {l : Launch} {ε : gEnv} (e : Nat) (hC : gCd ε e) (M : gMem) (a0 : Int32) (r : Int32) (h : f_Cards_handSize e M a0 = some r) : gGo l ε k_Cards_handSize (gR 1 21) (gFn ε (some (.int r)) M) 0 [(0, .ref (ε.2.2.1 e 1)), (1, .int a0)] [] M := by
  unfold f_Cards_handSize at h
  refine g_iconst (v := 0) d_Cards_handSize_0 (by decide) ?_
  refine g_istore_n (L' := [(2, .int 0), (0, .ref (ε.2.2.1 e 1)), (1, .int a0)]) d_Cards_handSize_1 rfl (by decide) rfl ?_
  refine g_iconst (v := 0) d_Cards_handSize_2 (by decide) ?_
  refine g_istore_n (L' := [(3, .int 0), (2, .int 0), (0, .ref (ε.2.2.1 e 1)), (1, .int a0)]) d_Cards_handSize_3 rfl (by decide) rfl ?_
  refine gGo_sub [2, 3, 1, 0] rfl ?_
  exact t_Cards_handSize_l4 e hC M a0 (0, 0) _ h
theorem ct_Cards_handSize {l : Launch} {ε : gEnv} (e : Nat) (hC : gCd ε e) (M : gMem) (a0 : Int32) (r : Int32) (h : f_Cards_handSize e M a0 = some r) : gCt l ε k_Cards_handSize 1 21 [.ref (ε.2.2.1 e 1), .int a0] M (some (.int r)) M :=
  gCt_of (by decide) (Nat.le_of_ble_eq_true rfl) rfl (t_Cards_handSize e hC M a0 r h)
abbrev k_Cards_largestHand : gMD := (⟨"DropSignals$Cards", "largestHand", "()I"⟩, prog_2_method_15_code, 3, (some .int))
theorem w_833 : Cond.instanceMethod ⟨"DropSignals$Cards", "largestHand", "()I"⟩ ∈ gWs := gWs_in (i := 833) (by decide +kernel) rfl
theorem w_834 : Cond.selects "DropSignals$Cards" ⟨"DropSignals$Cards", "largestHand", "()I"⟩ ⟨"DropSignals$Cards", "largestHand", "()I"⟩ ∈ gWs := gWs_in (i := 834) (by decide +kernel) rfl
set_option maxRecDepth 100000 in
theorem ca_Cards_largestHand : gCaV k_Cards_largestHand 0 := ⟨⟨gWs_in (i := 835) rfl rfl, w_36, by decide, by decide, by decide +kernel⟩, w_833, w_834⟩
theorem d_Cards_largestHand_0 : decode prog_2_method_15_code 0 = .ok (.iconst 0, 1) := by decide +kernel
theorem d_Cards_largestHand_1 : decode prog_2_method_15_code 1 = .ok (.istore_n 1, 1) := by decide +kernel
theorem d_Cards_largestHand_2 : decode prog_2_method_15_code 2 = .ok (.iconst 0, 1) := by decide +kernel
theorem d_Cards_largestHand_3 : decode prog_2_method_15_code 3 = .ok (.istore_n 2, 1) := by decide +kernel
theorem d_Cards_largestHand_4 : decode prog_2_method_15_code 4 = .ok (.iload_n 2, 1) := by decide +kernel
theorem d_Cards_largestHand_5 : decode prog_2_method_15_code 5 = .ok (.iconst 4, 1) := by decide +kernel
theorem d_Cards_largestHand_6 : decode prog_2_method_15_code 6 = .ok (.if_icmp .ge 19, 3) := by decide +kernel
theorem d_Cards_largestHand_9 : decode prog_2_method_15_code 9 = .ok (.iload_n 1, 1) := by decide +kernel
theorem d_Cards_largestHand_10 : decode prog_2_method_15_code 10 = .ok (.aload_n 0, 1) := by decide +kernel
theorem d_Cards_largestHand_11 : decode prog_2_method_15_code 11 = .ok (.iload_n 2, 1) := by decide +kernel
theorem d_Cards_largestHand_12 : decode prog_2_method_15_code 12 = .ok (.invokevirtual 65, 3) := by decide +kernel
theorem d_Cards_largestHand_15 : decode prog_2_method_15_code 15 = .ok (.invokestatic 68, 3) := by decide +kernel
theorem d_Cards_largestHand_18 : decode prog_2_method_15_code 18 = .ok (.istore_n 1, 1) := by decide +kernel
theorem d_Cards_largestHand_19 : decode prog_2_method_15_code 19 = .ok (.iinc 2 1, 3) := by decide +kernel
theorem d_Cards_largestHand_22 : decode prog_2_method_15_code 22 = .ok (.goto (-18), 3) := by decide +kernel
theorem d_Cards_largestHand_25 : decode prog_2_method_15_code 25 = .ok (.iload_n 1, 1) := by decide +kernel
theorem d_Cards_largestHand_26 : decode prog_2_method_15_code 26 = .ok (.ireturn, 1) := by decide +kernel
theorem w_836 : Cond.methodLink "DropSignals$Cards" 65 ⟨"DropSignals$Cards", "handSize", "(I)I"⟩ ∈ gWs := gWs_in (i := 836) (by decide +kernel) rfl
theorem w_837 : Cond.methodLink "DropSignals$Cards" 68 Lib.Math.max.name ∈ gWs := gWs_in (i := 837) (by decide +kernel) rfl
theorem w_838 : Cond.static Lib.Math.max.name ∈ gWs := gWs_in (i := 838) (by decide +kernel) rfl
theorem w_839 : Cond.code Lib.Math.max.name Lib.Math.max.code 2 (some .int) ∈ gWs := gWs_in (i := 839) (by decide +kernel) rfl
noncomputable def f_Cards_largestHand_s4 (e : Nat) (M : gMem) (x1 : Int32) (x2 : Int32) : Option ((Int32 × Int32) ⊕ Int32) :=
  if 4 ≤ x2 then
    some (.inr x1)
  else
    (f_Cards_handSize e M x2).bind fun q1 =>
    some (.inl ((if x1 < q1 then q1 else x1), (x2 + 1)))
theorem t_Cards_largestHand_s4 {l : Launch} {ε : gEnv} (e : Nat) (hC : gCd ε e) (M : gMem) (x1 : Int32) (x2 : Int32) (res : ((Int32 × Int32) ⊕ Int32)) (h : f_Cards_largestHand_s4 e M x1 x2 = some res) (r : Int32) (k1 : ∀ s0 : (Int32 × Int32), res = .inl s0 → gGo l ε k_Cards_largestHand (gR 2 44) (gFn ε (some (.int r)) M) 4 [(0, .ref (ε.2.2.1 e 1)), (1, .int s0.1), (2, .int s0.2)] [] M) (k2 : ∀ r', res = .inr r' → r' = r) : gGo l ε k_Cards_largestHand (gR 2 44) (gFn ε (some (.int r)) M) 4 [(0, .ref (ε.2.2.1 e 1)), (1, .int x1), (2, .int x2)] [] M := by
  unfold f_Cards_largestHand_s4 at h
  refine g_iload_n d_Cards_largestHand_4 rfl 2 rfl ?_
  refine g_iconst (v := 4) d_Cards_largestHand_5 (by decide) ?_
  refine g_icmp_ge (tgt := 25) d_Cards_largestHand_6 (by decide) (fun c2 => ?_) (fun c2 => ?_)
  · rw [if_pos c2] at h
    refine g_iload_n d_Cards_largestHand_25 rfl 1 rfl ?_
    obtain rfl := Option.some.inj h
    have e9 := k2 _ rfl
    subst e9
    exact g_iret d_Cards_largestHand_26 rfl
  · rw [if_neg c2] at h
    refine g_iload_n d_Cards_largestHand_9 rfl 1 rfl ?_
    refine g_aload_n d_Cards_largestHand_10 rfl 0 rfl ?_
    refine g_iload_n d_Cards_largestHand_11 rfl 2 rfl ?_
    obtain ⟨q1, hq1, h⟩ := gOb h
    refine g_callV_i (As := [.int x2]) (rest := [.int x1]) (ct_Cards_handSize e hC M x2 _ hq1) d_Cards_largestHand_12 ca_Cards_handSize w_836 (gCd_h1 hC) rfl rfl rfl (Nat.le_of_ble_eq_true rfl) ⟨(Nat.le_of_ble_eq_true rfl), (Nat.le_of_ble_eq_true rfl)⟩ ?_
    refine g_max d_Cards_largestHand_15 w_837 w_838 w_51 w_839 (Nat.le_of_ble_eq_true rfl) (Nat.le_of_ble_eq_true rfl) ?_
    refine g_istore_n (L' := [(1, .int (if x1 < q1 then q1 else x1)), (0, .ref (ε.2.2.1 e 1)), (2, .int x2)]) d_Cards_largestHand_18 rfl (by decide) rfl ?_
    refine g_iinc (v := (x2 + 1)) (L' := [(2, .int (x2 + 1)), (1, .int (if x1 < q1 then q1 else x1)), (0, .ref (ε.2.2.1 e 1))]) d_Cards_largestHand_19 (j := 2) rfl rfl (by decide) rfl ?_
    refine g_goto (tgt := 4) d_Cards_largestHand_22 (by decide) ?_
    refine gGo_sub [2, 1, 0] rfl ?_
    obtain rfl := Option.some.inj h
    exact k1 _ rfl
noncomputable def f_Cards_largestHand_l4 (e : Nat) (M : gMem) (s : (Int32 × Int32)) : Option Int32 := gLp (fun s => f_Cards_largestHand_s4 e M s.1 s.2) s
theorem t_Cards_largestHand_l4 {l : Launch} {ε : gEnv} (e : Nat) (hC : gCd ε e) (M : gMem) (s : (Int32 × Int32)) (r : Int32) (h : f_Cards_largestHand_l4 e M s = some r) : gGo l ε k_Cards_largestHand (gR 2 44) (gFn ε (some (.int r)) M) 4 [(0, .ref (ε.2.2.1 e 1)), (1, .int s.1), (2, .int s.2)] [] M :=
  g_loop _ (fun r s => gGo l ε k_Cards_largestHand (gR 2 44) (gFn ε (some (.int r)) M) 4 [(0, .ref (ε.2.2.1 e 1)), (1, .int s.1), (2, .int s.2)] [] M) (fun s res h r k1 k2 => t_Cards_largestHand_s4 e hC M s.1 s.2 res h r k1 k2) s r h
noncomputable def f_Cards_largestHand (e : Nat) (M : gMem) : Option Int32 :=
  f_Cards_largestHand_l4 e M (0, 0)
theorem t_Cards_largestHand {l : Launch} {ε : gEnv} (e : Nat) (hC : gCd ε e) (M : gMem) (r : Int32) (h : f_Cards_largestHand e M = some r) : gGo l ε k_Cards_largestHand (gR 2 44) (gFn ε (some (.int r)) M) 0 [(0, .ref (ε.2.2.1 e 1))] [] M := by
  unfold f_Cards_largestHand at h
  refine g_iconst (v := 0) d_Cards_largestHand_0 (by decide) ?_
  refine g_istore_n (L' := [(1, .int 0), (0, .ref (ε.2.2.1 e 1))]) d_Cards_largestHand_1 rfl (by decide) rfl ?_
  refine g_iconst (v := 0) d_Cards_largestHand_2 (by decide) ?_
  refine g_istore_n (L' := [(2, .int 0), (1, .int 0), (0, .ref (ε.2.2.1 e 1))]) d_Cards_largestHand_3 rfl (by decide) rfl ?_
  refine gGo_sub [2, 1, 0] rfl ?_
  exact t_Cards_largestHand_l4 e hC M (0, 0) _ h
theorem ct_Cards_largestHand {l : Launch} {ε : gEnv} (e : Nat) (hC : gCd ε e) (M : gMem) (r : Int32) (h : f_Cards_largestHand e M = some r) : gCt l ε k_Cards_largestHand 2 44 [.ref (ε.2.2.1 e 1)] M (some (.int r)) M :=
  gCt_of (by decide) (Nat.le_of_ble_eq_true rfl) rfl (t_Cards_largestHand e hC M r h)
abbrev k_Cards_unseen : gMD := (⟨"DropSignals$Cards", "unseen", "(II)I"⟩, prog_2_method_16_code, 5, (some .int))
theorem w_811 : Cond.instanceMethod ⟨"DropSignals$Cards", "unseen", "(II)I"⟩ ∈ gWs := gWs_in (i := 811) (by decide +kernel) rfl
theorem w_812 : Cond.selects "DropSignals$Cards" ⟨"DropSignals$Cards", "unseen", "(II)I"⟩ ⟨"DropSignals$Cards", "unseen", "(II)I"⟩ ∈ gWs := gWs_in (i := 812) (by decide +kernel) rfl
set_option maxRecDepth 100000 in
theorem ca_Cards_unseen : gCaV k_Cards_unseen 2 := ⟨⟨gWs_in (i := 813) rfl rfl, w_36, by decide, by decide, by decide +kernel⟩, w_811, w_812⟩
theorem d_Cards_unseen_0 : decode prog_2_method_16_code 0 = .ok (.iconst 0, 1) := by decide +kernel
theorem d_Cards_unseen_1 : decode prog_2_method_16_code 1 = .ok (.istore_n 3, 1) := by decide +kernel
theorem d_Cards_unseen_2 : decode prog_2_method_16_code 2 = .ok (.iconst 0, 1) := by decide +kernel
theorem d_Cards_unseen_3 : decode prog_2_method_16_code 3 = .ok (.istore 4, 2) := by decide +kernel
theorem d_Cards_unseen_5 : decode prog_2_method_16_code 5 = .ok (.iload 4, 2) := by decide +kernel
theorem d_Cards_unseen_7 : decode prog_2_method_16_code 7 = .ok (.iconst 4, 1) := by decide +kernel
theorem d_Cards_unseen_8 : decode prog_2_method_16_code 8 = .ok (.if_icmp .ge 25, 3) := by decide +kernel
theorem d_Cards_unseen_11 : decode prog_2_method_16_code 11 = .ok (.iload 4, 2) := by decide +kernel
theorem d_Cards_unseen_13 : decode prog_2_method_16_code 13 = .ok (.iload_n 1, 1) := by decide +kernel
theorem d_Cards_unseen_14 : decode prog_2_method_16_code 14 = .ok (.if_icmp .eq 13, 3) := by decide +kernel
theorem d_Cards_unseen_17 : decode prog_2_method_16_code 17 = .ok (.iload_n 3, 1) := by decide +kernel
theorem d_Cards_unseen_18 : decode prog_2_method_16_code 18 = .ok (.aload_n 0, 1) := by decide +kernel
theorem d_Cards_unseen_19 : decode prog_2_method_16_code 19 = .ok (.iload 4, 2) := by decide +kernel
theorem d_Cards_unseen_21 : decode prog_2_method_16_code 21 = .ok (.iload_n 2, 1) := by decide +kernel
theorem d_Cards_unseen_22 : decode prog_2_method_16_code 22 = .ok (.invokevirtual 74, 3) := by decide +kernel
theorem d_Cards_unseen_25 : decode prog_2_method_16_code 25 = .ok (.iadd, 1) := by decide +kernel
theorem d_Cards_unseen_26 : decode prog_2_method_16_code 26 = .ok (.istore_n 3, 1) := by decide +kernel
theorem d_Cards_unseen_27 : decode prog_2_method_16_code 27 = .ok (.iinc 4 1, 3) := by decide +kernel
theorem d_Cards_unseen_30 : decode prog_2_method_16_code 30 = .ok (.goto (-25), 3) := by decide +kernel
theorem d_Cards_unseen_33 : decode prog_2_method_16_code 33 = .ok (.iload_n 3, 1) := by decide +kernel
theorem d_Cards_unseen_34 : decode prog_2_method_16_code 34 = .ok (.ireturn, 1) := by decide +kernel
theorem w_814 : Cond.methodLink "DropSignals$Cards" 74 ⟨"DropSignals$Cards", "held", "(II)I"⟩ ∈ gWs := gWs_in (i := 814) (by decide +kernel) rfl
noncomputable def f_Cards_unseen_b27 (e : Nat) (M : gMem) (x1 : Int32) (x2 : Int32) (x3 : Int32) (x4 : Int32) : Option ((Int32 × Int32) ⊕ Int32) :=
  some (.inl (x3, (x4 + 1)))
theorem t_Cards_unseen_b27 {l : Launch} {ε : gEnv} (e : Nat) (hC : gCd ε e) (M : gMem) (x1 : Int32) (x2 : Int32) (x3 : Int32) (x4 : Int32) (res : ((Int32 × Int32) ⊕ Int32)) (h : f_Cards_unseen_b27 e M x1 x2 x3 x4 = some res) (r : Int32) (k1 : ∀ s0 : (Int32 × Int32), res = .inl s0 → gGo l ε k_Cards_unseen (gR 2 45) (gFn ε (some (.int r)) M) 5 [(0, .ref (ε.2.2.1 e 1)), (1, .int x1), (2, .int x2), (3, .int s0.1), (4, .int s0.2)] [] M) (k2 : ∀ r', res = .inr r' → r' = r) : gGo l ε k_Cards_unseen (gR 2 45) (gFn ε (some (.int r)) M) 27 [(0, .ref (ε.2.2.1 e 1)), (1, .int x1), (2, .int x2), (3, .int x3), (4, .int x4)] [] M := by
  unfold f_Cards_unseen_b27 at h
  refine g_iinc (v := (x4 + 1)) (L' := [(4, .int (x4 + 1)), (0, .ref (ε.2.2.1 e 1)), (1, .int x1), (2, .int x2), (3, .int x3)]) d_Cards_unseen_27 (j := 4) rfl rfl (by decide) rfl ?_
  refine g_goto (tgt := 5) d_Cards_unseen_30 (by decide) ?_
  refine gGo_sub [1, 2, 3, 4, 0] rfl ?_
  obtain rfl := Option.some.inj h
  exact k1 _ rfl
noncomputable def f_Cards_unseen_s5 (e : Nat) (M : gMem) (x1 : Int32) (x2 : Int32) (x3 : Int32) (x4 : Int32) : Option ((Int32 × Int32) ⊕ Int32) :=
  if 4 ≤ x4 then
    some (.inr x3)
  else
    if x4 = x1 then
      f_Cards_unseen_b27 e M x1 x2 x3 x4
    else
      (f_Cards_held e M x4 x2).bind fun q1 =>
      f_Cards_unseen_b27 e M x1 x2 (x3 + q1) x4
theorem t_Cards_unseen_s5 {l : Launch} {ε : gEnv} (e : Nat) (hC : gCd ε e) (M : gMem) (x1 : Int32) (x2 : Int32) (x3 : Int32) (x4 : Int32) (res : ((Int32 × Int32) ⊕ Int32)) (h : f_Cards_unseen_s5 e M x1 x2 x3 x4 = some res) (r : Int32) (k1 : ∀ s0 : (Int32 × Int32), res = .inl s0 → gGo l ε k_Cards_unseen (gR 2 45) (gFn ε (some (.int r)) M) 5 [(0, .ref (ε.2.2.1 e 1)), (1, .int x1), (2, .int x2), (3, .int s0.1), (4, .int s0.2)] [] M) (k2 : ∀ r', res = .inr r' → r' = r) : gGo l ε k_Cards_unseen (gR 2 45) (gFn ε (some (.int r)) M) 5 [(0, .ref (ε.2.2.1 e 1)), (1, .int x1), (2, .int x2), (3, .int x3), (4, .int x4)] [] M := by
  unfold f_Cards_unseen_s5 at h
  refine g_iload d_Cards_unseen_5 4 rfl ?_
  refine g_iconst (v := 4) d_Cards_unseen_7 (by decide) ?_
  refine g_icmp_ge (tgt := 33) d_Cards_unseen_8 (by decide) (fun c3 => ?_) (fun c3 => ?_)
  · rw [if_pos c3] at h
    refine g_iload_n d_Cards_unseen_33 rfl 3 rfl ?_
    obtain rfl := Option.some.inj h
    have e9 := k2 _ rfl
    subst e9
    exact g_iret d_Cards_unseen_34 rfl
  · rw [if_neg c3] at h
    refine g_iload d_Cards_unseen_11 4 rfl ?_
    refine g_iload_n d_Cards_unseen_13 rfl 1 rfl ?_
    refine g_icmp_eq (tgt := 27) d_Cards_unseen_14 (by decide) (fun c2 => ?_) (fun c2 => ?_)
    · rw [if_pos c2] at h
      exact t_Cards_unseen_b27 e hC M x1 x2 x3 x4 _ h r k1 k2
    · rw [if_neg c2] at h
      refine g_iload_n d_Cards_unseen_17 rfl 3 rfl ?_
      refine g_aload_n d_Cards_unseen_18 rfl 0 rfl ?_
      refine g_iload d_Cards_unseen_19 4 rfl ?_
      refine g_iload_n d_Cards_unseen_21 rfl 2 rfl ?_
      obtain ⟨q1, hq1, h⟩ := gOb h
      refine g_callV_i (As := [.int x4, .int x2]) (rest := [.int x3]) (ct_Cards_held e hC M x4 x2 _ hq1) d_Cards_unseen_22 ca_Cards_held w_814 (gCd_h1 hC) rfl rfl rfl (Nat.le_of_ble_eq_true rfl) ⟨(Nat.le_of_ble_eq_true rfl), (Nat.le_of_ble_eq_true rfl)⟩ ?_
      refine g_iadd d_Cards_unseen_25 ?_
      refine g_istore_n (L' := [(3, .int (x3 + q1)), (0, .ref (ε.2.2.1 e 1)), (1, .int x1), (2, .int x2), (4, .int x4)]) d_Cards_unseen_26 rfl (by decide) rfl ?_
      refine gGo_sub [1, 2, 3, 0, 4] rfl ?_
      exact t_Cards_unseen_b27 e hC M x1 x2 (x3 + q1) x4 _ h r k1 k2
noncomputable def f_Cards_unseen_l5 (e : Nat) (M : gMem) (x1 : Int32) (x2 : Int32) (s : (Int32 × Int32)) : Option Int32 := gLp (fun s => f_Cards_unseen_s5 e M x1 x2 s.1 s.2) s
theorem t_Cards_unseen_l5 {l : Launch} {ε : gEnv} (e : Nat) (hC : gCd ε e) (M : gMem) (x1 : Int32) (x2 : Int32) (s : (Int32 × Int32)) (r : Int32) (h : f_Cards_unseen_l5 e M x1 x2 s = some r) : gGo l ε k_Cards_unseen (gR 2 45) (gFn ε (some (.int r)) M) 5 [(0, .ref (ε.2.2.1 e 1)), (1, .int x1), (2, .int x2), (3, .int s.1), (4, .int s.2)] [] M :=
  g_loop _ (fun r s => gGo l ε k_Cards_unseen (gR 2 45) (gFn ε (some (.int r)) M) 5 [(0, .ref (ε.2.2.1 e 1)), (1, .int x1), (2, .int x2), (3, .int s.1), (4, .int s.2)] [] M) (fun s res h r k1 k2 => t_Cards_unseen_s5 e hC M x1 x2 s.1 s.2 res h r k1 k2) s r h
noncomputable def f_Cards_unseen (e : Nat) (M : gMem) (a0 : Int32) (a1 : Int32) : Option Int32 :=
  f_Cards_unseen_l5 e M a0 a1 (0, 0)
theorem t_Cards_unseen {l : Launch} {ε : gEnv} (e : Nat) (hC : gCd ε e) (M : gMem) (a0 : Int32) (a1 : Int32) (r : Int32) (h : f_Cards_unseen e M a0 a1 = some r) : gGo l ε k_Cards_unseen (gR 2 45) (gFn ε (some (.int r)) M) 0 [(0, .ref (ε.2.2.1 e 1)), (1, .int a0), (2, .int a1)] [] M := by
  unfold f_Cards_unseen at h
  refine g_iconst (v := 0) d_Cards_unseen_0 (by decide) ?_
  refine g_istore_n (L' := [(3, .int 0), (0, .ref (ε.2.2.1 e 1)), (1, .int a0), (2, .int a1)]) d_Cards_unseen_1 rfl (by decide) rfl ?_
  refine g_iconst (v := 0) d_Cards_unseen_2 (by decide) ?_
  refine g_istore (L' := [(4, .int 0), (3, .int 0), (0, .ref (ε.2.2.1 e 1)), (1, .int a0), (2, .int a1)]) d_Cards_unseen_3 (by decide) rfl ?_
  refine gGo_sub [2, 3, 4, 1, 0] rfl ?_
  exact t_Cards_unseen_l5 e hC M a0 a1 (0, 0) _ h
theorem ct_Cards_unseen {l : Launch} {ε : gEnv} (e : Nat) (hC : gCd ε e) (M : gMem) (a0 : Int32) (a1 : Int32) (r : Int32) (h : f_Cards_unseen e M a0 a1 = some r) : gCt l ε k_Cards_unseen 2 45 [.ref (ε.2.2.1 e 1), .int a0, .int a1] M (some (.int r)) M :=
  gCt_of (by decide) (Nat.le_of_ble_eq_true rfl) rfl (t_Cards_unseen e hC M a0 a1 r h)
abbrev k_Drops_clear : gMD := (⟨"DropSignals$Drops", "clear", "()V"⟩, prog_3_method_2_code, 1, none)
theorem w_38 : Cond.initialized "DropSignals$Drops" ∈ gWs := gWs_in (i := 38) (by decide +kernel) rfl
theorem w_103 : Cond.instanceMethod ⟨"DropSignals$Drops", "clear", "()V"⟩ ∈ gWs := gWs_in (i := 103) (by decide +kernel) rfl
theorem w_104 : Cond.selects "DropSignals$Drops" ⟨"DropSignals$Drops", "clear", "()V"⟩ ⟨"DropSignals$Drops", "clear", "()V"⟩ ∈ gWs := gWs_in (i := 104) (by decide +kernel) rfl
set_option maxRecDepth 100000 in
theorem ca_Drops_clear : gCaV k_Drops_clear 0 := ⟨⟨gWs_in (i := 105) rfl rfl, w_38, by decide, by decide, by decide +kernel⟩, w_103, w_104⟩
theorem d_Drops_clear_0 : decode prog_3_method_2_code 0 = .ok (.aload_n 0, 1) := by decide +kernel
theorem d_Drops_clear_1 : decode prog_3_method_2_code 1 = .ok (.getfield 9, 3) := by decide +kernel
theorem d_Drops_clear_4 : decode prog_3_method_2_code 4 = .ok (.iconst 0, 1) := by decide +kernel
theorem d_Drops_clear_5 : decode prog_3_method_2_code 5 = .ok (.invokestatic 27, 3) := by decide +kernel
theorem d_Drops_clear_8 : decode prog_3_method_2_code 8 = .ok (.aload_n 0, 1) := by decide +kernel
theorem d_Drops_clear_9 : decode prog_3_method_2_code 9 = .ok (.getfield 15, 3) := by decide +kernel
theorem d_Drops_clear_12 : decode prog_3_method_2_code 12 = .ok (.iconst (-1), 1) := by decide +kernel
theorem d_Drops_clear_13 : decode prog_3_method_2_code 13 = .ok (.invokestatic 27, 3) := by decide +kernel
theorem d_Drops_clear_16 : decode prog_3_method_2_code 16 = .ok (.aload_n 0, 1) := by decide +kernel
theorem d_Drops_clear_17 : decode prog_3_method_2_code 17 = .ok (.getfield 18, 3) := by decide +kernel
theorem d_Drops_clear_20 : decode prog_3_method_2_code 20 = .ok (.iconst 0, 1) := by decide +kernel
theorem d_Drops_clear_21 : decode prog_3_method_2_code 21 = .ok (.invokestatic 27, 3) := by decide +kernel
theorem d_Drops_clear_24 : decode prog_3_method_2_code 24 = .ok (.aload_n 0, 1) := by decide +kernel
theorem d_Drops_clear_25 : decode prog_3_method_2_code 25 = .ok (.getfield 21, 3) := by decide +kernel
theorem d_Drops_clear_28 : decode prog_3_method_2_code 28 = .ok (.iconst 0, 1) := by decide +kernel
theorem d_Drops_clear_29 : decode prog_3_method_2_code 29 = .ok (.invokestatic 27, 3) := by decide +kernel
theorem d_Drops_clear_32 : decode prog_3_method_2_code 32 = .ok (.return_, 1) := by decide +kernel
theorem uw_1 : ∀ w ∈ u_ws gN1 gF1 4, w ∈ gWs := by
  intro w hw
  have h := List.all_eq_true.mp (show (u_ws gN1 gF1 4).all (fun w => decide (w ∈ lw_tbl) && goodWord w) = true by decide +kernel) w hw
  simp only [Bool.and_eq_true, decide_eq_true_eq] at h
  exact List.mem_filter.mpr h
theorem w_107 : Cond.fieldLink "DropSignals$Drops" 9 "DropSignals$Drops" "counts" "[I" ∈ gWs := gWs_in (i := 107) (by decide +kernel) rfl
theorem fl_Drops_9 : gFl "DropSignals$Drops" 9 1 0 := ⟨gN1, gF1, 4, rfl, uw_1, by decide, w_107⟩
theorem w_106 : Cond.methodLink "DropSignals$Drops" 27 ⟨"java/util/Arrays", "fill", "([II)V"⟩ ∈ gWs := gWs_in (i := 106) (by decide +kernel) rfl
theorem w_108 : Cond.fieldLink "DropSignals$Drops" 15 "DropSignals$Drops" "firsts" "[I" ∈ gWs := gWs_in (i := 108) (by decide +kernel) rfl
theorem fl_Drops_15 : gFl "DropSignals$Drops" 15 1 1 := ⟨gN1, gF1, 4, rfl, uw_1, by decide, w_108⟩
theorem w_109 : Cond.fieldLink "DropSignals$Drops" 18 "DropSignals$Drops" "signals" "[I" ∈ gWs := gWs_in (i := 109) (by decide +kernel) rfl
theorem fl_Drops_18 : gFl "DropSignals$Drops" 18 1 2 := ⟨gN1, gF1, 4, rfl, uw_1, by decide, w_109⟩
theorem w_110 : Cond.fieldLink "DropSignals$Drops" 21 "DropSignals$Drops" "nones" "[I" ∈ gWs := gWs_in (i := 110) (by decide +kernel) rfl
theorem fl_Drops_21 : gFl "DropSignals$Drops" 21 1 3 := ⟨gN1, gF1, 4, rfl, uw_1, by decide, w_110⟩
noncomputable def f_Drops_clear (e : Nat) (M : gMem) : Option gMem :=
  (f_JA_fill e 8 16 M 0).bind fun q1 =>
  (f_JA_fill e 9 16 q1 (-1)).bind fun q2 =>
  (f_JA_fill e 10 16 q2 0).bind fun q3 =>
  (f_JA_fill e 11 16 q3 0).bind fun q4 =>
  some q4
theorem t_Drops_clear {l : Launch} {ε : gEnv} (e : Nat) (hD : gDr ε e) (M : gMem) (r : gMem) (h : f_Drops_clear e M = some r) : gGo l ε k_Drops_clear (gR 1 23) (gFn ε none r) 0 [(0, .ref (ε.2.2.1 e 2))] [] M := by
  unfold f_Drops_clear at h
  refine g_aload_n d_Drops_clear_0 rfl 0 rfl ?_
  refine g_getR d_Drops_clear_1 fl_Drops_9 (gDr_h2 hD) rfl ?_
  refine g_iconst (v := 0) d_Drops_clear_4 (by decide) ?_
  obtain ⟨q1, hq1, h⟩ := gOb h
  refine g_callS_v (As := [.ref (ε.2.2.1 e 8), .int 0]) (rest := []) (ct_JA_fill e 8 16 (gDr_h8 hD) M 0 _ hq1) d_Drops_clear_5 ca_JA_fill w_106 rfl rfl (Nat.le_of_ble_eq_true rfl) ⟨(Nat.le_of_ble_eq_true rfl), (Nat.le_of_ble_eq_true rfl)⟩ ?_
  refine g_aload_n d_Drops_clear_8 rfl 0 rfl ?_
  refine g_getR d_Drops_clear_9 fl_Drops_15 (gDr_h2 hD) rfl ?_
  refine g_iconst (v := -1) d_Drops_clear_12 (by decide) ?_
  obtain ⟨q2, hq2, h⟩ := gOb h
  refine g_callS_v (As := [.ref (ε.2.2.1 e 9), .int (-1)]) (rest := []) (ct_JA_fill e 9 16 (gDr_h9 hD) q1 (-1) _ hq2) d_Drops_clear_13 ca_JA_fill w_106 rfl rfl (Nat.le_of_ble_eq_true rfl) ⟨(Nat.le_of_ble_eq_true rfl), (Nat.le_of_ble_eq_true rfl)⟩ ?_
  refine g_aload_n d_Drops_clear_16 rfl 0 rfl ?_
  refine g_getR d_Drops_clear_17 fl_Drops_18 (gDr_h2 hD) rfl ?_
  refine g_iconst (v := 0) d_Drops_clear_20 (by decide) ?_
  obtain ⟨q3, hq3, h⟩ := gOb h
  refine g_callS_v (As := [.ref (ε.2.2.1 e 10), .int 0]) (rest := []) (ct_JA_fill e 10 16 (gDr_h10 hD) q2 0 _ hq3) d_Drops_clear_21 ca_JA_fill w_106 rfl rfl (Nat.le_of_ble_eq_true rfl) ⟨(Nat.le_of_ble_eq_true rfl), (Nat.le_of_ble_eq_true rfl)⟩ ?_
  refine g_aload_n d_Drops_clear_24 rfl 0 rfl ?_
  refine g_getR d_Drops_clear_25 fl_Drops_21 (gDr_h2 hD) rfl ?_
  refine g_iconst (v := 0) d_Drops_clear_28 (by decide) ?_
  obtain ⟨q4, hq4, h⟩ := gOb h
  refine g_callS_v (As := [.ref (ε.2.2.1 e 11), .int 0]) (rest := []) (ct_JA_fill e 11 16 (gDr_h11 hD) q3 0 _ hq4) d_Drops_clear_29 ca_JA_fill w_106 rfl rfl (Nat.le_of_ble_eq_true rfl) ⟨(Nat.le_of_ble_eq_true rfl), (Nat.le_of_ble_eq_true rfl)⟩ ?_
  obtain rfl := Option.some.inj h
  exact g_vret d_Drops_clear_32 rfl
theorem ct_Drops_clear {l : Launch} {ε : gEnv} (e : Nat) (hD : gDr ε e) (M : gMem) (r : gMem) (h : f_Drops_clear e M = some r) : gCt l ε k_Drops_clear 1 23 [.ref (ε.2.2.1 e 2)] M none r :=
  gCt_of (by decide) (Nat.le_of_ble_eq_true rfl) rfl (t_Drops_clear e hD M r h)
abbrev k_Drops_copyFrom : gMD := (⟨"DropSignals$Drops", "copyFrom", "(LDropSignals$Drops;)V"⟩, prog_3_method_3_code, 2, none)
theorem w_348 : Cond.instanceMethod ⟨"DropSignals$Drops", "copyFrom", "(LDropSignals$Drops;)V"⟩ ∈ gWs := gWs_in (i := 348) (by decide +kernel) rfl
theorem w_349 : Cond.selects "DropSignals$Drops" ⟨"DropSignals$Drops", "copyFrom", "(LDropSignals$Drops;)V"⟩ ⟨"DropSignals$Drops", "copyFrom", "(LDropSignals$Drops;)V"⟩ ∈ gWs := gWs_in (i := 349) (by decide +kernel) rfl
set_option maxRecDepth 100000 in
theorem ca_Drops_copyFrom : gCaV k_Drops_copyFrom 1 := ⟨⟨gWs_in (i := 350) rfl rfl, w_38, by decide, by decide, by decide +kernel⟩, w_348, w_349⟩
theorem d_Drops_copyFrom_0 : decode prog_3_method_3_code 0 = .ok (.aload_n 1, 1) := by decide +kernel
theorem d_Drops_copyFrom_1 : decode prog_3_method_3_code 1 = .ok (.getfield 9, 3) := by decide +kernel
theorem d_Drops_copyFrom_4 : decode prog_3_method_3_code 4 = .ok (.aload_n 0, 1) := by decide +kernel
theorem d_Drops_copyFrom_5 : decode prog_3_method_3_code 5 = .ok (.getfield 9, 3) := by decide +kernel
theorem d_Drops_copyFrom_8 : decode prog_3_method_3_code 8 = .ok (.invokestatic 33, 3) := by decide +kernel
theorem d_Drops_copyFrom_11 : decode prog_3_method_3_code 11 = .ok (.aload_n 1, 1) := by decide +kernel
theorem d_Drops_copyFrom_12 : decode prog_3_method_3_code 12 = .ok (.getfield 15, 3) := by decide +kernel
theorem d_Drops_copyFrom_15 : decode prog_3_method_3_code 15 = .ok (.aload_n 0, 1) := by decide +kernel
theorem d_Drops_copyFrom_16 : decode prog_3_method_3_code 16 = .ok (.getfield 15, 3) := by decide +kernel
theorem d_Drops_copyFrom_19 : decode prog_3_method_3_code 19 = .ok (.invokestatic 33, 3) := by decide +kernel
theorem d_Drops_copyFrom_22 : decode prog_3_method_3_code 22 = .ok (.aload_n 1, 1) := by decide +kernel
theorem d_Drops_copyFrom_23 : decode prog_3_method_3_code 23 = .ok (.getfield 18, 3) := by decide +kernel
theorem d_Drops_copyFrom_26 : decode prog_3_method_3_code 26 = .ok (.aload_n 0, 1) := by decide +kernel
theorem d_Drops_copyFrom_27 : decode prog_3_method_3_code 27 = .ok (.getfield 18, 3) := by decide +kernel
theorem d_Drops_copyFrom_30 : decode prog_3_method_3_code 30 = .ok (.invokestatic 33, 3) := by decide +kernel
theorem d_Drops_copyFrom_33 : decode prog_3_method_3_code 33 = .ok (.aload_n 1, 1) := by decide +kernel
theorem d_Drops_copyFrom_34 : decode prog_3_method_3_code 34 = .ok (.getfield 21, 3) := by decide +kernel
theorem d_Drops_copyFrom_37 : decode prog_3_method_3_code 37 = .ok (.aload_n 0, 1) := by decide +kernel
theorem d_Drops_copyFrom_38 : decode prog_3_method_3_code 38 = .ok (.getfield 21, 3) := by decide +kernel
theorem d_Drops_copyFrom_41 : decode prog_3_method_3_code 41 = .ok (.invokestatic 33, 3) := by decide +kernel
theorem d_Drops_copyFrom_44 : decode prog_3_method_3_code 44 = .ok (.return_, 1) := by decide +kernel
noncomputable def f_Drops_copyFrom (e : Nat) (e0 : Nat) (M : gMem) : Option gMem :=
  (f_DS_copyRow e0 8 16 e 8 16 M).bind fun q1 =>
  (f_DS_copyRow e0 9 16 e 9 16 q1).bind fun q2 =>
  (f_DS_copyRow e0 10 16 e 10 16 q2).bind fun q3 =>
  (f_DS_copyRow e0 11 16 e 11 16 q3).bind fun q4 =>
  some q4
theorem t_Drops_copyFrom {l : Launch} {ε : gEnv} (e : Nat) (e0 : Nat) (hD : gDr ε e) (hD0 : gDr ε e0) (M : gMem) (r : gMem) (h : f_Drops_copyFrom e e0 M = some r) : gGo l ε k_Drops_copyFrom (gR 2 51) (gFn ε none r) 0 [(0, .ref (ε.2.2.1 e 2)), (1, .ref (ε.2.2.1 e0 2))] [] M := by
  unfold f_Drops_copyFrom at h
  refine g_aload_n d_Drops_copyFrom_0 rfl 1 rfl ?_
  refine g_getR d_Drops_copyFrom_1 fl_Drops_9 (gDr_h2 hD0) rfl ?_
  refine g_aload_n d_Drops_copyFrom_4 rfl 0 rfl ?_
  refine g_getR d_Drops_copyFrom_5 fl_Drops_9 (gDr_h2 hD) rfl ?_
  obtain ⟨q1, hq1, h⟩ := gOb h
  refine g_callN_v (As := [.ref (ε.2.2.1 e0 8), .ref (ε.2.2.1 e 8)]) (rest := []) (j := 351) (host := "DropSignals") (ct_DS_copyRow e0 8 16 e 8 16 (gDr_h8 hD0) (gDr_h8 hD) M _ hq1) d_Drops_copyFrom_8 ca_DS_copyRow (by decide +kernel) rfl rfl (Nat.le_of_ble_eq_true rfl) ⟨(Nat.le_of_ble_eq_true rfl), (Nat.le_of_ble_eq_true rfl)⟩ ?_
  refine g_aload_n d_Drops_copyFrom_11 rfl 1 rfl ?_
  refine g_getR d_Drops_copyFrom_12 fl_Drops_15 (gDr_h2 hD0) rfl ?_
  refine g_aload_n d_Drops_copyFrom_15 rfl 0 rfl ?_
  refine g_getR d_Drops_copyFrom_16 fl_Drops_15 (gDr_h2 hD) rfl ?_
  obtain ⟨q2, hq2, h⟩ := gOb h
  refine g_callN_v (As := [.ref (ε.2.2.1 e0 9), .ref (ε.2.2.1 e 9)]) (rest := []) (j := 351) (host := "DropSignals") (ct_DS_copyRow e0 9 16 e 9 16 (gDr_h9 hD0) (gDr_h9 hD) q1 _ hq2) d_Drops_copyFrom_19 ca_DS_copyRow (by decide +kernel) rfl rfl (Nat.le_of_ble_eq_true rfl) ⟨(Nat.le_of_ble_eq_true rfl), (Nat.le_of_ble_eq_true rfl)⟩ ?_
  refine g_aload_n d_Drops_copyFrom_22 rfl 1 rfl ?_
  refine g_getR d_Drops_copyFrom_23 fl_Drops_18 (gDr_h2 hD0) rfl ?_
  refine g_aload_n d_Drops_copyFrom_26 rfl 0 rfl ?_
  refine g_getR d_Drops_copyFrom_27 fl_Drops_18 (gDr_h2 hD) rfl ?_
  obtain ⟨q3, hq3, h⟩ := gOb h
  refine g_callN_v (As := [.ref (ε.2.2.1 e0 10), .ref (ε.2.2.1 e 10)]) (rest := []) (j := 351) (host := "DropSignals") (ct_DS_copyRow e0 10 16 e 10 16 (gDr_h10 hD0) (gDr_h10 hD) q2 _ hq3) d_Drops_copyFrom_30 ca_DS_copyRow (by decide +kernel) rfl rfl (Nat.le_of_ble_eq_true rfl) ⟨(Nat.le_of_ble_eq_true rfl), (Nat.le_of_ble_eq_true rfl)⟩ ?_
  refine g_aload_n d_Drops_copyFrom_33 rfl 1 rfl ?_
  refine g_getR d_Drops_copyFrom_34 fl_Drops_21 (gDr_h2 hD0) rfl ?_
  refine g_aload_n d_Drops_copyFrom_37 rfl 0 rfl ?_
  refine g_getR d_Drops_copyFrom_38 fl_Drops_21 (gDr_h2 hD) rfl ?_
  obtain ⟨q4, hq4, h⟩ := gOb h
  refine g_callN_v (As := [.ref (ε.2.2.1 e0 11), .ref (ε.2.2.1 e 11)]) (rest := []) (j := 351) (host := "DropSignals") (ct_DS_copyRow e0 11 16 e 11 16 (gDr_h11 hD0) (gDr_h11 hD) q3 _ hq4) d_Drops_copyFrom_41 ca_DS_copyRow (by decide +kernel) rfl rfl (Nat.le_of_ble_eq_true rfl) ⟨(Nat.le_of_ble_eq_true rfl), (Nat.le_of_ble_eq_true rfl)⟩ ?_
  obtain rfl := Option.some.inj h
  exact g_vret d_Drops_copyFrom_44 rfl
theorem ct_Drops_copyFrom {l : Launch} {ε : gEnv} (e : Nat) (e0 : Nat) (hD : gDr ε e) (hD0 : gDr ε e0) (M : gMem) (r : gMem) (h : f_Drops_copyFrom e e0 M = some r) : gCt l ε k_Drops_copyFrom 2 51 [.ref (ε.2.2.1 e 2), .ref (ε.2.2.1 e0 2)] M none r :=
  gCt_of (by decide) (Nat.le_of_ble_eq_true rfl) rfl (t_Drops_copyFrom e e0 hD hD0 M r h)
abbrev k_Drops_place : gMD := (⟨"DropSignals$Drops", "place", "(II)I"⟩, prog_3_method_4_code, 2, (some .int))
theorem w_403 : Cond.static ⟨"DropSignals$Drops", "place", "(II)I"⟩ ∈ gWs := gWs_in (i := 403) (by decide +kernel) rfl
set_option maxRecDepth 100000 in
theorem ca_Drops_place : gCaS k_Drops_place 2 := ⟨⟨gWs_in (i := 404) rfl rfl, w_38, by decide, by decide, by decide +kernel⟩, w_403⟩
theorem d_Drops_place_0 : decode prog_3_method_4_code 0 = .ok (.iload_n 0, 1) := by decide +kernel
theorem d_Drops_place_1 : decode prog_3_method_4_code 1 = .ok (.iconst 4, 1) := by decide +kernel
theorem d_Drops_place_2 : decode prog_3_method_4_code 2 = .ok (.imul, 1) := by decide +kernel
theorem d_Drops_place_3 : decode prog_3_method_4_code 3 = .ok (.iload_n 1, 1) := by decide +kernel
theorem d_Drops_place_4 : decode prog_3_method_4_code 4 = .ok (.iadd, 1) := by decide +kernel
theorem d_Drops_place_5 : decode prog_3_method_4_code 5 = .ok (.ireturn, 1) := by decide +kernel
noncomputable def f_Drops_place (a0 : Int32) (a1 : Int32) : Option Int32 :=
  some ((a0 * 4) + a1)
theorem t_Drops_place {l : Launch} {ε : gEnv} (M : gMem) (a0 : Int32) (a1 : Int32) (r : Int32) (h : f_Drops_place a0 a1 = some r) : gGo l ε k_Drops_place (gR 0 0) (gFn ε (some (.int r)) M) 0 [(0, .int a0), (1, .int a1)] [] M := by
  unfold f_Drops_place at h
  refine g_iload_n d_Drops_place_0 rfl 0 rfl ?_
  refine g_iconst (v := 4) d_Drops_place_1 (by decide) ?_
  refine g_imul d_Drops_place_2 ?_
  refine g_iload_n d_Drops_place_3 rfl 1 rfl ?_
  refine g_iadd d_Drops_place_4 ?_
  obtain rfl := Option.some.inj h
  exact g_iret d_Drops_place_5 rfl
theorem ct_Drops_place {l : Launch} {ε : gEnv} (M : gMem) (a0 : Int32) (a1 : Int32) (r : Int32) (h : f_Drops_place a0 a1 = some r) : gCt l ε k_Drops_place 0 0 [.int a0, .int a1] M (some (.int r)) M :=
  gCt_of (by decide) (Nat.le_of_ble_eq_true rfl) rfl (t_Drops_place M a0 a1 r h)
abbrev k_Drops_count : gMD := (⟨"DropSignals$Drops", "count", "(II)I"⟩, prog_3_method_5_code, 3, (some .int))
theorem w_399 : Cond.instanceMethod ⟨"DropSignals$Drops", "count", "(II)I"⟩ ∈ gWs := gWs_in (i := 399) (by decide +kernel) rfl
theorem w_400 : Cond.selects "DropSignals$Drops" ⟨"DropSignals$Drops", "count", "(II)I"⟩ ⟨"DropSignals$Drops", "count", "(II)I"⟩ ∈ gWs := gWs_in (i := 400) (by decide +kernel) rfl
set_option maxRecDepth 100000 in
theorem ca_Drops_count : gCaV k_Drops_count 2 := ⟨⟨gWs_in (i := 401) rfl rfl, w_38, by decide, by decide, by decide +kernel⟩, w_399, w_400⟩
theorem d_Drops_count_0 : decode prog_3_method_5_code 0 = .ok (.aload_n 0, 1) := by decide +kernel
theorem d_Drops_count_1 : decode prog_3_method_5_code 1 = .ok (.getfield 9, 3) := by decide +kernel
theorem d_Drops_count_4 : decode prog_3_method_5_code 4 = .ok (.iload_n 1, 1) := by decide +kernel
theorem d_Drops_count_5 : decode prog_3_method_5_code 5 = .ok (.iload_n 2, 1) := by decide +kernel
theorem d_Drops_count_6 : decode prog_3_method_5_code 6 = .ok (.invokestatic 37, 3) := by decide +kernel
theorem d_Drops_count_9 : decode prog_3_method_5_code 9 = .ok (.invokestatic 41, 3) := by decide +kernel
theorem d_Drops_count_12 : decode prog_3_method_5_code 12 = .ok (.ireturn, 1) := by decide +kernel
theorem w_402 : Cond.methodLink "DropSignals$Drops" 37 ⟨"DropSignals$Drops", "place", "(II)I"⟩ ∈ gWs := gWs_in (i := 402) (by decide +kernel) rfl
noncomputable def f_Drops_count (e : Nat) (M : gMem) (a0 : Int32) (a1 : Int32) : Option Int32 :=
  (f_Drops_place a0 a1).bind fun q1 =>
  (f_DS_at e 8 16 M q1).bind fun q2 =>
  some q2
theorem t_Drops_count {l : Launch} {ε : gEnv} (e : Nat) (hD : gDr ε e) (M : gMem) (a0 : Int32) (a1 : Int32) (r : Int32) (h : f_Drops_count e M a0 a1 = some r) : gGo l ε k_Drops_count (gR 1 21) (gFn ε (some (.int r)) M) 0 [(0, .ref (ε.2.2.1 e 2)), (1, .int a0), (2, .int a1)] [] M := by
  unfold f_Drops_count at h
  refine g_aload_n d_Drops_count_0 rfl 0 rfl ?_
  refine g_getR d_Drops_count_1 fl_Drops_9 (gDr_h2 hD) rfl ?_
  refine g_iload_n d_Drops_count_4 rfl 1 rfl ?_
  refine g_iload_n d_Drops_count_5 rfl 2 rfl ?_
  obtain ⟨q1, hq1, h⟩ := gOb h
  refine g_callS_i (As := [.int a0, .int a1]) (rest := [.ref (ε.2.2.1 e 8)]) (ct_Drops_place M a0 a1 _ hq1) d_Drops_count_6 ca_Drops_place w_402 rfl rfl (Nat.le_of_ble_eq_true rfl) ⟨(Nat.le_of_ble_eq_true rfl), (Nat.le_of_ble_eq_true rfl)⟩ ?_
  obtain ⟨q2, hq2, h⟩ := gOb h
  refine g_callN_i (As := [.ref (ε.2.2.1 e 8), .int q1]) (rest := []) (j := 405) (host := "DropSignals") (ct_DS_at e 8 16 (gDr_h8 hD) M q1 _ hq2) d_Drops_count_9 ca_DS_at (by decide +kernel) rfl rfl (Nat.le_of_ble_eq_true rfl) ⟨(Nat.le_of_ble_eq_true rfl), (Nat.le_of_ble_eq_true rfl)⟩ ?_
  obtain rfl := Option.some.inj h
  exact g_iret d_Drops_count_12 rfl
theorem ct_Drops_count {l : Launch} {ε : gEnv} (e : Nat) (hD : gDr ε e) (M : gMem) (a0 : Int32) (a1 : Int32) (r : Int32) (h : f_Drops_count e M a0 a1 = some r) : gCt l ε k_Drops_count 1 21 [.ref (ε.2.2.1 e 2), .int a0, .int a1] M (some (.int r)) M :=
  gCt_of (by decide) (Nat.le_of_ble_eq_true rfl) rfl (t_Drops_count e hD M a0 a1 r h)
abbrev k_Drops_first : gMD := (⟨"DropSignals$Drops", "first", "(II)I"⟩, prog_3_method_6_code, 3, (some .int))
theorem w_427 : Cond.instanceMethod ⟨"DropSignals$Drops", "first", "(II)I"⟩ ∈ gWs := gWs_in (i := 427) (by decide +kernel) rfl
theorem w_428 : Cond.selects "DropSignals$Drops" ⟨"DropSignals$Drops", "first", "(II)I"⟩ ⟨"DropSignals$Drops", "first", "(II)I"⟩ ∈ gWs := gWs_in (i := 428) (by decide +kernel) rfl
set_option maxRecDepth 100000 in
theorem ca_Drops_first : gCaV k_Drops_first 2 := ⟨⟨gWs_in (i := 429) rfl rfl, w_38, by decide, by decide, by decide +kernel⟩, w_427, w_428⟩
theorem d_Drops_first_0 : decode prog_3_method_6_code 0 = .ok (.aload_n 0, 1) := by decide +kernel
theorem d_Drops_first_1 : decode prog_3_method_6_code 1 = .ok (.getfield 15, 3) := by decide +kernel
theorem d_Drops_first_4 : decode prog_3_method_6_code 4 = .ok (.iload_n 1, 1) := by decide +kernel
theorem d_Drops_first_5 : decode prog_3_method_6_code 5 = .ok (.iload_n 2, 1) := by decide +kernel
theorem d_Drops_first_6 : decode prog_3_method_6_code 6 = .ok (.invokestatic 37, 3) := by decide +kernel
theorem d_Drops_first_9 : decode prog_3_method_6_code 9 = .ok (.invokestatic 41, 3) := by decide +kernel
theorem d_Drops_first_12 : decode prog_3_method_6_code 12 = .ok (.ireturn, 1) := by decide +kernel
noncomputable def f_Drops_first (e : Nat) (M : gMem) (a0 : Int32) (a1 : Int32) : Option Int32 :=
  (f_Drops_place a0 a1).bind fun q1 =>
  (f_DS_at e 9 16 M q1).bind fun q2 =>
  some q2
theorem t_Drops_first {l : Launch} {ε : gEnv} (e : Nat) (hD : gDr ε e) (M : gMem) (a0 : Int32) (a1 : Int32) (r : Int32) (h : f_Drops_first e M a0 a1 = some r) : gGo l ε k_Drops_first (gR 1 21) (gFn ε (some (.int r)) M) 0 [(0, .ref (ε.2.2.1 e 2)), (1, .int a0), (2, .int a1)] [] M := by
  unfold f_Drops_first at h
  refine g_aload_n d_Drops_first_0 rfl 0 rfl ?_
  refine g_getR d_Drops_first_1 fl_Drops_15 (gDr_h2 hD) rfl ?_
  refine g_iload_n d_Drops_first_4 rfl 1 rfl ?_
  refine g_iload_n d_Drops_first_5 rfl 2 rfl ?_
  obtain ⟨q1, hq1, h⟩ := gOb h
  refine g_callS_i (As := [.int a0, .int a1]) (rest := [.ref (ε.2.2.1 e 9)]) (ct_Drops_place M a0 a1 _ hq1) d_Drops_first_6 ca_Drops_place w_402 rfl rfl (Nat.le_of_ble_eq_true rfl) ⟨(Nat.le_of_ble_eq_true rfl), (Nat.le_of_ble_eq_true rfl)⟩ ?_
  obtain ⟨q2, hq2, h⟩ := gOb h
  refine g_callN_i (As := [.ref (ε.2.2.1 e 9), .int q1]) (rest := []) (j := 405) (host := "DropSignals") (ct_DS_at e 9 16 (gDr_h9 hD) M q1 _ hq2) d_Drops_first_9 ca_DS_at (by decide +kernel) rfl rfl (Nat.le_of_ble_eq_true rfl) ⟨(Nat.le_of_ble_eq_true rfl), (Nat.le_of_ble_eq_true rfl)⟩ ?_
  obtain rfl := Option.some.inj h
  exact g_iret d_Drops_first_12 rfl
theorem ct_Drops_first {l : Launch} {ε : gEnv} (e : Nat) (hD : gDr ε e) (M : gMem) (a0 : Int32) (a1 : Int32) (r : Int32) (h : f_Drops_first e M a0 a1 = some r) : gCt l ε k_Drops_first 1 21 [.ref (ε.2.2.1 e 2), .int a0, .int a1] M (some (.int r)) M :=
  gCt_of (by decide) (Nat.le_of_ble_eq_true rfl) rfl (t_Drops_first e hD M a0 a1 r h)
abbrev k_Drops_signal : gMD := (⟨"DropSignals$Drops", "signal", "(II)I"⟩, prog_3_method_7_code, 3, (some .int))
theorem w_712 : Cond.instanceMethod ⟨"DropSignals$Drops", "signal", "(II)I"⟩ ∈ gWs := gWs_in (i := 712) (by decide +kernel) rfl
theorem w_713 : Cond.selects "DropSignals$Drops" ⟨"DropSignals$Drops", "signal", "(II)I"⟩ ⟨"DropSignals$Drops", "signal", "(II)I"⟩ ∈ gWs := gWs_in (i := 713) (by decide +kernel) rfl
set_option maxRecDepth 100000 in
theorem ca_Drops_signal : gCaV k_Drops_signal 2 := ⟨⟨gWs_in (i := 714) rfl rfl, w_38, by decide, by decide, by decide +kernel⟩, w_712, w_713⟩
theorem d_Drops_signal_0 : decode prog_3_method_7_code 0 = .ok (.aload_n 0, 1) := by decide +kernel
theorem d_Drops_signal_1 : decode prog_3_method_7_code 1 = .ok (.getfield 18, 3) := by decide +kernel
theorem d_Drops_signal_4 : decode prog_3_method_7_code 4 = .ok (.iload_n 1, 1) := by decide +kernel
theorem d_Drops_signal_5 : decode prog_3_method_7_code 5 = .ok (.iload_n 2, 1) := by decide +kernel
theorem d_Drops_signal_6 : decode prog_3_method_7_code 6 = .ok (.invokestatic 37, 3) := by decide +kernel
theorem d_Drops_signal_9 : decode prog_3_method_7_code 9 = .ok (.invokestatic 41, 3) := by decide +kernel
theorem d_Drops_signal_12 : decode prog_3_method_7_code 12 = .ok (.ireturn, 1) := by decide +kernel
noncomputable def f_Drops_signal (e : Nat) (M : gMem) (a0 : Int32) (a1 : Int32) : Option Int32 :=
  (f_Drops_place a0 a1).bind fun q1 =>
  (f_DS_at e 10 16 M q1).bind fun q2 =>
  some q2
theorem t_Drops_signal {l : Launch} {ε : gEnv} (e : Nat) (hD : gDr ε e) (M : gMem) (a0 : Int32) (a1 : Int32) (r : Int32) (h : f_Drops_signal e M a0 a1 = some r) : gGo l ε k_Drops_signal (gR 1 21) (gFn ε (some (.int r)) M) 0 [(0, .ref (ε.2.2.1 e 2)), (1, .int a0), (2, .int a1)] [] M := by
  unfold f_Drops_signal at h
  refine g_aload_n d_Drops_signal_0 rfl 0 rfl ?_
  refine g_getR d_Drops_signal_1 fl_Drops_18 (gDr_h2 hD) rfl ?_
  refine g_iload_n d_Drops_signal_4 rfl 1 rfl ?_
  refine g_iload_n d_Drops_signal_5 rfl 2 rfl ?_
  obtain ⟨q1, hq1, h⟩ := gOb h
  refine g_callS_i (As := [.int a0, .int a1]) (rest := [.ref (ε.2.2.1 e 10)]) (ct_Drops_place M a0 a1 _ hq1) d_Drops_signal_6 ca_Drops_place w_402 rfl rfl (Nat.le_of_ble_eq_true rfl) ⟨(Nat.le_of_ble_eq_true rfl), (Nat.le_of_ble_eq_true rfl)⟩ ?_
  obtain ⟨q2, hq2, h⟩ := gOb h
  refine g_callN_i (As := [.ref (ε.2.2.1 e 10), .int q1]) (rest := []) (j := 405) (host := "DropSignals") (ct_DS_at e 10 16 (gDr_h10 hD) M q1 _ hq2) d_Drops_signal_9 ca_DS_at (by decide +kernel) rfl rfl (Nat.le_of_ble_eq_true rfl) ⟨(Nat.le_of_ble_eq_true rfl), (Nat.le_of_ble_eq_true rfl)⟩ ?_
  obtain rfl := Option.some.inj h
  exact g_iret d_Drops_signal_12 rfl
theorem ct_Drops_signal {l : Launch} {ε : gEnv} (e : Nat) (hD : gDr ε e) (M : gMem) (a0 : Int32) (a1 : Int32) (r : Int32) (h : f_Drops_signal e M a0 a1 = some r) : gCt l ε k_Drops_signal 1 21 [.ref (ε.2.2.1 e 2), .int a0, .int a1] M (some (.int r)) M :=
  gCt_of (by decide) (Nat.le_of_ble_eq_true rfl) rfl (t_Drops_signal e hD M a0 a1 r h)
abbrev k_Drops_showedNone : gMD := (⟨"DropSignals$Drops", "showedNone", "(II)Z"⟩, prog_3_method_8_code, 3, (some .boolean))
theorem w_721 : Cond.instanceMethod ⟨"DropSignals$Drops", "showedNone", "(II)Z"⟩ ∈ gWs := gWs_in (i := 721) (by decide +kernel) rfl
theorem w_722 : Cond.selects "DropSignals$Drops" ⟨"DropSignals$Drops", "showedNone", "(II)Z"⟩ ⟨"DropSignals$Drops", "showedNone", "(II)Z"⟩ ∈ gWs := gWs_in (i := 722) (by decide +kernel) rfl
set_option maxRecDepth 100000 in
theorem ca_Drops_showedNone : gCaV k_Drops_showedNone 2 := ⟨⟨gWs_in (i := 723) rfl rfl, w_38, by decide, by decide, by decide +kernel⟩, w_721, w_722⟩
theorem d_Drops_showedNone_0 : decode prog_3_method_8_code 0 = .ok (.aload_n 0, 1) := by decide +kernel
theorem d_Drops_showedNone_1 : decode prog_3_method_8_code 1 = .ok (.getfield 21, 3) := by decide +kernel
theorem d_Drops_showedNone_4 : decode prog_3_method_8_code 4 = .ok (.iload_n 1, 1) := by decide +kernel
theorem d_Drops_showedNone_5 : decode prog_3_method_8_code 5 = .ok (.iload_n 2, 1) := by decide +kernel
theorem d_Drops_showedNone_6 : decode prog_3_method_8_code 6 = .ok (.invokestatic 37, 3) := by decide +kernel
theorem d_Drops_showedNone_9 : decode prog_3_method_8_code 9 = .ok (.invokestatic 41, 3) := by decide +kernel
theorem d_Drops_showedNone_12 : decode prog_3_method_8_code 12 = .ok (.iconst 1, 1) := by decide +kernel
theorem d_Drops_showedNone_13 : decode prog_3_method_8_code 13 = .ok (.if_icmp .ne 7, 3) := by decide +kernel
theorem d_Drops_showedNone_16 : decode prog_3_method_8_code 16 = .ok (.iconst 1, 1) := by decide +kernel
theorem d_Drops_showedNone_17 : decode prog_3_method_8_code 17 = .ok (.goto 4, 3) := by decide +kernel
theorem d_Drops_showedNone_20 : decode prog_3_method_8_code 20 = .ok (.iconst 0, 1) := by decide +kernel
theorem d_Drops_showedNone_21 : decode prog_3_method_8_code 21 = .ok (.ireturn, 1) := by decide +kernel
noncomputable def f_Drops_showedNone (e : Nat) (M : gMem) (a0 : Int32) (a1 : Int32) : Option Int32 :=
  (f_Drops_place a0 a1).bind fun q1 =>
  (f_DS_at e 11 16 M q1).bind fun q2 =>
  if q2 = 1 then
    some 1
  else
    some 0
theorem t_Drops_showedNone {l : Launch} {ε : gEnv} (e : Nat) (hD : gDr ε e) (M : gMem) (a0 : Int32) (a1 : Int32) (r : Int32) (h : f_Drops_showedNone e M a0 a1 = some r) : gGo l ε k_Drops_showedNone (gR 1 21) (gFn ε (some (.int r)) M) 0 [(0, .ref (ε.2.2.1 e 2)), (1, .int a0), (2, .int a1)] [] M := by
  unfold f_Drops_showedNone at h
  refine g_aload_n d_Drops_showedNone_0 rfl 0 rfl ?_
  refine g_getR d_Drops_showedNone_1 fl_Drops_21 (gDr_h2 hD) rfl ?_
  refine g_iload_n d_Drops_showedNone_4 rfl 1 rfl ?_
  refine g_iload_n d_Drops_showedNone_5 rfl 2 rfl ?_
  obtain ⟨q1, hq1, h⟩ := gOb h
  refine g_callS_i (As := [.int a0, .int a1]) (rest := [.ref (ε.2.2.1 e 11)]) (ct_Drops_place M a0 a1 _ hq1) d_Drops_showedNone_6 ca_Drops_place w_402 rfl rfl (Nat.le_of_ble_eq_true rfl) ⟨(Nat.le_of_ble_eq_true rfl), (Nat.le_of_ble_eq_true rfl)⟩ ?_
  obtain ⟨q2, hq2, h⟩ := gOb h
  refine g_callN_i (As := [.ref (ε.2.2.1 e 11), .int q1]) (rest := []) (j := 405) (host := "DropSignals") (ct_DS_at e 11 16 (gDr_h11 hD) M q1 _ hq2) d_Drops_showedNone_9 ca_DS_at (by decide +kernel) rfl rfl (Nat.le_of_ble_eq_true rfl) ⟨(Nat.le_of_ble_eq_true rfl), (Nat.le_of_ble_eq_true rfl)⟩ ?_
  refine g_iconst (v := 1) d_Drops_showedNone_12 (by decide) ?_
  refine g_icmp_ne (tgt := 20) d_Drops_showedNone_13 (by decide) (fun c3 => ?_) (fun c3 => ?_)
  · rw [if_neg c3] at h
    refine g_iconst (v := 0) d_Drops_showedNone_20 (by decide) ?_
    obtain rfl := Option.some.inj h
    exact g_zret d_Drops_showedNone_21 rfl rfl
  · rw [if_pos c3] at h
    refine g_iconst (v := 1) d_Drops_showedNone_16 (by decide) ?_
    refine g_goto (tgt := 21) d_Drops_showedNone_17 (by decide) ?_
    obtain rfl := Option.some.inj h
    exact g_zret d_Drops_showedNone_21 rfl rfl
theorem ct_Drops_showedNone {l : Launch} {ε : gEnv} (e : Nat) (hD : gDr ε e) (M : gMem) (a0 : Int32) (a1 : Int32) (r : Int32) (h : f_Drops_showedNone e M a0 a1 = some r) : gCt l ε k_Drops_showedNone 1 21 [.ref (ε.2.2.1 e 2), .int a0, .int a1] M (some (.int r)) M :=
  gCt_of (by decide) (Nat.le_of_ble_eq_true rfl) rfl (t_Drops_showedNone e hD M a0 a1 r h)
abbrev k_Drops_showNone : gMD := (⟨"DropSignals$Drops", "showNone", "(II)V"⟩, prog_3_method_9_code, 3, none)
theorem w_609 : Cond.instanceMethod ⟨"DropSignals$Drops", "showNone", "(II)V"⟩ ∈ gWs := gWs_in (i := 609) (by decide +kernel) rfl
theorem w_610 : Cond.selects "DropSignals$Drops" ⟨"DropSignals$Drops", "showNone", "(II)V"⟩ ⟨"DropSignals$Drops", "showNone", "(II)V"⟩ ∈ gWs := gWs_in (i := 610) (by decide +kernel) rfl
set_option maxRecDepth 100000 in
theorem ca_Drops_showNone : gCaV k_Drops_showNone 2 := ⟨⟨gWs_in (i := 611) rfl rfl, w_38, by decide, by decide, by decide +kernel⟩, w_609, w_610⟩
theorem d_Drops_showNone_0 : decode prog_3_method_9_code 0 = .ok (.aload_n 0, 1) := by decide +kernel
theorem d_Drops_showNone_1 : decode prog_3_method_9_code 1 = .ok (.getfield 21, 3) := by decide +kernel
theorem d_Drops_showNone_4 : decode prog_3_method_9_code 4 = .ok (.iload_n 1, 1) := by decide +kernel
theorem d_Drops_showNone_5 : decode prog_3_method_9_code 5 = .ok (.iload_n 2, 1) := by decide +kernel
theorem d_Drops_showNone_6 : decode prog_3_method_9_code 6 = .ok (.invokestatic 37, 3) := by decide +kernel
theorem d_Drops_showNone_9 : decode prog_3_method_9_code 9 = .ok (.iconst 1, 1) := by decide +kernel
theorem d_Drops_showNone_10 : decode prog_3_method_9_code 10 = .ok (.invokestatic 45, 3) := by decide +kernel
theorem d_Drops_showNone_13 : decode prog_3_method_9_code 13 = .ok (.return_, 1) := by decide +kernel
noncomputable def f_Drops_showNone (e : Nat) (M : gMem) (a0 : Int32) (a1 : Int32) : Option gMem :=
  (f_Drops_place a0 a1).bind fun q1 =>
  (f_DS_put e 11 16 M q1 1).bind fun q2 =>
  some q2
theorem t_Drops_showNone {l : Launch} {ε : gEnv} (e : Nat) (hD : gDr ε e) (M : gMem) (a0 : Int32) (a1 : Int32) (r : gMem) (h : f_Drops_showNone e M a0 a1 = some r) : gGo l ε k_Drops_showNone (gR 1 22) (gFn ε none r) 0 [(0, .ref (ε.2.2.1 e 2)), (1, .int a0), (2, .int a1)] [] M := by
  unfold f_Drops_showNone at h
  refine g_aload_n d_Drops_showNone_0 rfl 0 rfl ?_
  refine g_getR d_Drops_showNone_1 fl_Drops_21 (gDr_h2 hD) rfl ?_
  refine g_iload_n d_Drops_showNone_4 rfl 1 rfl ?_
  refine g_iload_n d_Drops_showNone_5 rfl 2 rfl ?_
  obtain ⟨q1, hq1, h⟩ := gOb h
  refine g_callS_i (As := [.int a0, .int a1]) (rest := [.ref (ε.2.2.1 e 11)]) (ct_Drops_place M a0 a1 _ hq1) d_Drops_showNone_6 ca_Drops_place w_402 rfl rfl (Nat.le_of_ble_eq_true rfl) ⟨(Nat.le_of_ble_eq_true rfl), (Nat.le_of_ble_eq_true rfl)⟩ ?_
  refine g_iconst (v := 1) d_Drops_showNone_9 (by decide) ?_
  obtain ⟨q2, hq2, h⟩ := gOb h
  refine g_callN_v (As := [.ref (ε.2.2.1 e 11), .int q1, .int 1]) (rest := []) (j := 612) (host := "DropSignals") (ct_DS_put e 11 16 (gDr_h11 hD) M q1 1 _ hq2) d_Drops_showNone_10 ca_DS_put (by decide +kernel) rfl rfl (Nat.le_of_ble_eq_true rfl) ⟨(Nat.le_of_ble_eq_true rfl), (Nat.le_of_ble_eq_true rfl)⟩ ?_
  obtain rfl := Option.some.inj h
  exact g_vret d_Drops_showNone_13 rfl
theorem ct_Drops_showNone {l : Launch} {ε : gEnv} (e : Nat) (hD : gDr ε e) (M : gMem) (a0 : Int32) (a1 : Int32) (r : gMem) (h : f_Drops_showNone e M a0 a1 = some r) : gCt l ε k_Drops_showNone 1 22 [.ref (ε.2.2.1 e 2), .int a0, .int a1] M none r :=
  gCt_of (by decide) (Nat.le_of_ble_eq_true rfl) rfl (t_Drops_showNone e hD M a0 a1 r h)
abbrev k_DS_addAt : gMD := (⟨"DropSignals", "addAt", "([III)V"⟩, prog_1_method_30_code, 3, none)
theorem w_621 : Cond.static ⟨"DropSignals", "addAt", "([III)V"⟩ ∈ gWs := gWs_in (i := 621) (by decide +kernel) rfl
set_option maxRecDepth 100000 in
theorem ca_DS_addAt : gCaS k_DS_addAt 3 := ⟨⟨gWs_in (i := 622) rfl rfl, w_34, by decide, by decide, by decide +kernel⟩, w_621⟩
theorem d_DS_addAt_0 : decode prog_1_method_30_code 0 = .ok (.iload_n 1, 1) := by decide +kernel
theorem d_DS_addAt_1 : decode prog_1_method_30_code 1 = .ok (.ifCond .lt 16, 3) := by decide +kernel
theorem d_DS_addAt_4 : decode prog_1_method_30_code 4 = .ok (.iload_n 1, 1) := by decide +kernel
theorem d_DS_addAt_5 : decode prog_1_method_30_code 5 = .ok (.aload_n 0, 1) := by decide +kernel
theorem d_DS_addAt_6 : decode prog_1_method_30_code 6 = .ok (.arraylength, 1) := by decide +kernel
theorem d_DS_addAt_7 : decode prog_1_method_30_code 7 = .ok (.if_icmp .ge 10, 3) := by decide +kernel
theorem d_DS_addAt_10 : decode prog_1_method_30_code 10 = .ok (.aload_n 0, 1) := by decide +kernel
theorem d_DS_addAt_11 : decode prog_1_method_30_code 11 = .ok (.iload_n 1, 1) := by decide +kernel
theorem d_DS_addAt_12 : decode prog_1_method_30_code 12 = .ok (.dup2, 1) := by decide +kernel
theorem d_DS_addAt_13 : decode prog_1_method_30_code 13 = .ok (.iaload, 1) := by decide +kernel
theorem d_DS_addAt_14 : decode prog_1_method_30_code 14 = .ok (.iload_n 2, 1) := by decide +kernel
theorem d_DS_addAt_15 : decode prog_1_method_30_code 15 = .ok (.iadd, 1) := by decide +kernel
theorem d_DS_addAt_16 : decode prog_1_method_30_code 16 = .ok (.iastore, 1) := by decide +kernel
theorem d_DS_addAt_17 : decode prog_1_method_30_code 17 = .ok (.return_, 1) := by decide +kernel
noncomputable def f_DS_addAt (g0 : Nat) (c0 : Nat) (n0 : Nat) (M : gMem) (a1 : Int32) (a2 : Int32) : Option gMem :=
  if a1 < 0 then
    some M
  else
    if (Int32.ofNat n0) ≤ a1 then
      some M
    else
      (gRd n0 (M g0 c0) a1).bind fun v1 =>
      (gWr M g0 c0 n0 a1 (v1 + a2)).bind fun M2 =>
      some M2
theorem t_DS_addAt {l : Launch} {ε : gEnv} (g0 : Nat) (c0 : Nat) (n0 : Nat) (h0 : gHas ε g0 c0 (0, n0, [])) (M : gMem) (a1 : Int32) (a2 : Int32) (r : gMem) (h : f_DS_addAt g0 c0 n0 M a1 a2 = some r) : gGo l ε k_DS_addAt (gR 0 0) (gFn ε none r) 0 [(0, .ref (ε.2.2.1 g0 c0)), (1, .int a1), (2, .int a2)] [] M := by
  unfold f_DS_addAt at h
  refine g_iload_n d_DS_addAt_0 rfl 1 rfl ?_
  refine g_if_lt (tgt := 17) d_DS_addAt_1 (by decide) (fun c4 => ?_) (fun c4 => ?_)
  · rw [if_pos c4] at h
    obtain rfl := Option.some.inj h
    exact g_vret d_DS_addAt_17 rfl
  · rw [if_neg c4] at h
    refine g_iload_n d_DS_addAt_4 rfl 1 rfl ?_
    refine g_aload_n d_DS_addAt_5 rfl 0 rfl ?_
    refine g_alen d_DS_addAt_6 h0 ?_
    refine g_icmp_ge (tgt := 17) d_DS_addAt_7 (by decide) (fun c3 => ?_) (fun c3 => ?_)
    · rw [if_pos c3] at h
      obtain rfl := Option.some.inj h
      exact g_vret d_DS_addAt_17 rfl
    · rw [if_neg c3] at h
      refine g_aload_n d_DS_addAt_10 rfl 0 rfl ?_
      refine g_iload_n d_DS_addAt_11 rfl 1 rfl ?_
      refine g_dup2 d_DS_addAt_12 rfl rfl ?_
      obtain ⟨v1, hv1, h⟩ := gOb h
      refine g_iaload d_DS_addAt_13 h0 hv1 ?_
      refine g_iload_n d_DS_addAt_14 rfl 2 rfl ?_
      refine g_iadd d_DS_addAt_15 ?_
      obtain ⟨M2, hM2, h⟩ := gOb h
      refine g_iastore d_DS_addAt_16 h0 hM2 ?_
      obtain rfl := Option.some.inj h
      exact g_vret d_DS_addAt_17 rfl
theorem ct_DS_addAt {l : Launch} {ε : gEnv} (g0 : Nat) (c0 : Nat) (n0 : Nat) (h0 : gHas ε g0 c0 (0, n0, [])) (M : gMem) (a1 : Int32) (a2 : Int32) (r : gMem) (h : f_DS_addAt g0 c0 n0 M a1 a2 = some r) : gCt l ε k_DS_addAt 0 0 [.ref (ε.2.2.1 g0 c0), .int a1, .int a2] M none r :=
  gCt_of (by decide) (Nat.le_of_ble_eq_true rfl) rfl (t_DS_addAt g0 c0 n0 h0 M a1 a2 r h)
abbrev k_Drops_told : gMD := (⟨"DropSignals$Drops", "told", "(II)I"⟩, prog_3_method_11_code, 2, (some .int))
theorem w_431 : Cond.static ⟨"DropSignals$Drops", "told", "(II)I"⟩ ∈ gWs := gWs_in (i := 431) (by decide +kernel) rfl
set_option maxRecDepth 100000 in
theorem ca_Drops_told : gCaS k_Drops_told 2 := ⟨⟨gWs_in (i := 432) rfl rfl, w_38, by decide, by decide, by decide +kernel⟩, w_431⟩
theorem d_Drops_told_0 : decode prog_3_method_11_code 0 = .ok (.iload_n 0, 1) := by decide +kernel
theorem d_Drops_told_1 : decode prog_3_method_11_code 1 = .ok (.iload_n 1, 1) := by decide +kernel
theorem d_Drops_told_2 : decode prog_3_method_11_code 2 = .ok (.if_icmp .le 7, 3) := by decide +kernel
theorem d_Drops_told_5 : decode prog_3_method_11_code 5 = .ok (.iconst 2, 1) := by decide +kernel
theorem d_Drops_told_6 : decode prog_3_method_11_code 6 = .ok (.goto 4, 3) := by decide +kernel
theorem d_Drops_told_9 : decode prog_3_method_11_code 9 = .ok (.iconst 1, 1) := by decide +kernel
theorem d_Drops_told_10 : decode prog_3_method_11_code 10 = .ok (.ireturn, 1) := by decide +kernel
noncomputable def f_Drops_told (a0 : Int32) (a1 : Int32) : Option Int32 :=
  if a0 ≤ a1 then
    some 1
  else
    some 2
theorem t_Drops_told {l : Launch} {ε : gEnv} (M : gMem) (a0 : Int32) (a1 : Int32) (r : Int32) (h : f_Drops_told a0 a1 = some r) : gGo l ε k_Drops_told (gR 0 0) (gFn ε (some (.int r)) M) 0 [(0, .int a0), (1, .int a1)] [] M := by
  unfold f_Drops_told at h
  refine g_iload_n d_Drops_told_0 rfl 0 rfl ?_
  refine g_iload_n d_Drops_told_1 rfl 1 rfl ?_
  refine g_icmp_le (tgt := 9) d_Drops_told_2 (by decide) (fun c1 => ?_) (fun c1 => ?_)
  · rw [if_pos c1] at h
    refine g_iconst (v := 1) d_Drops_told_9 (by decide) ?_
    obtain rfl := Option.some.inj h
    exact g_iret d_Drops_told_10 rfl
  · rw [if_neg c1] at h
    refine g_iconst (v := 2) d_Drops_told_5 (by decide) ?_
    refine g_goto (tgt := 10) d_Drops_told_6 (by decide) ?_
    obtain rfl := Option.some.inj h
    exact g_iret d_Drops_told_10 rfl
theorem ct_Drops_told {l : Launch} {ε : gEnv} (M : gMem) (a0 : Int32) (a1 : Int32) (r : Int32) (h : f_Drops_told a0 a1 = some r) : gCt l ε k_Drops_told 0 0 [.int a0, .int a1] M (some (.int r)) M :=
  gCt_of (by decide) (Nat.le_of_ble_eq_true rfl) rfl (t_Drops_told M a0 a1 r h)
abbrev k_Drops_add : gMD := (⟨"DropSignals$Drops", "add", "(III)I"⟩, prog_3_method_10_code, 7, (some .int))
theorem w_617 : Cond.instanceMethod ⟨"DropSignals$Drops", "add", "(III)I"⟩ ∈ gWs := gWs_in (i := 617) (by decide +kernel) rfl
theorem w_618 : Cond.selects "DropSignals$Drops" ⟨"DropSignals$Drops", "add", "(III)I"⟩ ⟨"DropSignals$Drops", "add", "(III)I"⟩ ∈ gWs := gWs_in (i := 618) (by decide +kernel) rfl
set_option maxRecDepth 100000 in
theorem ca_Drops_add : gCaV k_Drops_add 3 := ⟨⟨gWs_in (i := 619) rfl rfl, w_38, by decide, by decide, by decide +kernel⟩, w_617, w_618⟩
theorem d_Drops_add_0 : decode prog_3_method_10_code 0 = .ok (.iload_n 1, 1) := by decide +kernel
theorem d_Drops_add_1 : decode prog_3_method_10_code 1 = .ok (.iload_n 2, 1) := by decide +kernel
theorem d_Drops_add_2 : decode prog_3_method_10_code 2 = .ok (.invokestatic 37, 3) := by decide +kernel
theorem d_Drops_add_5 : decode prog_3_method_10_code 5 = .ok (.istore 4, 2) := by decide +kernel
theorem d_Drops_add_7 : decode prog_3_method_10_code 7 = .ok (.aload_n 0, 1) := by decide +kernel
theorem d_Drops_add_8 : decode prog_3_method_10_code 8 = .ok (.getfield 9, 3) := by decide +kernel
theorem d_Drops_add_11 : decode prog_3_method_10_code 11 = .ok (.iload 4, 2) := by decide +kernel
theorem d_Drops_add_13 : decode prog_3_method_10_code 13 = .ok (.iconst 1, 1) := by decide +kernel
theorem d_Drops_add_14 : decode prog_3_method_10_code 14 = .ok (.invokestatic 49, 3) := by decide +kernel
theorem d_Drops_add_17 : decode prog_3_method_10_code 17 = .ok (.aload_n 0, 1) := by decide +kernel
theorem d_Drops_add_18 : decode prog_3_method_10_code 18 = .ok (.getfield 9, 3) := by decide +kernel
theorem d_Drops_add_21 : decode prog_3_method_10_code 21 = .ok (.iload 4, 2) := by decide +kernel
theorem d_Drops_add_23 : decode prog_3_method_10_code 23 = .ok (.invokestatic 41, 3) := by decide +kernel
theorem d_Drops_add_26 : decode prog_3_method_10_code 26 = .ok (.istore 5, 2) := by decide +kernel
theorem d_Drops_add_28 : decode prog_3_method_10_code 28 = .ok (.iload 5, 2) := by decide +kernel
theorem d_Drops_add_30 : decode prog_3_method_10_code 30 = .ok (.iconst 1, 1) := by decide +kernel
theorem d_Drops_add_31 : decode prog_3_method_10_code 31 = .ok (.if_icmp .ne 13, 3) := by decide +kernel
theorem d_Drops_add_34 : decode prog_3_method_10_code 34 = .ok (.aload_n 0, 1) := by decide +kernel
theorem d_Drops_add_35 : decode prog_3_method_10_code 35 = .ok (.getfield 15, 3) := by decide +kernel
theorem d_Drops_add_38 : decode prog_3_method_10_code 38 = .ok (.iload 4, 2) := by decide +kernel
theorem d_Drops_add_40 : decode prog_3_method_10_code 40 = .ok (.iload_n 3, 1) := by decide +kernel
theorem d_Drops_add_41 : decode prog_3_method_10_code 41 = .ok (.invokestatic 45, 3) := by decide +kernel
theorem d_Drops_add_44 : decode prog_3_method_10_code 44 = .ok (.iload 5, 2) := by decide +kernel
theorem d_Drops_add_46 : decode prog_3_method_10_code 46 = .ok (.iconst 2, 1) := by decide +kernel
theorem d_Drops_add_47 : decode prog_3_method_10_code 47 = .ok (.if_icmp .eq 5, 3) := by decide +kernel
theorem d_Drops_add_50 : decode prog_3_method_10_code 50 = .ok (.iconst 0, 1) := by decide +kernel
theorem d_Drops_add_51 : decode prog_3_method_10_code 51 = .ok (.ireturn, 1) := by decide +kernel
theorem d_Drops_add_52 : decode prog_3_method_10_code 52 = .ok (.aload_n 0, 1) := by decide +kernel
theorem d_Drops_add_53 : decode prog_3_method_10_code 53 = .ok (.getfield 15, 3) := by decide +kernel
theorem d_Drops_add_56 : decode prog_3_method_10_code 56 = .ok (.iload 4, 2) := by decide +kernel
theorem d_Drops_add_58 : decode prog_3_method_10_code 58 = .ok (.invokestatic 41, 3) := by decide +kernel
theorem d_Drops_add_61 : decode prog_3_method_10_code 61 = .ok (.iload_n 3, 1) := by decide +kernel
theorem d_Drops_add_62 : decode prog_3_method_10_code 62 = .ok (.invokestatic 52, 3) := by decide +kernel
theorem d_Drops_add_65 : decode prog_3_method_10_code 65 = .ok (.istore 6, 2) := by decide +kernel
theorem d_Drops_add_67 : decode prog_3_method_10_code 67 = .ok (.aload_n 0, 1) := by decide +kernel
theorem d_Drops_add_68 : decode prog_3_method_10_code 68 = .ok (.getfield 18, 3) := by decide +kernel
theorem d_Drops_add_71 : decode prog_3_method_10_code 71 = .ok (.iload 4, 2) := by decide +kernel
theorem d_Drops_add_73 : decode prog_3_method_10_code 73 = .ok (.iload 6, 2) := by decide +kernel
theorem d_Drops_add_75 : decode prog_3_method_10_code 75 = .ok (.invokestatic 45, 3) := by decide +kernel
theorem d_Drops_add_78 : decode prog_3_method_10_code 78 = .ok (.iload 6, 2) := by decide +kernel
theorem d_Drops_add_80 : decode prog_3_method_10_code 80 = .ok (.ireturn, 1) := by decide +kernel
theorem w_623 : Cond.methodLink "DropSignals$Drops" 52 ⟨"DropSignals$Drops", "told", "(II)I"⟩ ∈ gWs := gWs_in (i := 623) (by decide +kernel) rfl
noncomputable def f_Drops_add_b44 (e : Nat) (M : gMem) (x3 : Int32) (x4 : Int32) (x5 : Int32) : Option (Int32 × gMem) :=
  if x5 = 2 then
    (f_DS_at e 9 16 M x4).bind fun q4 =>
    (f_Drops_told q4 x3).bind fun q5 =>
    (f_DS_put e 10 16 M x4 q5).bind fun q6 =>
    some (q5, q6)
  else
    some (0, M)
theorem t_Drops_add_b44 {l : Launch} {ε : gEnv} (e : Nat) (hD : gDr ε e) (M : gMem) (x3 : Int32) (x4 : Int32) (x5 : Int32) (r : (Int32 × gMem)) (h : f_Drops_add_b44 e M x3 x4 x5 = some r) : gGo l ε k_Drops_add (gR 1 22) (gFn ε (some (.int r.1)) r.2) 44 [(0, .ref (ε.2.2.1 e 2)), (3, .int x3), (4, .int x4), (5, .int x5)] [] M := by
  unfold f_Drops_add_b44 at h
  refine g_iload d_Drops_add_44 3 rfl ?_
  refine g_iconst (v := 2) d_Drops_add_46 (by decide) ?_
  refine g_icmp_eq (tgt := 52) d_Drops_add_47 (by decide) (fun c7 => ?_) (fun c7 => ?_)
  · rw [if_pos c7] at h
    refine g_aload_n d_Drops_add_52 rfl 0 rfl ?_
    refine g_getR d_Drops_add_53 fl_Drops_15 (gDr_h2 hD) rfl ?_
    refine g_iload d_Drops_add_56 2 rfl ?_
    obtain ⟨q4, hq4, h⟩ := gOb h
    refine g_callN_i (As := [.ref (ε.2.2.1 e 9), .int x4]) (rest := []) (j := 405) (host := "DropSignals") (ct_DS_at e 9 16 (gDr_h9 hD) M x4 _ hq4) d_Drops_add_58 ca_DS_at (by decide +kernel) rfl rfl (Nat.le_of_ble_eq_true rfl) ⟨(Nat.le_of_ble_eq_true rfl), (Nat.le_of_ble_eq_true rfl)⟩ ?_
    refine g_iload_n d_Drops_add_61 rfl 1 rfl ?_
    obtain ⟨q5, hq5, h⟩ := gOb h
    refine g_callS_i (As := [.int q4, .int x3]) (rest := []) (ct_Drops_told M q4 x3 _ hq5) d_Drops_add_62 ca_Drops_told w_623 rfl rfl (Nat.le_of_ble_eq_true rfl) ⟨(Nat.le_of_ble_eq_true rfl), (Nat.le_of_ble_eq_true rfl)⟩ ?_
    refine g_istore (L' := [(6, .int q5), (0, .ref (ε.2.2.1 e 2)), (3, .int x3), (4, .int x4), (5, .int x5)]) d_Drops_add_65 (by decide) rfl ?_
    refine g_aload_n d_Drops_add_67 rfl 1 rfl ?_
    refine g_getR d_Drops_add_68 fl_Drops_18 (gDr_h2 hD) rfl ?_
    refine g_iload d_Drops_add_71 3 rfl ?_
    refine g_iload d_Drops_add_73 0 rfl ?_
    obtain ⟨q6, hq6, h⟩ := gOb h
    refine g_callN_v (As := [.ref (ε.2.2.1 e 10), .int x4, .int q5]) (rest := []) (j := 612) (host := "DropSignals") (ct_DS_put e 10 16 (gDr_h10 hD) M x4 q5 _ hq6) d_Drops_add_75 ca_DS_put (by decide +kernel) rfl rfl (Nat.le_of_ble_eq_true rfl) ⟨(Nat.le_of_ble_eq_true rfl), (Nat.le_of_ble_eq_true rfl)⟩ ?_
    refine g_iload d_Drops_add_78 0 rfl ?_
    obtain rfl := Option.some.inj h
    exact g_iret d_Drops_add_80 rfl
  · rw [if_neg c7] at h
    refine g_iconst (v := 0) d_Drops_add_50 (by decide) ?_
    obtain rfl := Option.some.inj h
    exact g_iret d_Drops_add_51 rfl
noncomputable def f_Drops_add (e : Nat) (M : gMem) (a0 : Int32) (a1 : Int32) (a2 : Int32) : Option (Int32 × gMem) :=
  (f_Drops_place a0 a1).bind fun q1 =>
  (f_DS_addAt e 8 16 M q1 1).bind fun q2 =>
  (f_DS_at e 8 16 q2 q1).bind fun q3 =>
  if q3 = 1 then
    (f_DS_put e 9 16 q2 q1 a2).bind fun q8 =>
    f_Drops_add_b44 e q8 a2 q1 q3
  else
    f_Drops_add_b44 e q2 a2 q1 q3
theorem t_Drops_add {l : Launch} {ε : gEnv} (e : Nat) (hD : gDr ε e) (M : gMem) (a0 : Int32) (a1 : Int32) (a2 : Int32) (r : (Int32 × gMem)) (h : f_Drops_add e M a0 a1 a2 = some r) : gGo l ε k_Drops_add (gR 1 22) (gFn ε (some (.int r.1)) r.2) 0 [(0, .ref (ε.2.2.1 e 2)), (1, .int a0), (2, .int a1), (3, .int a2)] [] M := by
  unfold f_Drops_add at h
  refine g_iload_n d_Drops_add_0 rfl 1 rfl ?_
  refine g_iload_n d_Drops_add_1 rfl 2 rfl ?_
  obtain ⟨q1, hq1, h⟩ := gOb h
  refine g_callS_i (As := [.int a0, .int a1]) (rest := []) (ct_Drops_place M a0 a1 _ hq1) d_Drops_add_2 ca_Drops_place w_402 rfl rfl (Nat.le_of_ble_eq_true rfl) ⟨(Nat.le_of_ble_eq_true rfl), (Nat.le_of_ble_eq_true rfl)⟩ ?_
  refine g_istore (L' := [(4, .int q1), (0, .ref (ε.2.2.1 e 2)), (1, .int a0), (2, .int a1), (3, .int a2)]) d_Drops_add_5 (by decide) rfl ?_
  refine g_aload_n d_Drops_add_7 rfl 1 rfl ?_
  refine g_getR d_Drops_add_8 fl_Drops_9 (gDr_h2 hD) rfl ?_
  refine g_iload d_Drops_add_11 0 rfl ?_
  refine g_iconst (v := 1) d_Drops_add_13 (by decide) ?_
  obtain ⟨q2, hq2, h⟩ := gOb h
  refine g_callN_v (As := [.ref (ε.2.2.1 e 8), .int q1, .int 1]) (rest := []) (j := 620) (host := "DropSignals") (ct_DS_addAt e 8 16 (gDr_h8 hD) M q1 1 _ hq2) d_Drops_add_14 ca_DS_addAt (by decide +kernel) rfl rfl (Nat.le_of_ble_eq_true rfl) ⟨(Nat.le_of_ble_eq_true rfl), (Nat.le_of_ble_eq_true rfl)⟩ ?_
  refine g_aload_n d_Drops_add_17 rfl 1 rfl ?_
  refine g_getR d_Drops_add_18 fl_Drops_9 (gDr_h2 hD) rfl ?_
  refine g_iload d_Drops_add_21 0 rfl ?_
  obtain ⟨q3, hq3, h⟩ := gOb h
  refine g_callN_i (As := [.ref (ε.2.2.1 e 8), .int q1]) (rest := []) (j := 405) (host := "DropSignals") (ct_DS_at e 8 16 (gDr_h8 hD) q2 q1 _ hq3) d_Drops_add_23 ca_DS_at (by decide +kernel) rfl rfl (Nat.le_of_ble_eq_true rfl) ⟨(Nat.le_of_ble_eq_true rfl), (Nat.le_of_ble_eq_true rfl)⟩ ?_
  refine g_istore (L' := [(5, .int q3), (4, .int q1), (0, .ref (ε.2.2.1 e 2)), (1, .int a0), (2, .int a1), (3, .int a2)]) d_Drops_add_26 (by decide) rfl ?_
  refine g_iload d_Drops_add_28 0 rfl ?_
  refine g_iconst (v := 1) d_Drops_add_30 (by decide) ?_
  refine g_icmp_ne (tgt := 44) d_Drops_add_31 (by decide) (fun c9 => ?_) (fun c9 => ?_)
  · rw [if_neg c9] at h
    refine gGo_sub [2, 5, 1, 0] rfl ?_
    exact t_Drops_add_b44 e hD q2 a2 q1 q3 _ h
  · rw [if_pos c9] at h
    refine g_aload_n d_Drops_add_34 rfl 2 rfl ?_
    refine g_getR d_Drops_add_35 fl_Drops_15 (gDr_h2 hD) rfl ?_
    refine g_iload d_Drops_add_38 1 rfl ?_
    refine g_iload_n d_Drops_add_40 rfl 5 rfl ?_
    obtain ⟨q8, hq8, h⟩ := gOb h
    refine g_callN_v (As := [.ref (ε.2.2.1 e 9), .int q1, .int a2]) (rest := []) (j := 612) (host := "DropSignals") (ct_DS_put e 9 16 (gDr_h9 hD) q2 q1 a2 _ hq8) d_Drops_add_41 ca_DS_put (by decide +kernel) rfl rfl (Nat.le_of_ble_eq_true rfl) ⟨(Nat.le_of_ble_eq_true rfl), (Nat.le_of_ble_eq_true rfl)⟩ ?_
    refine gGo_sub [2, 5, 1, 0] rfl ?_
    exact t_Drops_add_b44 e hD q8 a2 q1 q3 _ h
theorem ct_Drops_add {l : Launch} {ε : gEnv} (e : Nat) (hD : gDr ε e) (M : gMem) (a0 : Int32) (a1 : Int32) (a2 : Int32) (r : (Int32 × gMem)) (h : f_Drops_add e M a0 a1 a2 = some r) : gCt l ε k_Drops_add 1 22 [.ref (ε.2.2.1 e 2), .int a0, .int a1, .int a2] M (some (.int r.1)) r.2 :=
  gCt_of (by decide) (Nat.le_of_ble_eq_true rfl) rfl (t_Drops_add e hD M a0 a1 a2 r h)
abbrev k_Drops_truthFor : gMD := (⟨"DropSignals$Drops", "truthFor", "(I)I"⟩, prog_3_method_12_code, 1, (some .int))
theorem w_424 : Cond.static ⟨"DropSignals$Drops", "truthFor", "(I)I"⟩ ∈ gWs := gWs_in (i := 424) (by decide +kernel) rfl
set_option maxRecDepth 100000 in
theorem ca_Drops_truthFor : gCaS k_Drops_truthFor 1 := ⟨⟨gWs_in (i := 425) rfl rfl, w_38, by decide, by decide, by decide +kernel⟩, w_424⟩
theorem d_Drops_truthFor_0 : decode prog_3_method_12_code 0 = .ok (.iload_n 0, 1) := by decide +kernel
theorem d_Drops_truthFor_1 : decode prog_3_method_12_code 1 = .ok (.iconst 2, 1) := by decide +kernel
theorem d_Drops_truthFor_2 : decode prog_3_method_12_code 2 = .ok (.irem, 1) := by decide +kernel
theorem d_Drops_truthFor_3 : decode prog_3_method_12_code 3 = .ok (.ifCond .ne 7, 3) := by decide +kernel
theorem d_Drops_truthFor_6 : decode prog_3_method_12_code 6 = .ok (.iconst 2, 1) := by decide +kernel
theorem d_Drops_truthFor_7 : decode prog_3_method_12_code 7 = .ok (.goto 4, 3) := by decide +kernel
theorem d_Drops_truthFor_10 : decode prog_3_method_12_code 10 = .ok (.iconst 1, 1) := by decide +kernel
theorem d_Drops_truthFor_11 : decode prog_3_method_12_code 11 = .ok (.ireturn, 1) := by decide +kernel
noncomputable def f_Drops_truthFor (a0 : Int32) : Option Int32 :=
  if (gRem a0 2) = 0 then
    some 2
  else
    some 1
theorem t_Drops_truthFor {l : Launch} {ε : gEnv} (M : gMem) (a0 : Int32) (r : Int32) (h : f_Drops_truthFor a0 = some r) : gGo l ε k_Drops_truthFor (gR 0 0) (gFn ε (some (.int r)) M) 0 [(0, .int a0)] [] M := by
  unfold f_Drops_truthFor at h
  refine g_iload_n d_Drops_truthFor_0 rfl 0 rfl ?_
  refine g_iconst (v := 2) d_Drops_truthFor_1 (by decide) ?_
  refine g_rem d_Drops_truthFor_2 (by decide) ?_
  refine g_if_ne (tgt := 10) d_Drops_truthFor_3 (by decide) (fun c1 => ?_) (fun c1 => ?_)
  · rw [if_neg c1] at h
    refine g_iconst (v := 1) d_Drops_truthFor_10 (by decide) ?_
    obtain rfl := Option.some.inj h
    exact g_iret d_Drops_truthFor_11 rfl
  · rw [if_pos c1] at h
    refine g_iconst (v := 2) d_Drops_truthFor_6 (by decide) ?_
    refine g_goto (tgt := 11) d_Drops_truthFor_7 (by decide) ?_
    obtain rfl := Option.some.inj h
    exact g_iret d_Drops_truthFor_11 rfl
theorem ct_Drops_truthFor {l : Launch} {ε : gEnv} (M : gMem) (a0 : Int32) (r : Int32) (h : f_Drops_truthFor a0 = some r) : gCt l ε k_Drops_truthFor 0 0 [.int a0] M (some (.int r)) M :=
  gCt_of (by decide) (Nat.le_of_ble_eq_true rfl) rfl (t_Drops_truthFor M a0 r h)
abbrev k_DS_isBid : gMD := (⟨"DropSignals", "isBid", "(II)Z"⟩, prog_1_method_35_code, 2, (some .boolean))
theorem w_573 : Cond.static ⟨"DropSignals", "isBid", "(II)Z"⟩ ∈ gWs := gWs_in (i := 573) (by decide +kernel) rfl
set_option maxRecDepth 100000 in
theorem ca_DS_isBid : gCaS k_DS_isBid 2 := ⟨⟨gWs_in (i := 574) rfl rfl, w_34, by decide, by decide, by decide +kernel⟩, w_573⟩
theorem d_DS_isBid_0 : decode prog_1_method_35_code 0 = .ok (.iload_n 0, 1) := by decide +kernel
theorem d_DS_isBid_1 : decode prog_1_method_35_code 1 = .ok (.iconst 1, 1) := by decide +kernel
theorem d_DS_isBid_2 : decode prog_1_method_35_code 2 = .ok (.if_icmp .lt 21, 3) := by decide +kernel
theorem d_DS_isBid_5 : decode prog_1_method_35_code 5 = .ok (.iload_n 0, 1) := by decide +kernel
theorem d_DS_isBid_6 : decode prog_1_method_35_code 6 = .ok (.iconst 4, 1) := by decide +kernel
theorem d_DS_isBid_7 : decode prog_1_method_35_code 7 = .ok (.if_icmp .gt 16, 3) := by decide +kernel
theorem d_DS_isBid_10 : decode prog_1_method_35_code 10 = .ok (.iload_n 1, 1) := by decide +kernel
theorem d_DS_isBid_11 : decode prog_1_method_35_code 11 = .ok (.ifCond .lt 12, 3) := by decide +kernel
theorem d_DS_isBid_14 : decode prog_1_method_35_code 14 = .ok (.iload_n 1, 1) := by decide +kernel
theorem d_DS_isBid_15 : decode prog_1_method_35_code 15 = .ok (.iconst 4, 1) := by decide +kernel
theorem d_DS_isBid_16 : decode prog_1_method_35_code 16 = .ok (.if_icmp .gt 7, 3) := by decide +kernel
theorem d_DS_isBid_19 : decode prog_1_method_35_code 19 = .ok (.iconst 1, 1) := by decide +kernel
theorem d_DS_isBid_20 : decode prog_1_method_35_code 20 = .ok (.goto 4, 3) := by decide +kernel
theorem d_DS_isBid_23 : decode prog_1_method_35_code 23 = .ok (.iconst 0, 1) := by decide +kernel
theorem d_DS_isBid_24 : decode prog_1_method_35_code 24 = .ok (.ireturn, 1) := by decide +kernel
noncomputable def f_DS_isBid (a0 : Int32) (a1 : Int32) : Option Int32 :=
  if a0 < 1 then
    some 0
  else
    if 4 < a0 then
      some 0
    else
      if a1 < 0 then
        some 0
      else
        if 4 < a1 then
          some 0
        else
          some 1
theorem t_DS_isBid {l : Launch} {ε : gEnv} (M : gMem) (a0 : Int32) (a1 : Int32) (r : Int32) (h : f_DS_isBid a0 a1 = some r) : gGo l ε k_DS_isBid (gR 0 0) (gFn ε (some (.int r)) M) 0 [(0, .int a0), (1, .int a1)] [] M := by
  unfold f_DS_isBid at h
  refine g_iload_n d_DS_isBid_0 rfl 0 rfl ?_
  refine g_iconst (v := 1) d_DS_isBid_1 (by decide) ?_
  refine g_icmp_lt (tgt := 23) d_DS_isBid_2 (by decide) (fun c4 => ?_) (fun c4 => ?_)
  · rw [if_pos c4] at h
    refine g_iconst (v := 0) d_DS_isBid_23 (by decide) ?_
    obtain rfl := Option.some.inj h
    exact g_zret d_DS_isBid_24 rfl rfl
  · rw [if_neg c4] at h
    refine g_iload_n d_DS_isBid_5 rfl 0 rfl ?_
    refine g_iconst (v := 4) d_DS_isBid_6 (by decide) ?_
    refine g_icmp_gt (tgt := 23) d_DS_isBid_7 (by decide) (fun c3 => ?_) (fun c3 => ?_)
    · rw [if_pos c3] at h
      refine g_iconst (v := 0) d_DS_isBid_23 (by decide) ?_
      obtain rfl := Option.some.inj h
      exact g_zret d_DS_isBid_24 rfl rfl
    · rw [if_neg c3] at h
      refine g_iload_n d_DS_isBid_10 rfl 1 rfl ?_
      refine g_if_lt (tgt := 23) d_DS_isBid_11 (by decide) (fun c2 => ?_) (fun c2 => ?_)
      · rw [if_pos c2] at h
        refine g_iconst (v := 0) d_DS_isBid_23 (by decide) ?_
        obtain rfl := Option.some.inj h
        exact g_zret d_DS_isBid_24 rfl rfl
      · rw [if_neg c2] at h
        refine g_iload_n d_DS_isBid_14 rfl 1 rfl ?_
        refine g_iconst (v := 4) d_DS_isBid_15 (by decide) ?_
        refine g_icmp_gt (tgt := 23) d_DS_isBid_16 (by decide) (fun c1 => ?_) (fun c1 => ?_)
        · rw [if_pos c1] at h
          refine g_iconst (v := 0) d_DS_isBid_23 (by decide) ?_
          obtain rfl := Option.some.inj h
          exact g_zret d_DS_isBid_24 rfl rfl
        · rw [if_neg c1] at h
          refine g_iconst (v := 1) d_DS_isBid_19 (by decide) ?_
          refine g_goto (tgt := 24) d_DS_isBid_20 (by decide) ?_
          obtain rfl := Option.some.inj h
          exact g_zret d_DS_isBid_24 rfl rfl
theorem ct_DS_isBid {l : Launch} {ε : gEnv} (M : gMem) (a0 : Int32) (a1 : Int32) (r : Int32) (h : f_DS_isBid a0 a1 = some r) : gCt l ε k_DS_isBid 0 0 [.int a0, .int a1] M (some (.int r)) M :=
  gCt_of (by decide) (Nat.le_of_ble_eq_true rfl) rfl (t_DS_isBid M a0 a1 r h)
abbrev k_DS_nextPlayer : gMD := (⟨"DropSignals", "nextPlayer", "(I)I"⟩, prog_1_method_37_code, 1, (some .int))
theorem w_580 : Cond.static ⟨"DropSignals", "nextPlayer", "(I)I"⟩ ∈ gWs := gWs_in (i := 580) (by decide +kernel) rfl
set_option maxRecDepth 100000 in
theorem ca_DS_nextPlayer : gCaS k_DS_nextPlayer 1 := ⟨⟨gWs_in (i := 581) rfl rfl, w_34, by decide, by decide, by decide +kernel⟩, w_580⟩
theorem d_DS_nextPlayer_0 : decode prog_1_method_37_code 0 = .ok (.iload_n 0, 1) := by decide +kernel
theorem d_DS_nextPlayer_1 : decode prog_1_method_37_code 1 = .ok (.iconst 1, 1) := by decide +kernel
theorem d_DS_nextPlayer_2 : decode prog_1_method_37_code 2 = .ok (.iadd, 1) := by decide +kernel
theorem d_DS_nextPlayer_3 : decode prog_1_method_37_code 3 = .ok (.iconst 4, 1) := by decide +kernel
theorem d_DS_nextPlayer_4 : decode prog_1_method_37_code 4 = .ok (.irem, 1) := by decide +kernel
theorem d_DS_nextPlayer_5 : decode prog_1_method_37_code 5 = .ok (.ireturn, 1) := by decide +kernel
noncomputable def f_DS_nextPlayer (a0 : Int32) : Option Int32 :=
  some (gRem (a0 + 1) 4)
theorem t_DS_nextPlayer {l : Launch} {ε : gEnv} (M : gMem) (a0 : Int32) (r : Int32) (h : f_DS_nextPlayer a0 = some r) : gGo l ε k_DS_nextPlayer (gR 0 0) (gFn ε (some (.int r)) M) 0 [(0, .int a0)] [] M := by
  unfold f_DS_nextPlayer at h
  refine g_iload_n d_DS_nextPlayer_0 rfl 0 rfl ?_
  refine g_iconst (v := 1) d_DS_nextPlayer_1 (by decide) ?_
  refine g_iadd d_DS_nextPlayer_2 ?_
  refine g_iconst (v := 4) d_DS_nextPlayer_3 (by decide) ?_
  refine g_rem d_DS_nextPlayer_4 (by decide) ?_
  obtain rfl := Option.some.inj h
  exact g_iret d_DS_nextPlayer_5 rfl
theorem ct_DS_nextPlayer {l : Launch} {ε : gEnv} (M : gMem) (a0 : Int32) (r : Int32) (h : f_DS_nextPlayer a0 = some r) : gCt l ε k_DS_nextPlayer 0 0 [.int a0] M (some (.int r)) M :=
  gCt_of (by decide) (Nat.le_of_ble_eq_true rfl) rfl (t_DS_nextPlayer M a0 r h)
abbrev k_DS_isSmall : gMD := (⟨"DropSignals", "isSmall", "(I)Z"⟩, prog_1_method_36_code, 1, (some .boolean))
theorem w_614 : Cond.static ⟨"DropSignals", "isSmall", "(I)Z"⟩ ∈ gWs := gWs_in (i := 614) (by decide +kernel) rfl
set_option maxRecDepth 100000 in
theorem ca_DS_isSmall : gCaS k_DS_isSmall 1 := ⟨⟨gWs_in (i := 615) rfl rfl, w_34, by decide, by decide, by decide +kernel⟩, w_614⟩
theorem d_DS_isSmall_0 : decode prog_1_method_36_code 0 = .ok (.iload_n 0, 1) := by decide +kernel
theorem d_DS_isSmall_1 : decode prog_1_method_36_code 1 = .ok (.ifCond .lt 15, 3) := by decide +kernel
theorem d_DS_isSmall_4 : decode prog_1_method_36_code 4 = .ok (.iload_n 0, 1) := by decide +kernel
theorem d_DS_isSmall_5 : decode prog_1_method_36_code 5 = .ok (.bipush 8, 2) := by decide +kernel
theorem d_DS_isSmall_7 : decode prog_1_method_36_code 7 = .ok (.irem, 1) := by decide +kernel
theorem d_DS_isSmall_8 : decode prog_1_method_36_code 8 = .ok (.iconst 4, 1) := by decide +kernel
theorem d_DS_isSmall_9 : decode prog_1_method_36_code 9 = .ok (.if_icmp .ge 7, 3) := by decide +kernel
theorem d_DS_isSmall_12 : decode prog_1_method_36_code 12 = .ok (.iconst 1, 1) := by decide +kernel
theorem d_DS_isSmall_13 : decode prog_1_method_36_code 13 = .ok (.goto 4, 3) := by decide +kernel
theorem d_DS_isSmall_16 : decode prog_1_method_36_code 16 = .ok (.iconst 0, 1) := by decide +kernel
theorem d_DS_isSmall_17 : decode prog_1_method_36_code 17 = .ok (.ireturn, 1) := by decide +kernel
noncomputable def f_DS_isSmall (a0 : Int32) : Option Int32 :=
  if a0 < 0 then
    some 0
  else
    if 4 ≤ (gRem a0 8) then
      some 0
    else
      some 1
theorem t_DS_isSmall {l : Launch} {ε : gEnv} (M : gMem) (a0 : Int32) (r : Int32) (h : f_DS_isSmall a0 = some r) : gGo l ε k_DS_isSmall (gR 0 0) (gFn ε (some (.int r)) M) 0 [(0, .int a0)] [] M := by
  unfold f_DS_isSmall at h
  refine g_iload_n d_DS_isSmall_0 rfl 0 rfl ?_
  refine g_if_lt (tgt := 16) d_DS_isSmall_1 (by decide) (fun c2 => ?_) (fun c2 => ?_)
  · rw [if_pos c2] at h
    refine g_iconst (v := 0) d_DS_isSmall_16 (by decide) ?_
    obtain rfl := Option.some.inj h
    exact g_zret d_DS_isSmall_17 rfl rfl
  · rw [if_neg c2] at h
    refine g_iload_n d_DS_isSmall_4 rfl 0 rfl ?_
    refine g_bipush (v := 8) d_DS_isSmall_5 (by decide) ?_
    refine g_rem d_DS_isSmall_7 (by decide) ?_
    refine g_iconst (v := 4) d_DS_isSmall_8 (by decide) ?_
    refine g_icmp_ge (tgt := 16) d_DS_isSmall_9 (by decide) (fun c1 => ?_) (fun c1 => ?_)
    · rw [if_pos c1] at h
      refine g_iconst (v := 0) d_DS_isSmall_16 (by decide) ?_
      obtain rfl := Option.some.inj h
      exact g_zret d_DS_isSmall_17 rfl rfl
    · rw [if_neg c1] at h
      refine g_iconst (v := 1) d_DS_isSmall_12 (by decide) ?_
      refine g_goto (tgt := 17) d_DS_isSmall_13 (by decide) ?_
      obtain rfl := Option.some.inj h
      exact g_zret d_DS_isSmall_17 rfl rfl
theorem ct_DS_isSmall {l : Launch} {ε : gEnv} (M : gMem) (a0 : Int32) (r : Int32) (h : f_DS_isSmall a0 = some r) : gCt l ε k_DS_isSmall 0 0 [.int a0] M (some (.int r)) M :=
  gCt_of (by decide) (Nat.le_of_ble_eq_true rfl) rfl (t_DS_isSmall M a0 r h)
abbrev k_DS_beats : gMD := (⟨"DropSignals", "beats", "(III)Z"⟩, prog_1_method_38_code, 4, (some .boolean))
theorem w_641 : Cond.static ⟨"DropSignals", "beats", "(III)Z"⟩ ∈ gWs := gWs_in (i := 641) (by decide +kernel) rfl
set_option maxRecDepth 100000 in
theorem ca_DS_beats : gCaS k_DS_beats 3 := ⟨⟨gWs_in (i := 642) rfl rfl, w_34, by decide, by decide, by decide +kernel⟩, w_641⟩
theorem d_DS_beats_0 : decode prog_1_method_38_code 0 = .ok (.iload_n 0, 1) := by decide +kernel
theorem d_DS_beats_1 : decode prog_1_method_38_code 1 = .ok (.bipush 8, 2) := by decide +kernel
theorem d_DS_beats_3 : decode prog_1_method_38_code 3 = .ok (.idiv, 1) := by decide +kernel
theorem d_DS_beats_4 : decode prog_1_method_38_code 4 = .ok (.istore_n 3, 1) := by decide +kernel
theorem d_DS_beats_5 : decode prog_1_method_38_code 5 = .ok (.iload_n 3, 1) := by decide +kernel
theorem d_DS_beats_6 : decode prog_1_method_38_code 6 = .ok (.iload_n 1, 1) := by decide +kernel
theorem d_DS_beats_7 : decode prog_1_method_38_code 7 = .ok (.bipush 8, 2) := by decide +kernel
theorem d_DS_beats_9 : decode prog_1_method_38_code 9 = .ok (.idiv, 1) := by decide +kernel
theorem d_DS_beats_10 : decode prog_1_method_38_code 10 = .ok (.if_icmp .ne 16, 3) := by decide +kernel
theorem d_DS_beats_13 : decode prog_1_method_38_code 13 = .ok (.iload_n 0, 1) := by decide +kernel
theorem d_DS_beats_14 : decode prog_1_method_38_code 14 = .ok (.iload_n 1, 1) := by decide +kernel
theorem d_DS_beats_15 : decode prog_1_method_38_code 15 = .ok (.if_icmp .le 7, 3) := by decide +kernel
theorem d_DS_beats_18 : decode prog_1_method_38_code 18 = .ok (.iconst 1, 1) := by decide +kernel
theorem d_DS_beats_19 : decode prog_1_method_38_code 19 = .ok (.goto 17, 3) := by decide +kernel
theorem d_DS_beats_22 : decode prog_1_method_38_code 22 = .ok (.iconst 0, 1) := by decide +kernel
theorem d_DS_beats_23 : decode prog_1_method_38_code 23 = .ok (.goto 13, 3) := by decide +kernel
theorem d_DS_beats_26 : decode prog_1_method_38_code 26 = .ok (.iload_n 3, 1) := by decide +kernel
theorem d_DS_beats_27 : decode prog_1_method_38_code 27 = .ok (.iload_n 2, 1) := by decide +kernel
theorem d_DS_beats_28 : decode prog_1_method_38_code 28 = .ok (.if_icmp .ne 7, 3) := by decide +kernel
theorem d_DS_beats_31 : decode prog_1_method_38_code 31 = .ok (.iconst 1, 1) := by decide +kernel
theorem d_DS_beats_32 : decode prog_1_method_38_code 32 = .ok (.goto 4, 3) := by decide +kernel
theorem d_DS_beats_35 : decode prog_1_method_38_code 35 = .ok (.iconst 0, 1) := by decide +kernel
theorem d_DS_beats_36 : decode prog_1_method_38_code 36 = .ok (.ireturn, 1) := by decide +kernel
noncomputable def f_DS_beats (a0 : Int32) (a1 : Int32) (a2 : Int32) : Option Int32 :=
  if (a0 / 8) = (a1 / 8) then
    if a0 ≤ a1 then
      some 0
    else
      some 1
  else
    if (a0 / 8) = a2 then
      some 1
    else
      some 0
theorem t_DS_beats {l : Launch} {ε : gEnv} (M : gMem) (a0 : Int32) (a1 : Int32) (a2 : Int32) (r : Int32) (h : f_DS_beats a0 a1 a2 = some r) : gGo l ε k_DS_beats (gR 0 0) (gFn ε (some (.int r)) M) 0 [(0, .int a0), (1, .int a1), (2, .int a2)] [] M := by
  unfold f_DS_beats at h
  refine g_iload_n d_DS_beats_0 rfl 0 rfl ?_
  refine g_bipush (v := 8) d_DS_beats_1 (by decide) ?_
  refine g_idiv d_DS_beats_3 (by decide) ?_
  refine g_istore_n (L' := [(3, .int (a0 / 8)), (0, .int a0), (1, .int a1), (2, .int a2)]) d_DS_beats_4 rfl (by decide) rfl ?_
  refine g_iload_n d_DS_beats_5 rfl 0 rfl ?_
  refine g_iload_n d_DS_beats_6 rfl 2 rfl ?_
  refine g_bipush (v := 8) d_DS_beats_7 (by decide) ?_
  refine g_idiv d_DS_beats_9 (by decide) ?_
  refine g_icmp_ne (tgt := 26) d_DS_beats_10 (by decide) (fun c3 => ?_) (fun c3 => ?_)
  · rw [if_neg c3] at h
    refine g_iload_n d_DS_beats_26 rfl 0 rfl ?_
    refine g_iload_n d_DS_beats_27 rfl 3 rfl ?_
    refine g_icmp_ne (tgt := 35) d_DS_beats_28 (by decide) (fun c1 => ?_) (fun c1 => ?_)
    · rw [if_neg c1] at h
      refine g_iconst (v := 0) d_DS_beats_35 (by decide) ?_
      obtain rfl := Option.some.inj h
      exact g_zret d_DS_beats_36 rfl rfl
    · rw [if_pos c1] at h
      refine g_iconst (v := 1) d_DS_beats_31 (by decide) ?_
      refine g_goto (tgt := 36) d_DS_beats_32 (by decide) ?_
      obtain rfl := Option.some.inj h
      exact g_zret d_DS_beats_36 rfl rfl
  · rw [if_pos c3] at h
    refine g_iload_n d_DS_beats_13 rfl 1 rfl ?_
    refine g_iload_n d_DS_beats_14 rfl 2 rfl ?_
    refine g_icmp_le (tgt := 22) d_DS_beats_15 (by decide) (fun c2 => ?_) (fun c2 => ?_)
    · rw [if_pos c2] at h
      refine g_iconst (v := 0) d_DS_beats_22 (by decide) ?_
      refine g_goto (tgt := 36) d_DS_beats_23 (by decide) ?_
      obtain rfl := Option.some.inj h
      exact g_zret d_DS_beats_36 rfl rfl
    · rw [if_neg c2] at h
      refine g_iconst (v := 1) d_DS_beats_18 (by decide) ?_
      refine g_goto (tgt := 36) d_DS_beats_19 (by decide) ?_
      obtain rfl := Option.some.inj h
      exact g_zret d_DS_beats_36 rfl rfl
theorem ct_DS_beats {l : Launch} {ε : gEnv} (M : gMem) (a0 : Int32) (a1 : Int32) (a2 : Int32) (r : Int32) (h : f_DS_beats a0 a1 a2 = some r) : gCt l ε k_DS_beats 0 0 [.int a0, .int a1, .int a2] M (some (.int r)) M :=
  gCt_of (by decide) (Nat.le_of_ble_eq_true rfl) rfl (t_DS_beats M a0 a1 a2 r h)
abbrev k_DS_winningPlace : gMD := (⟨"DropSignals", "winningPlace", "([III)I"⟩, prog_1_method_39_code, 5, (some .int))
theorem w_637 : Cond.static ⟨"DropSignals", "winningPlace", "([III)I"⟩ ∈ gWs := gWs_in (i := 637) (by decide +kernel) rfl
set_option maxRecDepth 100000 in
theorem ca_DS_winningPlace : gCaS k_DS_winningPlace 3 := ⟨⟨gWs_in (i := 638) rfl rfl, w_34, by decide, by decide, by decide +kernel⟩, w_637⟩
theorem d_DS_winningPlace_0 : decode prog_1_method_39_code 0 = .ok (.iconst 0, 1) := by decide +kernel
theorem d_DS_winningPlace_1 : decode prog_1_method_39_code 1 = .ok (.istore_n 3, 1) := by decide +kernel
theorem d_DS_winningPlace_2 : decode prog_1_method_39_code 2 = .ok (.iconst 1, 1) := by decide +kernel
theorem d_DS_winningPlace_3 : decode prog_1_method_39_code 3 = .ok (.istore 4, 2) := by decide +kernel
theorem d_DS_winningPlace_5 : decode prog_1_method_39_code 5 = .ok (.iload 4, 2) := by decide +kernel
theorem d_DS_winningPlace_7 : decode prog_1_method_39_code 7 = .ok (.iconst 4, 1) := by decide +kernel
theorem d_DS_winningPlace_8 : decode prog_1_method_39_code 8 = .ok (.if_icmp .ge 34, 3) := by decide +kernel
theorem d_DS_winningPlace_11 : decode prog_1_method_39_code 11 = .ok (.aload_n 0, 1) := by decide +kernel
theorem d_DS_winningPlace_12 : decode prog_1_method_39_code 12 = .ok (.iload_n 1, 1) := by decide +kernel
theorem d_DS_winningPlace_13 : decode prog_1_method_39_code 13 = .ok (.iload 4, 2) := by decide +kernel
theorem d_DS_winningPlace_15 : decode prog_1_method_39_code 15 = .ok (.iadd, 1) := by decide +kernel
theorem d_DS_winningPlace_16 : decode prog_1_method_39_code 16 = .ok (.invokestatic 304, 3) := by decide +kernel
theorem d_DS_winningPlace_19 : decode prog_1_method_39_code 19 = .ok (.aload_n 0, 1) := by decide +kernel
theorem d_DS_winningPlace_20 : decode prog_1_method_39_code 20 = .ok (.iload_n 1, 1) := by decide +kernel
theorem d_DS_winningPlace_21 : decode prog_1_method_39_code 21 = .ok (.iload_n 3, 1) := by decide +kernel
theorem d_DS_winningPlace_22 : decode prog_1_method_39_code 22 = .ok (.iadd, 1) := by decide +kernel
theorem d_DS_winningPlace_23 : decode prog_1_method_39_code 23 = .ok (.invokestatic 304, 3) := by decide +kernel
theorem d_DS_winningPlace_26 : decode prog_1_method_39_code 26 = .ok (.iload_n 2, 1) := by decide +kernel
theorem d_DS_winningPlace_27 : decode prog_1_method_39_code 27 = .ok (.invokestatic 308, 3) := by decide +kernel
theorem d_DS_winningPlace_30 : decode prog_1_method_39_code 30 = .ok (.ifCond .eq 6, 3) := by decide +kernel
theorem d_DS_winningPlace_33 : decode prog_1_method_39_code 33 = .ok (.iload 4, 2) := by decide +kernel
theorem d_DS_winningPlace_35 : decode prog_1_method_39_code 35 = .ok (.istore_n 3, 1) := by decide +kernel
theorem d_DS_winningPlace_36 : decode prog_1_method_39_code 36 = .ok (.iinc 4 1, 3) := by decide +kernel
theorem d_DS_winningPlace_39 : decode prog_1_method_39_code 39 = .ok (.goto (-34), 3) := by decide +kernel
theorem d_DS_winningPlace_42 : decode prog_1_method_39_code 42 = .ok (.iload_n 3, 1) := by decide +kernel
theorem d_DS_winningPlace_43 : decode prog_1_method_39_code 43 = .ok (.ireturn, 1) := by decide +kernel
theorem w_639 : Cond.methodLink "DropSignals" 304 ⟨"DropSignals", "at", "([II)I"⟩ ∈ gWs := gWs_in (i := 639) (by decide +kernel) rfl
theorem w_640 : Cond.methodLink "DropSignals" 308 ⟨"DropSignals", "beats", "(III)Z"⟩ ∈ gWs := gWs_in (i := 640) (by decide +kernel) rfl
noncomputable def f_DS_winningPlace_b36 (g0 : Nat) (c0 : Nat) (n0 : Nat) (M : gMem) (x1 : Int32) (x2 : Int32) (x3 : Int32) (x4 : Int32) : Option ((Int32 × Int32) ⊕ Int32) :=
  some (.inl (x3, (x4 + 1)))
theorem t_DS_winningPlace_b36 {l : Launch} {ε : gEnv} (g0 : Nat) (c0 : Nat) (n0 : Nat) (h0 : gHas ε g0 c0 (0, n0, [])) (M : gMem) (x1 : Int32) (x2 : Int32) (x3 : Int32) (x4 : Int32) (res : ((Int32 × Int32) ⊕ Int32)) (h : f_DS_winningPlace_b36 g0 c0 n0 M x1 x2 x3 x4 = some res) (r : Int32) (k1 : ∀ s0 : (Int32 × Int32), res = .inl s0 → gGo l ε k_DS_winningPlace (gR 1 23) (gFn ε (some (.int r)) M) 5 [(0, .ref (ε.2.2.1 g0 c0)), (1, .int x1), (2, .int x2), (3, .int s0.1), (4, .int s0.2)] [] M) (k2 : ∀ r', res = .inr r' → r' = r) : gGo l ε k_DS_winningPlace (gR 1 23) (gFn ε (some (.int r)) M) 36 [(0, .ref (ε.2.2.1 g0 c0)), (1, .int x1), (2, .int x2), (3, .int x3), (4, .int x4)] [] M := by
  unfold f_DS_winningPlace_b36 at h
  refine g_iinc (v := (x4 + 1)) (L' := [(4, .int (x4 + 1)), (0, .ref (ε.2.2.1 g0 c0)), (1, .int x1), (2, .int x2), (3, .int x3)]) d_DS_winningPlace_36 (j := 4) rfl rfl (by decide) rfl ?_
  refine g_goto (tgt := 5) d_DS_winningPlace_39 (by decide) ?_
  refine gGo_sub [1, 2, 3, 4, 0] rfl ?_
  obtain rfl := Option.some.inj h
  exact k1 _ rfl
noncomputable def f_DS_winningPlace_s5 (g0 : Nat) (c0 : Nat) (n0 : Nat) (M : gMem) (x1 : Int32) (x2 : Int32) (x3 : Int32) (x4 : Int32) : Option ((Int32 × Int32) ⊕ Int32) :=
  if 4 ≤ x4 then
    some (.inr x3)
  else
    (f_DS_at g0 c0 n0 M (x1 + x4)).bind fun q1 =>
    (f_DS_at g0 c0 n0 M (x1 + x3)).bind fun q2 =>
    (f_DS_beats q1 q2 x2).bind fun q3 =>
    if q3 = 0 then
      f_DS_winningPlace_b36 g0 c0 n0 M x1 x2 x3 x4
    else
      f_DS_winningPlace_b36 g0 c0 n0 M x1 x2 x4 x4
theorem t_DS_winningPlace_s5 {l : Launch} {ε : gEnv} (g0 : Nat) (c0 : Nat) (n0 : Nat) (h0 : gHas ε g0 c0 (0, n0, [])) (M : gMem) (x1 : Int32) (x2 : Int32) (x3 : Int32) (x4 : Int32) (res : ((Int32 × Int32) ⊕ Int32)) (h : f_DS_winningPlace_s5 g0 c0 n0 M x1 x2 x3 x4 = some res) (r : Int32) (k1 : ∀ s0 : (Int32 × Int32), res = .inl s0 → gGo l ε k_DS_winningPlace (gR 1 23) (gFn ε (some (.int r)) M) 5 [(0, .ref (ε.2.2.1 g0 c0)), (1, .int x1), (2, .int x2), (3, .int s0.1), (4, .int s0.2)] [] M) (k2 : ∀ r', res = .inr r' → r' = r) : gGo l ε k_DS_winningPlace (gR 1 23) (gFn ε (some (.int r)) M) 5 [(0, .ref (ε.2.2.1 g0 c0)), (1, .int x1), (2, .int x2), (3, .int x3), (4, .int x4)] [] M := by
  unfold f_DS_winningPlace_s5 at h
  refine g_iload d_DS_winningPlace_5 4 rfl ?_
  refine g_iconst (v := 4) d_DS_winningPlace_7 (by decide) ?_
  refine g_icmp_ge (tgt := 42) d_DS_winningPlace_8 (by decide) (fun c5 => ?_) (fun c5 => ?_)
  · rw [if_pos c5] at h
    refine g_iload_n d_DS_winningPlace_42 rfl 3 rfl ?_
    obtain rfl := Option.some.inj h
    have e9 := k2 _ rfl
    subst e9
    exact g_iret d_DS_winningPlace_43 rfl
  · rw [if_neg c5] at h
    refine g_aload_n d_DS_winningPlace_11 rfl 0 rfl ?_
    refine g_iload_n d_DS_winningPlace_12 rfl 1 rfl ?_
    refine g_iload d_DS_winningPlace_13 4 rfl ?_
    refine g_iadd d_DS_winningPlace_15 ?_
    obtain ⟨q1, hq1, h⟩ := gOb h
    refine g_callS_i (As := [.ref (ε.2.2.1 g0 c0), .int (x1 + x4)]) (rest := []) (ct_DS_at g0 c0 n0 h0 M (x1 + x4) _ hq1) d_DS_winningPlace_16 ca_DS_at w_639 rfl rfl (Nat.le_of_ble_eq_true rfl) ⟨(Nat.le_of_ble_eq_true rfl), (Nat.le_of_ble_eq_true rfl)⟩ ?_
    refine g_aload_n d_DS_winningPlace_19 rfl 0 rfl ?_
    refine g_iload_n d_DS_winningPlace_20 rfl 1 rfl ?_
    refine g_iload_n d_DS_winningPlace_21 rfl 3 rfl ?_
    refine g_iadd d_DS_winningPlace_22 ?_
    obtain ⟨q2, hq2, h⟩ := gOb h
    refine g_callS_i (As := [.ref (ε.2.2.1 g0 c0), .int (x1 + x3)]) (rest := [.int q1]) (ct_DS_at g0 c0 n0 h0 M (x1 + x3) _ hq2) d_DS_winningPlace_23 ca_DS_at w_639 rfl rfl (Nat.le_of_ble_eq_true rfl) ⟨(Nat.le_of_ble_eq_true rfl), (Nat.le_of_ble_eq_true rfl)⟩ ?_
    refine g_iload_n d_DS_winningPlace_26 rfl 2 rfl ?_
    obtain ⟨q3, hq3, h⟩ := gOb h
    refine g_callS_i (As := [.int q1, .int q2, .int x2]) (rest := []) (ct_DS_beats M q1 q2 x2 _ hq3) d_DS_winningPlace_27 ca_DS_beats w_640 rfl rfl (Nat.le_of_ble_eq_true rfl) ⟨(Nat.le_of_ble_eq_true rfl), (Nat.le_of_ble_eq_true rfl)⟩ ?_
    refine g_if_eq (tgt := 36) d_DS_winningPlace_30 (by decide) (fun c4 => ?_) (fun c4 => ?_)
    · rw [if_pos c4] at h
      exact t_DS_winningPlace_b36 g0 c0 n0 h0 M x1 x2 x3 x4 _ h r k1 k2
    · rw [if_neg c4] at h
      refine g_iload d_DS_winningPlace_33 4 rfl ?_
      refine g_istore_n (L' := [(3, .int x4), (0, .ref (ε.2.2.1 g0 c0)), (1, .int x1), (2, .int x2), (4, .int x4)]) d_DS_winningPlace_35 rfl (by decide) rfl ?_
      refine gGo_sub [1, 2, 3, 0, 4] rfl ?_
      exact t_DS_winningPlace_b36 g0 c0 n0 h0 M x1 x2 x4 x4 _ h r k1 k2
noncomputable def f_DS_winningPlace_l5 (g0 : Nat) (c0 : Nat) (n0 : Nat) (M : gMem) (x1 : Int32) (x2 : Int32) (s : (Int32 × Int32)) : Option Int32 := gLp (fun s => f_DS_winningPlace_s5 g0 c0 n0 M x1 x2 s.1 s.2) s
theorem t_DS_winningPlace_l5 {l : Launch} {ε : gEnv} (g0 : Nat) (c0 : Nat) (n0 : Nat) (h0 : gHas ε g0 c0 (0, n0, [])) (M : gMem) (x1 : Int32) (x2 : Int32) (s : (Int32 × Int32)) (r : Int32) (h : f_DS_winningPlace_l5 g0 c0 n0 M x1 x2 s = some r) : gGo l ε k_DS_winningPlace (gR 1 23) (gFn ε (some (.int r)) M) 5 [(0, .ref (ε.2.2.1 g0 c0)), (1, .int x1), (2, .int x2), (3, .int s.1), (4, .int s.2)] [] M :=
  g_loop _ (fun r s => gGo l ε k_DS_winningPlace (gR 1 23) (gFn ε (some (.int r)) M) 5 [(0, .ref (ε.2.2.1 g0 c0)), (1, .int x1), (2, .int x2), (3, .int s.1), (4, .int s.2)] [] M) (fun s res h r k1 k2 => t_DS_winningPlace_s5 g0 c0 n0 h0 M x1 x2 s.1 s.2 res h r k1 k2) s r h
noncomputable def f_DS_winningPlace (g0 : Nat) (c0 : Nat) (n0 : Nat) (M : gMem) (a1 : Int32) (a2 : Int32) : Option Int32 :=
  f_DS_winningPlace_l5 g0 c0 n0 M a1 a2 (0, 1)
theorem t_DS_winningPlace {l : Launch} {ε : gEnv} (g0 : Nat) (c0 : Nat) (n0 : Nat) (h0 : gHas ε g0 c0 (0, n0, [])) (M : gMem) (a1 : Int32) (a2 : Int32) (r : Int32) (h : f_DS_winningPlace g0 c0 n0 M a1 a2 = some r) : gGo l ε k_DS_winningPlace (gR 1 23) (gFn ε (some (.int r)) M) 0 [(0, .ref (ε.2.2.1 g0 c0)), (1, .int a1), (2, .int a2)] [] M := by
  unfold f_DS_winningPlace at h
  refine g_iconst (v := 0) d_DS_winningPlace_0 (by decide) ?_
  refine g_istore_n (L' := [(3, .int 0), (0, .ref (ε.2.2.1 g0 c0)), (1, .int a1), (2, .int a2)]) d_DS_winningPlace_1 rfl (by decide) rfl ?_
  refine g_iconst (v := 1) d_DS_winningPlace_2 (by decide) ?_
  refine g_istore (L' := [(4, .int 1), (3, .int 0), (0, .ref (ε.2.2.1 g0 c0)), (1, .int a1), (2, .int a2)]) d_DS_winningPlace_3 (by decide) rfl ?_
  refine gGo_sub [2, 3, 4, 1, 0] rfl ?_
  exact t_DS_winningPlace_l5 g0 c0 n0 h0 M a1 a2 (0, 1) _ h
theorem ct_DS_winningPlace {l : Launch} {ε : gEnv} (g0 : Nat) (c0 : Nat) (n0 : Nat) (h0 : gHas ε g0 c0 (0, n0, [])) (M : gMem) (a1 : Int32) (a2 : Int32) (r : Int32) (h : f_DS_winningPlace g0 c0 n0 M a1 a2 = some r) : gCt l ε k_DS_winningPlace 1 23 [.ref (ε.2.2.1 g0 c0), .int a1, .int a2] M (some (.int r)) M :=
  gCt_of (by decide) (Nat.le_of_ble_eq_true rfl) rfl (t_DS_winningPlace g0 c0 n0 h0 M a1 a2 r h)
abbrev k_DS_withoutGroups : gMD := (⟨"DropSignals", "withoutGroups", "(JI)J"⟩, prog_1_method_34_code, 6, (some .long))
theorem w_896 : Cond.static ⟨"DropSignals", "withoutGroups", "(JI)J"⟩ ∈ gWs := gWs_in (i := 896) (by decide +kernel) rfl
set_option maxRecDepth 100000 in
theorem ca_DS_withoutGroups : gCaS k_DS_withoutGroups 2 := ⟨⟨gWs_in (i := 897) rfl rfl, w_34, by decide, by decide, by decide +kernel⟩, w_896⟩
theorem d_DS_withoutGroups_0 : decode prog_1_method_34_code 0 = .ok (.lload_n 0, 1) := by decide +kernel
theorem d_DS_withoutGroups_1 : decode prog_1_method_34_code 1 = .ok (.lstore_n 3, 1) := by decide +kernel
theorem d_DS_withoutGroups_2 : decode prog_1_method_34_code 2 = .ok (.iconst 0, 1) := by decide +kernel
theorem d_DS_withoutGroups_3 : decode prog_1_method_34_code 3 = .ok (.istore 5, 2) := by decide +kernel
theorem d_DS_withoutGroups_5 : decode prog_1_method_34_code 5 = .ok (.iload 5, 2) := by decide +kernel
theorem d_DS_withoutGroups_7 : decode prog_1_method_34_code 7 = .ok (.iload_n 2, 1) := by decide +kernel
theorem d_DS_withoutGroups_8 : decode prog_1_method_34_code 8 = .ok (.if_icmp .ge 15, 3) := by decide +kernel
theorem d_DS_withoutGroups_11 : decode prog_1_method_34_code 11 = .ok (.lload_n 3, 1) := by decide +kernel
theorem d_DS_withoutGroups_12 : decode prog_1_method_34_code 12 = .ok (.ldc2_w 236, 3) := by decide +kernel
theorem d_DS_withoutGroups_15 : decode prog_1_method_34_code 15 = .ok (.ldiv, 1) := by decide +kernel
theorem d_DS_withoutGroups_16 : decode prog_1_method_34_code 16 = .ok (.lstore_n 3, 1) := by decide +kernel
theorem d_DS_withoutGroups_17 : decode prog_1_method_34_code 17 = .ok (.iinc 5 1, 3) := by decide +kernel
theorem d_DS_withoutGroups_20 : decode prog_1_method_34_code 20 = .ok (.goto (-15), 3) := by decide +kernel
theorem d_DS_withoutGroups_23 : decode prog_1_method_34_code 23 = .ok (.lload_n 3, 1) := by decide +kernel
theorem d_DS_withoutGroups_24 : decode prog_1_method_34_code 24 = .ok (.lreturn, 1) := by decide +kernel
theorem w_898 : Cond.constantLong "DropSignals" 236 (10000) ∈ gWs := gWs_in (i := 898) (by decide +kernel) rfl
noncomputable def f_DS_withoutGroups_s5 (x2 : Int32) (x3 : Int64) (x5 : Int32) : Option ((Int64 × Int32) ⊕ Int64) :=
  if x2 ≤ x5 then
    some (.inr x3)
  else
    some (.inl ((x3 / (10000)), (x5 + 1)))
theorem t_DS_withoutGroups_s5 {l : Launch} {ε : gEnv} (M : gMem) (x2 : Int32) (x3 : Int64) (x5 : Int32) (res : ((Int64 × Int32) ⊕ Int64)) (h : f_DS_withoutGroups_s5 x2 x3 x5 = some res) (r : Int64) (k1 : ∀ s0 : (Int64 × Int32), res = .inl s0 → gGo l ε k_DS_withoutGroups (gR 0 0) (gFn ε (some (.long r)) M) 5 [(2, .int x2), (3, .long s0.1), (5, .int s0.2)] [] M) (k2 : ∀ r', res = .inr r' → r' = r) : gGo l ε k_DS_withoutGroups (gR 0 0) (gFn ε (some (.long r)) M) 5 [(2, .int x2), (3, .long x3), (5, .int x5)] [] M := by
  unfold f_DS_withoutGroups_s5 at h
  refine g_iload d_DS_withoutGroups_5 2 rfl ?_
  refine g_iload_n d_DS_withoutGroups_7 rfl 0 rfl ?_
  refine g_icmp_ge (tgt := 23) d_DS_withoutGroups_8 (by decide) (fun c1 => ?_) (fun c1 => ?_)
  · rw [if_pos c1] at h
    refine g_lload_n d_DS_withoutGroups_23 rfl 1 rfl ?_
    obtain rfl := Option.some.inj h
    have e9 := k2 _ rfl
    subst e9
    exact g_lret d_DS_withoutGroups_24 rfl
  · rw [if_neg c1] at h
    refine g_lload_n d_DS_withoutGroups_11 rfl 1 rfl ?_
    refine g_ldc2 d_DS_withoutGroups_12 w_898 ?_
    refine g_ldiv d_DS_withoutGroups_15 (by decide) ?_
    refine g_lstore_n (L' := [(3, .long (x3 / (10000))), (2, .int x2), (5, .int x5)]) d_DS_withoutGroups_16 rfl (by decide) rfl ?_
    refine g_iinc (v := (x5 + 1)) (L' := [(5, .int (x5 + 1)), (3, .long (x3 / (10000))), (2, .int x2)]) d_DS_withoutGroups_17 (j := 2) rfl rfl (by decide) rfl ?_
    refine g_goto (tgt := 5) d_DS_withoutGroups_20 (by decide) ?_
    refine gGo_sub [2, 1, 0] rfl ?_
    obtain rfl := Option.some.inj h
    exact k1 _ rfl
noncomputable def f_DS_withoutGroups_l5 (x2 : Int32) (s : (Int64 × Int32)) : Option Int64 := gLp (fun s => f_DS_withoutGroups_s5 x2 s.1 s.2) s
theorem t_DS_withoutGroups_l5 {l : Launch} {ε : gEnv} (M : gMem) (x2 : Int32) (s : (Int64 × Int32)) (r : Int64) (h : f_DS_withoutGroups_l5 x2 s = some r) : gGo l ε k_DS_withoutGroups (gR 0 0) (gFn ε (some (.long r)) M) 5 [(2, .int x2), (3, .long s.1), (5, .int s.2)] [] M :=
  g_loop _ (fun r s => gGo l ε k_DS_withoutGroups (gR 0 0) (gFn ε (some (.long r)) M) 5 [(2, .int x2), (3, .long s.1), (5, .int s.2)] [] M) (fun s res h r k1 k2 => t_DS_withoutGroups_s5 M x2 s.1 s.2 res h r k1 k2) s r h
noncomputable def f_DS_withoutGroups (a0 : Int64) (a1 : Int32) : Option Int64 :=
  f_DS_withoutGroups_l5 a1 (a0, 0)
theorem t_DS_withoutGroups {l : Launch} {ε : gEnv} (M : gMem) (a0 : Int64) (a1 : Int32) (r : Int64) (h : f_DS_withoutGroups a0 a1 = some r) : gGo l ε k_DS_withoutGroups (gR 0 0) (gFn ε (some (.long r)) M) 0 [(0, .long a0), (2, .int a1)] [] M := by
  unfold f_DS_withoutGroups at h
  refine g_lload_n d_DS_withoutGroups_0 rfl 0 rfl ?_
  refine g_lstore_n (L' := [(3, .long a0), (0, .long a0), (2, .int a1)]) d_DS_withoutGroups_1 rfl (by decide) rfl ?_
  refine g_iconst (v := 0) d_DS_withoutGroups_2 (by decide) ?_
  refine g_istore (L' := [(5, .int 0), (3, .long a0), (0, .long a0), (2, .int a1)]) d_DS_withoutGroups_3 (by decide) rfl ?_
  refine gGo_sub [3, 1, 0] rfl ?_
  exact t_DS_withoutGroups_l5 M a1 (a0, 0) _ h
theorem ct_DS_withoutGroups {l : Launch} {ε : gEnv} (M : gMem) (a0 : Int64) (a1 : Int32) (r : Int64) (h : f_DS_withoutGroups a0 a1 = some r) : gCt l ε k_DS_withoutGroups 0 0 [.long a0, .int a1] M (some (.long r)) M :=
  gCt_of (by decide) (Nat.le_of_ble_eq_true rfl) rfl (t_DS_withoutGroups M a0 a1 r h)
end
