section
-- ===== PART A: goes FIRST, ahead of the names: the tables' words, and 'selects' of the private methods out of them =====
/-- a private method of a class that the tables say can be made, by its rows of tables_1 -/
def lw_okq (q : MethodName × Nat) : Prop := (q.1.cls ≠ "java/lang/invoke/MethodHandle" ∧ q.1.cls ≠ "java/lang/invoke/VarHandle") ∧ Cond.instantiable q.1.cls q.2 ∈ tables_1 ∧ Cond.privateMethod q.1 ∈ tables_1 ∧ Cond.instanceMethod q.1 ∈ tables_1
theorem lw_p0 : lw_okq (⟨"java/lang/Throwable", "fillInStackTrace", "(I)Ljava/lang/Throwable;"⟩, 6) := ⟨⟨by decide +kernel, by decide +kernel⟩, List.mem_of_getElem? (i := 250) (by decide +kernel), List.mem_of_getElem? (i := 248) (by decide +kernel), List.mem_of_getElem? (i := 249) (by decide +kernel)⟩
theorem lw_p1 : lw_okq (⟨"BusTelegrams$Station", "queueAt", "(I)LBusTelegrams$Telegram;"⟩, 15) := ⟨⟨by decide +kernel, by decide +kernel⟩, List.mem_of_getElem? (i := 82) (by decide +kernel), List.mem_of_getElem? (i := 327) (by decide +kernel), List.mem_of_getElem? (i := 328) (by decide +kernel)⟩
theorem lw_p2 : lw_okq (⟨"BusTelegrams", "passBitTime", "()V"⟩, 7) := ⟨⟨by decide +kernel, by decide +kernel⟩, List.mem_of_getElem? (i := 14) (by decide +kernel), List.mem_of_getElem? (i := 374) (by decide +kernel), List.mem_of_getElem? (i := 375) (by decide +kernel)⟩
theorem lw_p3 : lw_okq (⟨"BusTelegrams", "beginAnswers", "()V"⟩, 7) := ⟨⟨by decide +kernel, by decide +kernel⟩, List.mem_of_getElem? (i := 14) (by decide +kernel), List.mem_of_getElem? (i := 378) (by decide +kernel), List.mem_of_getElem? (i := 379) (by decide +kernel)⟩
theorem lw_p4 : lw_okq (⟨"BusTelegrams", "sentByAll", "()I"⟩, 7) := ⟨⟨by decide +kernel, by decide +kernel⟩, List.mem_of_getElem? (i := 14) (by decide +kernel), List.mem_of_getElem? (i := 402) (by decide +kernel), List.mem_of_getElem? (i := 403) (by decide +kernel)⟩
theorem lw_p5 : lw_okq (⟨"BusTelegrams$Station", "nextAnswerBit", "()I"⟩, 15) := ⟨⟨by decide +kernel, by decide +kernel⟩, List.mem_of_getElem? (i := 82) (by decide +kernel), List.mem_of_getElem? (i := 410) (by decide +kernel), List.mem_of_getElem? (i := 411) (by decide +kernel)⟩
theorem lw_p6 : lw_okq (⟨"BusTelegrams", "takeDisturbance", "()Z"⟩, 7) := ⟨⟨by decide +kernel, by decide +kernel⟩, List.mem_of_getElem? (i := 14) (by decide +kernel), List.mem_of_getElem? (i := 432) (by decide +kernel), List.mem_of_getElem? (i := 433) (by decide +kernel)⟩
theorem lw_p7 : lw_okq (⟨"BusTelegrams$Ear", "takeInCharacter", "(II)V"⟩, 16) := ⟨⟨by decide +kernel, by decide +kernel⟩, List.mem_of_getElem? (i := 24) (by decide +kernel), List.mem_of_getElem? (i := 453) (by decide +kernel), List.mem_of_getElem? (i := 454) (by decide +kernel)⟩
theorem lw_p8 : lw_okq (⟨"BusTelegrams$Ear", "endCharacter", "(II)V"⟩, 16) := ⟨⟨by decide +kernel, by decide +kernel⟩, List.mem_of_getElem? (i := 24) (by decide +kernel), List.mem_of_getElem? (i := 457) (by decide +kernel), List.mem_of_getElem? (i := 458) (by decide +kernel)⟩
theorem lw_p9 : lw_okq (⟨"BusTelegrams$Ear", "takeInGap", "(II)V"⟩, 16) := ⟨⟨by decide +kernel, by decide +kernel⟩, List.mem_of_getElem? (i := 24) (by decide +kernel), List.mem_of_getElem? (i := 461) (by decide +kernel), List.mem_of_getElem? (i := 462) (by decide +kernel)⟩
theorem lw_p10 : lw_okq (⟨"BusTelegrams$Ear", "beginCharacter", "()V"⟩, 16) := ⟨⟨by decide +kernel, by decide +kernel⟩, List.mem_of_getElem? (i := 24) (by decide +kernel), List.mem_of_getElem? (i := 465) (by decide +kernel), List.mem_of_getElem? (i := 466) (by decide +kernel)⟩
theorem lw_p11 : lw_okq (⟨"BusTelegrams$Ear", "complete", "()V"⟩, 16) := ⟨⟨by decide +kernel, by decide +kernel⟩, List.mem_of_getElem? (i := 24) (by decide +kernel), List.mem_of_getElem? (i := 469) (by decide +kernel), List.mem_of_getElem? (i := 470) (by decide +kernel)⟩
theorem lw_p12 : lw_okq (⟨"BusTelegrams$Ear", "completeTelegram", "()V"⟩, 16) := ⟨⟨by decide +kernel, by decide +kernel⟩, List.mem_of_getElem? (i := 24) (by decide +kernel), List.mem_of_getElem? (i := 473) (by decide +kernel), List.mem_of_getElem? (i := 474) (by decide +kernel)⟩
theorem lw_p13 : lw_okq (⟨"BusTelegrams$Ear", "begin", "(I)V"⟩, 16) := ⟨⟨by decide +kernel, by decide +kernel⟩, List.mem_of_getElem? (i := 24) (by decide +kernel), List.mem_of_getElem? (i := 477) (by decide +kernel), List.mem_of_getElem? (i := 478) (by decide +kernel)⟩
theorem lw_p14 : lw_okq (⟨"BusTelegrams$Station", "removeFirst", "()V"⟩, 15) := ⟨⟨by decide +kernel, by decide +kernel⟩, List.mem_of_getElem? (i := 82) (by decide +kernel), List.mem_of_getElem? (i := 489) (by decide +kernel), List.mem_of_getElem? (i := 490) (by decide +kernel)⟩
theorem lw_p15 : lw_okq (⟨"BusTelegramsModel", "begin", "()V"⟩, 35) := ⟨⟨by decide +kernel, by decide +kernel⟩, List.mem_of_getElem? (i := 548) (by decide +kernel), List.mem_of_getElem? (i := 697) (by decide +kernel), List.mem_of_getElem? (i := 698) (by decide +kernel)⟩
def lw_privs_1 : List (MethodName × Nat) := [(⟨"java/lang/Throwable", "fillInStackTrace", "(I)Ljava/lang/Throwable;"⟩, 6), (⟨"BusTelegrams$Station", "queueAt", "(I)LBusTelegrams$Telegram;"⟩, 15), (⟨"BusTelegrams", "passBitTime", "()V"⟩, 7), (⟨"BusTelegrams", "beginAnswers", "()V"⟩, 7), (⟨"BusTelegrams", "sentByAll", "()I"⟩, 7), (⟨"BusTelegrams$Station", "nextAnswerBit", "()I"⟩, 15), (⟨"BusTelegrams", "takeDisturbance", "()Z"⟩, 7), (⟨"BusTelegrams$Ear", "takeInCharacter", "(II)V"⟩, 16), (⟨"BusTelegrams$Ear", "endCharacter", "(II)V"⟩, 16), (⟨"BusTelegrams$Ear", "takeInGap", "(II)V"⟩, 16), (⟨"BusTelegrams$Ear", "beginCharacter", "()V"⟩, 16), (⟨"BusTelegrams$Ear", "complete", "()V"⟩, 16), (⟨"BusTelegrams$Ear", "completeTelegram", "()V"⟩, 16), (⟨"BusTelegrams$Ear", "begin", "(I)V"⟩, 16), (⟨"BusTelegrams$Station", "removeFirst", "()V"⟩, 15), (⟨"BusTelegramsModel", "begin", "()V"⟩, 35)]
theorem lw_r1 : ∀ q ∈ lw_privs_1, lw_okq q := List.forall_mem_cons.mpr ⟨lw_p0, List.forall_mem_cons.mpr ⟨lw_p1, List.forall_mem_cons.mpr ⟨lw_p2, List.forall_mem_cons.mpr ⟨lw_p3, List.forall_mem_cons.mpr ⟨lw_p4, List.forall_mem_cons.mpr ⟨lw_p5, List.forall_mem_cons.mpr ⟨lw_p6, List.forall_mem_cons.mpr ⟨lw_p7, List.forall_mem_cons.mpr ⟨lw_p8, List.forall_mem_cons.mpr ⟨lw_p9, List.forall_mem_cons.mpr ⟨lw_p10, List.forall_mem_cons.mpr ⟨lw_p11, List.forall_mem_cons.mpr ⟨lw_p12, List.forall_mem_cons.mpr ⟨lw_p13, List.forall_mem_cons.mpr ⟨lw_p14, List.forall_mem_cons.mpr ⟨lw_p15, fun _ h => absurd h List.not_mem_nil⟩⟩⟩⟩⟩⟩⟩⟩⟩⟩⟩⟩⟩⟩⟩⟩
theorem lw_p16 : lw_okq (⟨"BusTelegramsModel", "isMeant", "(I)Z"⟩, 35) := ⟨⟨by decide +kernel, by decide +kernel⟩, List.mem_of_getElem? (i := 548) (by decide +kernel), List.mem_of_getElem? (i := 701) (by decide +kernel), List.mem_of_getElem? (i := 702) (by decide +kernel)⟩
theorem lw_p17 : lw_okq (⟨"BusTelegramsModel", "line", "()I"⟩, 35) := ⟨⟨by decide +kernel, by decide +kernel⟩, List.mem_of_getElem? (i := 548) (by decide +kernel), List.mem_of_getElem? (i := 705) (by decide +kernel), List.mem_of_getElem? (i := 706) (by decide +kernel)⟩
theorem lw_p18 : lw_okq (⟨"BusTelegramsModel", "said", "(I)I"⟩, 35) := ⟨⟨by decide +kernel, by decide +kernel⟩, List.mem_of_getElem? (i := 548) (by decide +kernel), List.mem_of_getElem? (i := 709) (by decide +kernel), List.mem_of_getElem? (i := 710) (by decide +kernel)⟩
theorem lw_p19 : lw_okq (⟨"BusTelegramsModel", "byteOf", "(II)I"⟩, 35) := ⟨⟨by decide +kernel, by decide +kernel⟩, List.mem_of_getElem? (i := 548) (by decide +kernel), List.mem_of_getElem? (i := 713) (by decide +kernel), List.mem_of_getElem? (i := 714) (by decide +kernel)⟩
theorem lw_p20 : lw_okq (⟨"BusTelegramsModel", "size", "(I)I"⟩, 35) := ⟨⟨by decide +kernel, by decide +kernel⟩, List.mem_of_getElem? (i := 548) (by decide +kernel), List.mem_of_getElem? (i := 717) (by decide +kernel), List.mem_of_getElem? (i := 718) (by decide +kernel)⟩
theorem lw_p21 : lw_okq (⟨"BusTelegramsModel", "plain", "(II)I"⟩, 35) := ⟨⟨by decide +kernel, by decide +kernel⟩, List.mem_of_getElem? (i := 548) (by decide +kernel), List.mem_of_getElem? (i := 721) (by decide +kernel), List.mem_of_getElem? (i := 722) (by decide +kernel)⟩
theorem lw_p22 : lw_okq (⟨"BusTelegramsModel", "goOn", "(I)V"⟩, 35) := ⟨⟨by decide +kernel, by decide +kernel⟩, List.mem_of_getElem? (i := 548) (by decide +kernel), List.mem_of_getElem? (i := 728) (by decide +kernel), List.mem_of_getElem? (i := 729) (by decide +kernel)⟩
theorem lw_p23 : lw_okq (⟨"BusTelegramsModel", "hear", "(I)V"⟩, 35) := ⟨⟨by decide +kernel, by decide +kernel⟩, List.mem_of_getElem? (i := 548) (by decide +kernel), List.mem_of_getElem? (i := 732) (by decide +kernel), List.mem_of_getElem? (i := 733) (by decide +kernel)⟩
theorem lw_p24 : lw_okq (⟨"BusTelegramsModel", "first", "()V"⟩, 35) := ⟨⟨by decide +kernel, by decide +kernel⟩, List.mem_of_getElem? (i := 548) (by decide +kernel), List.mem_of_getElem? (i := 736) (by decide +kernel), List.mem_of_getElem? (i := 737) (by decide +kernel)⟩
theorem lw_p25 : lw_okq (⟨"BusTelegramsModel", "open", "()V"⟩, 35) := ⟨⟨by decide +kernel, by decide +kernel⟩, List.mem_of_getElem? (i := 548) (by decide +kernel), List.mem_of_getElem? (i := 740) (by decide +kernel), List.mem_of_getElem? (i := 741) (by decide +kernel)⟩
theorem lw_p26 : lw_okq (⟨"BusTelegramsModel", "collect", "(I)V"⟩, 35) := ⟨⟨by decide +kernel, by decide +kernel⟩, List.mem_of_getElem? (i := 548) (by decide +kernel), List.mem_of_getElem? (i := 744) (by decide +kernel), List.mem_of_getElem? (i := 745) (by decide +kernel)⟩
theorem lw_p27 : lw_okq (⟨"BusTelegramsModel", "complete", "()V"⟩, 35) := ⟨⟨by decide +kernel, by decide +kernel⟩, List.mem_of_getElem? (i := 548) (by decide +kernel), List.mem_of_getElem? (i := 748) (by decide +kernel), List.mem_of_getElem? (i := 749) (by decide +kernel)⟩
theorem lw_p28 : lw_okq (⟨"BusTelegramsModel", "look", "()V"⟩, 35) := ⟨⟨by decide +kernel, by decide +kernel⟩, List.mem_of_getElem? (i := 548) (by decide +kernel), List.mem_of_getElem? (i := 752) (by decide +kernel), List.mem_of_getElem? (i := 753) (by decide +kernel)⟩
theorem lw_p29 : lw_okq (⟨"BusTelegramsModel", "drop", "(I)V"⟩, 35) := ⟨⟨by decide +kernel, by decide +kernel⟩, List.mem_of_getElem? (i := 548) (by decide +kernel), List.mem_of_getElem? (i := 756) (by decide +kernel), List.mem_of_getElem? (i := 757) (by decide +kernel)⟩
def lw_privs_2 : List (MethodName × Nat) := [(⟨"BusTelegramsModel", "isMeant", "(I)Z"⟩, 35), (⟨"BusTelegramsModel", "line", "()I"⟩, 35), (⟨"BusTelegramsModel", "said", "(I)I"⟩, 35), (⟨"BusTelegramsModel", "byteOf", "(II)I"⟩, 35), (⟨"BusTelegramsModel", "size", "(I)I"⟩, 35), (⟨"BusTelegramsModel", "plain", "(II)I"⟩, 35), (⟨"BusTelegramsModel", "goOn", "(I)V"⟩, 35), (⟨"BusTelegramsModel", "hear", "(I)V"⟩, 35), (⟨"BusTelegramsModel", "first", "()V"⟩, 35), (⟨"BusTelegramsModel", "open", "()V"⟩, 35), (⟨"BusTelegramsModel", "collect", "(I)V"⟩, 35), (⟨"BusTelegramsModel", "complete", "()V"⟩, 35), (⟨"BusTelegramsModel", "look", "()V"⟩, 35), (⟨"BusTelegramsModel", "drop", "(I)V"⟩, 35)]
theorem lw_r2 : ∀ q ∈ lw_privs_2, lw_okq q := List.forall_mem_cons.mpr ⟨lw_p16, List.forall_mem_cons.mpr ⟨lw_p17, List.forall_mem_cons.mpr ⟨lw_p18, List.forall_mem_cons.mpr ⟨lw_p19, List.forall_mem_cons.mpr ⟨lw_p20, List.forall_mem_cons.mpr ⟨lw_p21, List.forall_mem_cons.mpr ⟨lw_p22, List.forall_mem_cons.mpr ⟨lw_p23, List.forall_mem_cons.mpr ⟨lw_p24, List.forall_mem_cons.mpr ⟨lw_p25, List.forall_mem_cons.mpr ⟨lw_p26, List.forall_mem_cons.mpr ⟨lw_p27, List.forall_mem_cons.mpr ⟨lw_p28, List.forall_mem_cons.mpr ⟨lw_p29, fun _ h => absurd h List.not_mem_nil⟩⟩⟩⟩⟩⟩⟩⟩⟩⟩⟩⟩⟩⟩
def lw_privs : List (MethodName × Nat) := lw_privs_1 ++ (lw_privs_2)
def lw_tbl : List Cond := k2_sels lw_privs ++ tables_1
theorem lw_privs_ok : ∀ q ∈ lw_privs, lw_okq q := by
  show ∀ q ∈ lw_privs_1 ++ (lw_privs_2), lw_okq q
  exact List.forall_mem_append.mpr ⟨lw_r1, lw_r2⟩
end
section
/-! names: classes, fields, words -/
def TX0 : u_T := fun k => match k with
  | 0 => ("BusTelegrams$Ear", "bytes", "[I", true)
  | 1 => ("BusTelegrams$Ear", "latest", "[I", true)
  | 2 => ("BusTelegrams$Ear", "counts", "[I", true)
  | 3 => ("BusTelegrams$Ear", "state", "I", false)
  | 4 => ("BusTelegrams$Ear", "seen", "I", false)
  | 5 => ("BusTelegrams$Ear", "value", "I", false)
  | 6 => ("BusTelegrams$Ear", "ones", "I", false)
  | 7 => ("BusTelegrams$Ear", "count", "I", false)
  | 8 => ("BusTelegrams$Ear", "anyBad", "Z", false)
  | 9 => ("BusTelegrams$Ear", "beginTime", "I", false)
  | 10 => ("BusTelegrams$Ear", "endTime", "I", false)
  | 11 => ("BusTelegrams$Ear", "latestCount", "I", false)
  | 12 => ("BusTelegrams$Ear", "latestEnd", "I", false)
  | 13 => ("BusTelegrams$Ear", "latestRight", "Z", false)
  | 14 => ("BusTelegrams$Ear", "latestAnswer", "I", false)
  | _ => ("BusTelegrams$Ear", "otherSince", "Z", false)
def tyX0 : Nat → FieldType := fun k => match k with
  | 0 => .array .int
  | 1 => .array .int
  | 2 => .array .int
  | 3 => .int
  | 4 => .int
  | 5 => .int
  | 6 => .int
  | 7 => .int
  | 8 => .boolean
  | 9 => .int
  | 10 => .int
  | 11 => .int
  | 12 => .int
  | 13 => .boolean
  | 14 => .int
  | _ => .boolean
def TX1 : u_T := fun k => match k with
  | 0 => ("BusTelegrams$Station", "groups", "[Z", true)
  | 1 => ("BusTelegrams$Station", "queue", "[LBusTelegrams$Telegram;", true)
  | 2 => ("BusTelegrams$Station", "ownAddress", "I", false)
  | 3 => ("BusTelegrams$Station", "isBusy", "Z", false)
  | 4 => ("BusTelegrams$Station", "first", "I", false)
  | 5 => ("BusTelegrams$Station", "queued", "I", false)
  | 6 => ("BusTelegrams$Station", "sayPlace", "I", false)
  | 7 => ("BusTelegrams$Station", "sentBit", "I", false)
  | 8 => ("BusTelegrams$Station", "waits", "Z", false)
  | 9 => ("BusTelegrams$Station", "waitEnd", "I", false)
  | 10 => ("BusTelegrams$Station", "answerPlace", "I", false)
  | 11 => ("BusTelegrams$Station", "answerByte", "I", false)
  | 12 => ("BusTelegrams$Station", "saidCount", "I", false)
  | 13 => ("BusTelegrams$Station", "lostCount", "I", false)
  | _ => ("BusTelegrams$Station", "stopCount", "I", false)
def tyX1 : Nat → FieldType := fun k => match k with
  | 0 => .array .boolean
  | 1 => .array (.object "BusTelegrams$Telegram")
  | 2 => .int
  | 3 => .boolean
  | 4 => .int
  | 5 => .int
  | 6 => .int
  | 7 => .int
  | 8 => .boolean
  | 9 => .int
  | 10 => .int
  | 11 => .int
  | 12 => .int
  | 13 => .int
  | _ => .int
def TX2 : u_T := fun k => match k with
  | 0 => ("BusTelegrams$Telegram", "bytes", "[I", true)
  | 1 => ("BusTelegrams$Telegram", "length", "I", false)
  | 2 => ("BusTelegrams$Telegram", "priority", "I", false)
  | _ => ("BusTelegrams$Telegram", "sayings", "I", false)
def tyX2 : Nat → FieldType := fun k => match k with
  | 0 => .array .int
  | 1 => .int
  | 2 => .int
  | _ => .int
def TX3 : u_T := fun k => match k with
  | 0 => ("BusTelegrams", "stations", "[LBusTelegrams$Station;", true)
  | 1 => ("BusTelegrams", "ear", "LBusTelegrams$Ear;", true)
  | 2 => ("BusTelegrams", "disturbed", "[Z", true)
  | 3 => ("BusTelegrams", "disturbances", "I", false)
  | 4 => ("BusTelegrams", "latestBits", "[I", true)
  | 5 => ("BusTelegrams", "now", "I", false)
  | _ => ("BusTelegrams", "idle", "I", false)
def tyX3 : Nat → FieldType := fun k => match k with
  | 0 => .array (.object "BusTelegrams$Station")
  | 1 => .object "BusTelegrams$Ear"
  | 2 => .array .boolean
  | 3 => .int
  | 4 => .array .int
  | 5 => .int
  | _ => .int
def TX4 : u_T := fun k => match k with
  | 0 => ("BusTelegramsModel", "code", "I", false)
  | 1 => ("BusTelegramsModel", "now", "I", false)
  | 2 => ("BusTelegramsModel", "idle", "I", false)
  | 3 => ("BusTelegramsModel", "addresses", "[I", true)
  | 4 => ("BusTelegramsModel", "listens", "[Z", true)
  | 5 => ("BusTelegramsModel", "isBusy", "[Z", true)
  | 6 => ("BusTelegramsModel", "queued", "[I", true)
  | 7 => ("BusTelegramsModel", "queue", "[I", true)
  | 8 => ("BusTelegramsModel", "says", "[I", true)
  | 9 => ("BusTelegramsModel", "answers", "[I", true)
  | 10 => ("BusTelegramsModel", "answerBytes", "[I", true)
  | 11 => ("BusTelegramsModel", "waits", "[I", true)
  | 12 => ("BusTelegramsModel", "saids", "[I", true)
  | 13 => ("BusTelegramsModel", "losts", "[I", true)
  | 14 => ("BusTelegramsModel", "stops", "[I", true)
  | 15 => ("BusTelegramsModel", "disturbed", "[Z", true)
  | 16 => ("BusTelegramsModel", "disturbances", "I", false)
  | 17 => ("BusTelegramsModel", "latest", "[I", true)
  | 18 => ("BusTelegramsModel", "phase", "I", false)
  | 19 => ("BusTelegramsModel", "got", "I", false)
  | 20 => ("BusTelegramsModel", "value", "I", false)
  | 21 => ("BusTelegramsModel", "ones", "I", false)
  | 22 => ("BusTelegramsModel", "isBad", "Z", false)
  | 23 => ("BusTelegramsModel", "began", "I", false)
  | 24 => ("BusTelegramsModel", "lastBit", "I", false)
  | 25 => ("BusTelegramsModel", "characters", "I", false)
  | 26 => ("BusTelegramsModel", "bytes", "[I", true)
  | 27 => ("BusTelegramsModel", "counts", "[I", true)
  | 28 => ("BusTelegramsModel", "isTelegram", "Z", false)
  | 29 => ("BusTelegramsModel", "ended", "I", false)
  | 30 => ("BusTelegramsModel", "many", "I", false)
  | 31 => ("BusTelegramsModel", "isRight", "Z", false)
  | 32 => ("BusTelegramsModel", "isOver", "Z", false)
  | 33 => ("BusTelegramsModel", "reply", "I", false)
  | _ => ("BusTelegramsModel", "telegram", "[I", true)
def tyX4 : Nat → FieldType := fun k => match k with
  | 0 => .int
  | 1 => .int
  | 2 => .int
  | 3 => .array .int
  | 4 => .array .boolean
  | 5 => .array .boolean
  | 6 => .array .int
  | 7 => .array .int
  | 8 => .array .int
  | 9 => .array .int
  | 10 => .array .int
  | 11 => .array .int
  | 12 => .array .int
  | 13 => .array .int
  | 14 => .array .int
  | 15 => .array .boolean
  | 16 => .int
  | 17 => .array .int
  | 18 => .int
  | 19 => .int
  | 20 => .int
  | 21 => .int
  | 22 => .boolean
  | 23 => .int
  | 24 => .int
  | 25 => .int
  | 26 => .array .int
  | 27 => .array .int
  | 28 => .boolean
  | 29 => .int
  | 30 => .int
  | 31 => .boolean
  | 32 => .boolean
  | 33 => .int
  | _ => .array .int
def nf : Nat → Nat := fun c => match c with
  | 0 => 16
  | 1 => 15
  | 2 => 4
  | 3 => 7
  | 4 => 35
  | _ => 0
def isR : Nat → Nat → Bool := fun c j => match c with
  | 0 => j == 0 || j == 1 || j == 2
  | 1 => j == 0 || j == 1
  | 2 => j == 0
  | 3 => j == 0 || j == 1 || j == 2 || j == 4
  | 4 => j == 3 || j == 4 || j == 5 || j == 6 || j == 7 || j == 8 || j == 9 || j == 10 || j == 11 || j == 12 || j == 13 || j == 14 || j == 15 || j == 17 || j == 26 || j == 27 || j == 34
  | _ => false
abbrev vcl : List vw_C := [("BusTelegrams$Ear", TX0, 16), ("BusTelegrams$Station", TX1, 15), ("BusTelegrams$Telegram", TX2, 4), ("BusTelegrams", TX3, 7), ("BusTelegramsModel", TX4, 35)]
abbrev RX1 : String := "BusTelegrams$Station"
abbrev RX2 : String := "BusTelegrams$Telegram"
def GL : List Cond := lw_tbl.filter goodWord
def NL : List Cond := [Jvm.Cond.methodLinkNest "BusTelegrams" (17 : Nat) ({ cls := "BusTelegrams$Ear", name := "<init>", desc := "()V" } : Jvm.MethodName) "BusTelegrams", Jvm.Cond.fieldLinkNest "BusTelegrams" (131 : Nat) "BusTelegrams$Ear" "latestCount" "I" "BusTelegrams", Jvm.Cond.fieldLinkNest "BusTelegrams" (205 : Nat) "BusTelegrams$Ear" "latestRight" "Z" "BusTelegrams", Jvm.Cond.fieldLinkNest "BusTelegrams" (139 : Nat) "BusTelegrams$Ear" "latestAnswer" "I" "BusTelegrams", Jvm.Cond.methodLinkNest "BusTelegrams$Station" (62 : Nat) ({ cls := "BusTelegrams$Telegram", name := "<init>", desc := "()V" } : Jvm.MethodName) "BusTelegrams", Jvm.Cond.fieldLinkNest "BusTelegrams$Station" (96 : Nat) "BusTelegrams$Telegram" "sayings" "I" "BusTelegrams", Jvm.Cond.fieldLinkNest "BusTelegrams" (60 : Nat) "BusTelegrams$Station" "groups" "[Z" "BusTelegrams", Jvm.Cond.fieldLinkNest "BusTelegrams" (55 : Nat) "BusTelegrams$Station" "ownAddress" "I" "BusTelegrams", Jvm.Cond.fieldLinkNest "BusTelegrams" (65 : Nat) "BusTelegrams$Station" "isBusy" "Z" "BusTelegrams", Jvm.Cond.fieldLinkNest "BusTelegrams" (75 : Nat) "BusTelegrams$Station" "queued" "I" "BusTelegrams", Jvm.Cond.methodLinkNest "BusTelegrams$Station" (84 : Nat) ({ cls := "BusTelegrams", name := "characterBit", desc := "(II)I" } : Jvm.MethodName) "BusTelegrams", Jvm.Cond.methodLinkNest "BusTelegrams$Telegram" (34 : Nat) ({ cls := "BusTelegrams", name := "characterBit", desc := "(II)I" } : Jvm.MethodName) "BusTelegrams"]
theorem gl_of {w : Cond} (i : Nat) (h : lw_tbl[i]? = some w) (hg : goodWord w = true) : w ∈ GL := List.mem_filter.mpr ⟨List.mem_of_getElem? h, hg⟩
theorem gl_good {w : Cond} (h : w ∈ GL) : goodWord w = true := (List.mem_filter.mp h).2
theorem cu_0 : ∀ w ∈ u_ws "BusTelegrams$Ear" TX0 16, w ∈ GL := by decide +kernel
theorem tyX0_ok : ∀ k, k < 16 → parseFieldDescriptor (TX0 k).2.2.1 = some (tyX0 k) := by decide +kernel
theorem nmX0 : ∀ a, a < 16 → ∀ b, b < 16 → a ≠ b → (TX0 a).2.1 ≠ (TX0 b).2.1 := by decide +kernel
theorem cu_1 : ∀ w ∈ u_ws "BusTelegrams$Station" TX1 15, w ∈ GL := by decide +kernel
theorem tyX1_ok : ∀ k, k < 15 → parseFieldDescriptor (TX1 k).2.2.1 = some (tyX1 k) := by decide +kernel
theorem nmX1 : ∀ a, a < 15 → ∀ b, b < 15 → a ≠ b → (TX1 a).2.1 ≠ (TX1 b).2.1 := by decide +kernel
theorem cu_2 : ∀ w ∈ u_ws "BusTelegrams$Telegram" TX2 4, w ∈ GL := by decide +kernel
theorem tyX2_ok : ∀ k, k < 4 → parseFieldDescriptor (TX2 k).2.2.1 = some (tyX2 k) := by decide +kernel
theorem nmX2 : ∀ a, a < 4 → ∀ b, b < 4 → a ≠ b → (TX2 a).2.1 ≠ (TX2 b).2.1 := by decide +kernel
theorem cu_3 : ∀ w ∈ u_ws "BusTelegrams" TX3 7, w ∈ GL := by decide +kernel
theorem tyX3_ok : ∀ k, k < 7 → parseFieldDescriptor (TX3 k).2.2.1 = some (tyX3 k) := by decide +kernel
theorem nmX3 : ∀ a, a < 7 → ∀ b, b < 7 → a ≠ b → (TX3 a).2.1 ≠ (TX3 b).2.1 := by decide +kernel
theorem cu_4 : ∀ w ∈ u_ws "BusTelegramsModel" TX4 35, w ∈ GL := by decide +kernel
theorem tyX4_ok : ∀ k, k < 35 → parseFieldDescriptor (TX4 k).2.2.1 = some (tyX4 k) := by decide +kernel
theorem nmX4 : ∀ a, a < 35 → ∀ b, b < 35 → a ≠ b → (TX4 a).2.1 ≠ (TX4 b).2.1 := by decide +kernel
theorem ms_0 : Cond.selects "java/lang/Throwable" ⟨"java/lang/Throwable", "fillInStackTrace", "(I)Ljava/lang/Throwable;"⟩ ⟨"java/lang/Throwable", "fillInStackTrace", "(I)Ljava/lang/Throwable;"⟩ ∈ GL := gl_of 0 (by decide +kernel) (by decide +kernel)
theorem ms_1 : Cond.selects "BusTelegrams$Station" ⟨"BusTelegrams$Station", "queueAt", "(I)LBusTelegrams$Telegram;"⟩ ⟨"BusTelegrams$Station", "queueAt", "(I)LBusTelegrams$Telegram;"⟩ ∈ GL := gl_of 1 (by decide +kernel) (by decide +kernel)
theorem ms_2 : Cond.selects "BusTelegrams" ⟨"BusTelegrams", "passBitTime", "()V"⟩ ⟨"BusTelegrams", "passBitTime", "()V"⟩ ∈ GL := gl_of 2 (by decide +kernel) (by decide +kernel)
theorem ms_3 : Cond.selects "BusTelegrams" ⟨"BusTelegrams", "beginAnswers", "()V"⟩ ⟨"BusTelegrams", "beginAnswers", "()V"⟩ ∈ GL := gl_of 3 (by decide +kernel) (by decide +kernel)
theorem ms_4 : Cond.selects "BusTelegrams" ⟨"BusTelegrams", "sentByAll", "()I"⟩ ⟨"BusTelegrams", "sentByAll", "()I"⟩ ∈ GL := gl_of 4 (by decide +kernel) (by decide +kernel)
theorem ms_5 : Cond.selects "BusTelegrams$Station" ⟨"BusTelegrams$Station", "nextAnswerBit", "()I"⟩ ⟨"BusTelegrams$Station", "nextAnswerBit", "()I"⟩ ∈ GL := gl_of 5 (by decide +kernel) (by decide +kernel)
theorem ms_6 : Cond.selects "BusTelegrams" ⟨"BusTelegrams", "takeDisturbance", "()Z"⟩ ⟨"BusTelegrams", "takeDisturbance", "()Z"⟩ ∈ GL := gl_of 6 (by decide +kernel) (by decide +kernel)
theorem ms_7 : Cond.selects "BusTelegrams$Ear" ⟨"BusTelegrams$Ear", "takeInCharacter", "(II)V"⟩ ⟨"BusTelegrams$Ear", "takeInCharacter", "(II)V"⟩ ∈ GL := gl_of 7 (by decide +kernel) (by decide +kernel)
theorem ms_8 : Cond.selects "BusTelegrams$Ear" ⟨"BusTelegrams$Ear", "endCharacter", "(II)V"⟩ ⟨"BusTelegrams$Ear", "endCharacter", "(II)V"⟩ ∈ GL := gl_of 8 (by decide +kernel) (by decide +kernel)
theorem ms_9 : Cond.selects "BusTelegrams$Ear" ⟨"BusTelegrams$Ear", "takeInGap", "(II)V"⟩ ⟨"BusTelegrams$Ear", "takeInGap", "(II)V"⟩ ∈ GL := gl_of 9 (by decide +kernel) (by decide +kernel)
theorem ms_10 : Cond.selects "BusTelegrams$Ear" ⟨"BusTelegrams$Ear", "beginCharacter", "()V"⟩ ⟨"BusTelegrams$Ear", "beginCharacter", "()V"⟩ ∈ GL := gl_of 10 (by decide +kernel) (by decide +kernel)
theorem ms_11 : Cond.selects "BusTelegrams$Ear" ⟨"BusTelegrams$Ear", "complete", "()V"⟩ ⟨"BusTelegrams$Ear", "complete", "()V"⟩ ∈ GL := gl_of 11 (by decide +kernel) (by decide +kernel)
theorem ms_12 : Cond.selects "BusTelegrams$Ear" ⟨"BusTelegrams$Ear", "completeTelegram", "()V"⟩ ⟨"BusTelegrams$Ear", "completeTelegram", "()V"⟩ ∈ GL := gl_of 12 (by decide +kernel) (by decide +kernel)
theorem ms_13 : Cond.selects "BusTelegrams$Ear" ⟨"BusTelegrams$Ear", "begin", "(I)V"⟩ ⟨"BusTelegrams$Ear", "begin", "(I)V"⟩ ∈ GL := gl_of 13 (by decide +kernel) (by decide +kernel)
theorem ms_14 : Cond.selects "BusTelegrams$Station" ⟨"BusTelegrams$Station", "removeFirst", "()V"⟩ ⟨"BusTelegrams$Station", "removeFirst", "()V"⟩ ∈ GL := gl_of 14 (by decide +kernel) (by decide +kernel)
theorem ms_15 : Cond.selects "BusTelegramsModel" ⟨"BusTelegramsModel", "begin", "()V"⟩ ⟨"BusTelegramsModel", "begin", "()V"⟩ ∈ GL := gl_of 15 (by decide +kernel) (by decide +kernel)
theorem ms_16 : Cond.selects "BusTelegramsModel" ⟨"BusTelegramsModel", "isMeant", "(I)Z"⟩ ⟨"BusTelegramsModel", "isMeant", "(I)Z"⟩ ∈ GL := gl_of 16 (by decide +kernel) (by decide +kernel)
theorem ms_17 : Cond.selects "BusTelegramsModel" ⟨"BusTelegramsModel", "line", "()I"⟩ ⟨"BusTelegramsModel", "line", "()I"⟩ ∈ GL := gl_of 17 (by decide +kernel) (by decide +kernel)
theorem ms_18 : Cond.selects "BusTelegramsModel" ⟨"BusTelegramsModel", "said", "(I)I"⟩ ⟨"BusTelegramsModel", "said", "(I)I"⟩ ∈ GL := gl_of 18 (by decide +kernel) (by decide +kernel)
theorem ms_19 : Cond.selects "BusTelegramsModel" ⟨"BusTelegramsModel", "byteOf", "(II)I"⟩ ⟨"BusTelegramsModel", "byteOf", "(II)I"⟩ ∈ GL := gl_of 19 (by decide +kernel) (by decide +kernel)
theorem ms_20 : Cond.selects "BusTelegramsModel" ⟨"BusTelegramsModel", "size", "(I)I"⟩ ⟨"BusTelegramsModel", "size", "(I)I"⟩ ∈ GL := gl_of 20 (by decide +kernel) (by decide +kernel)
theorem ms_21 : Cond.selects "BusTelegramsModel" ⟨"BusTelegramsModel", "plain", "(II)I"⟩ ⟨"BusTelegramsModel", "plain", "(II)I"⟩ ∈ GL := gl_of 21 (by decide +kernel) (by decide +kernel)
theorem ms_22 : Cond.selects "BusTelegramsModel" ⟨"BusTelegramsModel", "goOn", "(I)V"⟩ ⟨"BusTelegramsModel", "goOn", "(I)V"⟩ ∈ GL := gl_of 22 (by decide +kernel) (by decide +kernel)
theorem ms_23 : Cond.selects "BusTelegramsModel" ⟨"BusTelegramsModel", "hear", "(I)V"⟩ ⟨"BusTelegramsModel", "hear", "(I)V"⟩ ∈ GL := gl_of 23 (by decide +kernel) (by decide +kernel)
theorem ms_24 : Cond.selects "BusTelegramsModel" ⟨"BusTelegramsModel", "first", "()V"⟩ ⟨"BusTelegramsModel", "first", "()V"⟩ ∈ GL := gl_of 24 (by decide +kernel) (by decide +kernel)
theorem ms_25 : Cond.selects "BusTelegramsModel" ⟨"BusTelegramsModel", "open", "()V"⟩ ⟨"BusTelegramsModel", "open", "()V"⟩ ∈ GL := gl_of 25 (by decide +kernel) (by decide +kernel)
theorem ms_26 : Cond.selects "BusTelegramsModel" ⟨"BusTelegramsModel", "collect", "(I)V"⟩ ⟨"BusTelegramsModel", "collect", "(I)V"⟩ ∈ GL := gl_of 26 (by decide +kernel) (by decide +kernel)
theorem ms_27 : Cond.selects "BusTelegramsModel" ⟨"BusTelegramsModel", "complete", "()V"⟩ ⟨"BusTelegramsModel", "complete", "()V"⟩ ∈ GL := gl_of 27 (by decide +kernel) (by decide +kernel)
theorem ms_28 : Cond.selects "BusTelegramsModel" ⟨"BusTelegramsModel", "look", "()V"⟩ ⟨"BusTelegramsModel", "look", "()V"⟩ ∈ GL := gl_of 28 (by decide +kernel) (by decide +kernel)
theorem ms_29 : Cond.selects "BusTelegramsModel" ⟨"BusTelegramsModel", "drop", "(I)V"⟩ ⟨"BusTelegramsModel", "drop", "(I)V"⟩ ∈ GL := gl_of 29 (by decide +kernel) (by decide +kernel)
theorem mw_0 : Jvm.Cond.initialized "BusTelegramsLaw" ∈ GL := gl_of 30 (by decide +kernel) (by decide +kernel)
theorem mw_1 : Jvm.Cond.initialized "BusTelegrams" ∈ GL := gl_of 31 (by decide +kernel) (by decide +kernel)
theorem mw_2 : Jvm.Cond.initialized "BusTelegrams$Ear" ∈ GL := gl_of 32 (by decide +kernel) (by decide +kernel)
theorem mw_3 : Jvm.Cond.initialized "BusTelegrams$Station" ∈ GL := gl_of 33 (by decide +kernel) (by decide +kernel)
theorem mw_4 : Jvm.Cond.initialized "BusTelegrams$Telegram" ∈ GL := gl_of 34 (by decide +kernel) (by decide +kernel)
theorem mw_5 : Jvm.Cond.initialized "BusTelegramsModel" ∈ GL := gl_of 35 (by decide +kernel) (by decide +kernel)
theorem mw_6 : Jvm.Cond.initialized "java/lang/Throwable" ∈ GL := gl_of 36 (by decide +kernel) (by decide +kernel)
theorem mw_7 : Jvm.Cond.initialized "java/lang/Exception" ∈ GL := gl_of 37 (by decide +kernel) (by decide +kernel)
theorem mw_8 : Jvm.Cond.initialized "java/lang/RuntimeException" ∈ GL := gl_of 38 (by decide +kernel) (by decide +kernel)
theorem mw_9 : Jvm.Cond.initialized "java/lang/IllegalArgumentException" ∈ GL := gl_of 39 (by decide +kernel) (by decide +kernel)
theorem mw_10 : Jvm.Cond.initialized "java/lang/IllegalStateException" ∈ GL := gl_of 40 (by decide +kernel) (by decide +kernel)
theorem mw_11 : Jvm.Cond.initialized "java/lang/Math" ∈ GL := gl_of 41 (by decide +kernel) (by decide +kernel)
theorem mw_12 : Jvm.Cond.initialized "java/lang/Integer" ∈ GL := gl_of 42 (by decide +kernel) (by decide +kernel)
theorem mw_13 : Jvm.Cond.classLink "BusTelegramsLaw" (8 : Nat) "BusTelegrams" ∈ GL := gl_of 43 (by decide +kernel) (by decide +kernel)
theorem mw_14 : Jvm.Cond.instantiable "BusTelegrams" (7 : Nat) ∈ GL := gl_of 44 (by decide +kernel) (by decide +kernel)
theorem mw_15 : Jvm.Cond.methodLink "BusTelegramsLaw" (53 : Nat) ({ cls := "BusTelegrams", name := "<init>", desc := "()V" } : Jvm.MethodName) ∈ GL := gl_of 45 (by decide +kernel) (by decide +kernel)
theorem mw_16 : Jvm.Cond.instanceMethod ({ cls := "BusTelegrams", name := "<init>", desc := "()V" } : Jvm.MethodName) ∈ GL := gl_of 46 (by decide +kernel) (by decide +kernel)
theorem mw_17 : Jvm.Cond.code ({ cls := "BusTelegrams", name := "<init>", desc := "()V" } : Jvm.MethodName) prog_1_method_1_code (2 : Nat) (Option.none : Option Jvm.ClassFile.FieldType) ∈ GL := gl_of 47 (by decide +kernel) (by decide +kernel)
theorem mw_18 : Jvm.Cond.methodLink "BusTelegrams" (3 : Nat) ({ cls := "java/lang/Object", name := "<init>", desc := "()V" } : Jvm.MethodName) ∈ GL := gl_of 48 (by decide +kernel) (by decide +kernel)
theorem mw_19 : Jvm.Cond.instanceMethod ({ cls := "java/lang/Object", name := "<init>", desc := "()V" } : Jvm.MethodName) ∈ GL := gl_of 49 (by decide +kernel) (by decide +kernel)
theorem mw_20 : Jvm.Cond.code ({ cls := "java/lang/Object", name := "<init>", desc := "()V" } : Jvm.MethodName) object_method_1_code (1 : Nat) (Option.none : Option Jvm.ClassFile.FieldType) ∈ GL := gl_of 50 (by decide +kernel) (by decide +kernel)
theorem mw_21 : Jvm.Cond.classLink "BusTelegrams" (9 : Nat) "BusTelegrams$Station" ∈ GL := gl_of 51 (by decide +kernel) (by decide +kernel)
theorem mw_23 : Jvm.Cond.classLink "BusTelegrams" (15 : Nat) "BusTelegrams$Ear" ∈ GL := gl_of 53 (by decide +kernel) (by decide +kernel)
theorem mw_24 : Jvm.Cond.instantiable "BusTelegrams$Ear" (16 : Nat) ∈ GL := gl_of 54 (by decide +kernel) (by decide +kernel)
theorem mw_26 : Jvm.Cond.instanceMethod ({ cls := "BusTelegrams$Ear", name := "<init>", desc := "()V" } : Jvm.MethodName) ∈ GL := gl_of 56 (by decide +kernel) (by decide +kernel)
theorem mw_27 : Jvm.Cond.code ({ cls := "BusTelegrams$Ear", name := "<init>", desc := "()V" } : Jvm.MethodName) prog_2_method_1_code (1 : Nat) (Option.none : Option Jvm.ClassFile.FieldType) ∈ GL := gl_of 57 (by decide +kernel) (by decide +kernel)
theorem mw_28 : Jvm.Cond.methodLink "BusTelegrams$Ear" (3 : Nat) ({ cls := "java/lang/Object", name := "<init>", desc := "()V" } : Jvm.MethodName) ∈ GL := gl_of 58 (by decide +kernel) (by decide +kernel)
theorem mw_29 : Jvm.Cond.fieldLink "BusTelegrams$Ear" (11 : Nat) "BusTelegrams$Ear" "bytes" "[I" ∈ GL := gl_of 59 (by decide +kernel) (by decide +kernel)
theorem mw_30 : Jvm.Cond.fieldLink "BusTelegrams$Ear" (15 : Nat) "BusTelegrams$Ear" "latest" "[I" ∈ GL := gl_of 60 (by decide +kernel) (by decide +kernel)
theorem mw_31 : Jvm.Cond.fieldLink "BusTelegrams$Ear" (18 : Nat) "BusTelegrams$Ear" "counts" "[I" ∈ GL := gl_of 61 (by decide +kernel) (by decide +kernel)
theorem mw_32 : Jvm.Cond.fieldLink "BusTelegrams$Ear" (21 : Nat) "BusTelegrams$Ear" "state" "I" ∈ GL := gl_of 62 (by decide +kernel) (by decide +kernel)
theorem mw_33 : Jvm.Cond.fieldLink "BusTelegrams$Ear" (25 : Nat) "BusTelegrams$Ear" "seen" "I" ∈ GL := gl_of 63 (by decide +kernel) (by decide +kernel)
theorem mw_34 : Jvm.Cond.fieldLink "BusTelegrams$Ear" (28 : Nat) "BusTelegrams$Ear" "value" "I" ∈ GL := gl_of 64 (by decide +kernel) (by decide +kernel)
theorem mw_35 : Jvm.Cond.fieldLink "BusTelegrams$Ear" (31 : Nat) "BusTelegrams$Ear" "ones" "I" ∈ GL := gl_of 65 (by decide +kernel) (by decide +kernel)
theorem mw_36 : Jvm.Cond.fieldLink "BusTelegrams$Ear" (34 : Nat) "BusTelegrams$Ear" "count" "I" ∈ GL := gl_of 66 (by decide +kernel) (by decide +kernel)
theorem mw_37 : Jvm.Cond.fieldLink "BusTelegrams$Ear" (37 : Nat) "BusTelegrams$Ear" "anyBad" "Z" ∈ GL := gl_of 67 (by decide +kernel) (by decide +kernel)
theorem mw_38 : Jvm.Cond.fieldLink "BusTelegrams$Ear" (41 : Nat) "BusTelegrams$Ear" "beginTime" "I" ∈ GL := gl_of 68 (by decide +kernel) (by decide +kernel)
theorem mw_39 : Jvm.Cond.fieldLink "BusTelegrams$Ear" (44 : Nat) "BusTelegrams$Ear" "endTime" "I" ∈ GL := gl_of 69 (by decide +kernel) (by decide +kernel)
theorem mw_40 : Jvm.Cond.fieldLink "BusTelegrams$Ear" (47 : Nat) "BusTelegrams$Ear" "latestCount" "I" ∈ GL := gl_of 70 (by decide +kernel) (by decide +kernel)
theorem mw_42 : Jvm.Cond.fieldLink "BusTelegrams$Ear" (50 : Nat) "BusTelegrams$Ear" "latestEnd" "I" ∈ GL := gl_of 72 (by decide +kernel) (by decide +kernel)
theorem mw_43 : Jvm.Cond.fieldLink "BusTelegrams$Ear" (53 : Nat) "BusTelegrams$Ear" "latestRight" "Z" ∈ GL := gl_of 73 (by decide +kernel) (by decide +kernel)
theorem mw_45 : Jvm.Cond.fieldLink "BusTelegrams$Ear" (56 : Nat) "BusTelegrams$Ear" "latestAnswer" "I" ∈ GL := gl_of 75 (by decide +kernel) (by decide +kernel)
theorem mw_47 : Jvm.Cond.fieldLink "BusTelegrams$Ear" (59 : Nat) "BusTelegrams$Ear" "otherSince" "Z" ∈ GL := gl_of 77 (by decide +kernel) (by decide +kernel)
theorem mw_81 : Jvm.Cond.arrayClass Jvm.ClassFile.FieldType.int ∈ GL := gl_of 111 (by decide +kernel) (by decide +kernel)
theorem mw_82 : Jvm.Cond.instantiable "BusTelegrams$Station" (15 : Nat) ∈ GL := gl_of 112 (by decide +kernel) (by decide +kernel)
theorem mw_83 : Jvm.Cond.methodLink "BusTelegrams" (40 : Nat) ({ cls := "BusTelegrams$Station", name := "<init>", desc := "(I)V" } : Jvm.MethodName) ∈ GL := gl_of 113 (by decide +kernel) (by decide +kernel)
theorem mw_84 : Jvm.Cond.instanceMethod ({ cls := "BusTelegrams$Station", name := "<init>", desc := "(I)V" } : Jvm.MethodName) ∈ GL := gl_of 114 (by decide +kernel) (by decide +kernel)
theorem mw_85 : Jvm.Cond.code ({ cls := "BusTelegrams$Station", name := "<init>", desc := "(I)V" } : Jvm.MethodName) prog_3_method_1_code (3 : Nat) (Option.none : Option Jvm.ClassFile.FieldType) ∈ GL := gl_of 115 (by decide +kernel) (by decide +kernel)
theorem mw_86 : Jvm.Cond.methodLink "BusTelegrams$Station" (3 : Nat) ({ cls := "java/lang/Object", name := "<init>", desc := "()V" } : Jvm.MethodName) ∈ GL := gl_of 116 (by decide +kernel) (by decide +kernel)
theorem mw_87 : Jvm.Cond.classLink "BusTelegrams$Station" (15 : Nat) "BusTelegrams$Telegram" ∈ GL := gl_of 117 (by decide +kernel) (by decide +kernel)
theorem mw_89 : Jvm.Cond.instantiable "BusTelegrams$Telegram" (4 : Nat) ∈ GL := gl_of 119 (by decide +kernel) (by decide +kernel)
theorem mw_91 : Jvm.Cond.instanceMethod ({ cls := "BusTelegrams$Telegram", name := "<init>", desc := "()V" } : Jvm.MethodName) ∈ GL := gl_of 121 (by decide +kernel) (by decide +kernel)
theorem mw_92 : Jvm.Cond.code ({ cls := "BusTelegrams$Telegram", name := "<init>", desc := "()V" } : Jvm.MethodName) prog_4_method_1_code (1 : Nat) (Option.none : Option Jvm.ClassFile.FieldType) ∈ GL := gl_of 122 (by decide +kernel) (by decide +kernel)
theorem mw_93 : Jvm.Cond.methodLink "BusTelegrams$Telegram" (3 : Nat) ({ cls := "java/lang/Object", name := "<init>", desc := "()V" } : Jvm.MethodName) ∈ GL := gl_of 123 (by decide +kernel) (by decide +kernel)
theorem mw_94 : Jvm.Cond.fieldLink "BusTelegrams$Telegram" (9 : Nat) "BusTelegrams$Telegram" "bytes" "[I" ∈ GL := gl_of 124 (by decide +kernel) (by decide +kernel)
theorem mw_95 : Jvm.Cond.fieldLink "BusTelegrams$Telegram" (15 : Nat) "BusTelegrams$Telegram" "length" "I" ∈ GL := gl_of 125 (by decide +kernel) (by decide +kernel)
theorem mw_96 : Jvm.Cond.fieldLink "BusTelegrams$Telegram" (19 : Nat) "BusTelegrams$Telegram" "priority" "I" ∈ GL := gl_of 126 (by decide +kernel) (by decide +kernel)
theorem mw_97 : Jvm.Cond.fieldLink "BusTelegrams$Telegram" (22 : Nat) "BusTelegrams$Telegram" "sayings" "I" ∈ GL := gl_of 127 (by decide +kernel) (by decide +kernel)
theorem mw_108 : Jvm.Cond.arrayClass Jvm.ClassFile.FieldType.boolean ∈ GL := gl_of 138 (by decide +kernel) (by decide +kernel)
theorem mw_109 : Jvm.Cond.fieldLink "BusTelegrams$Station" (9 : Nat) "BusTelegrams$Station" "groups" "[Z" ∈ GL := gl_of 139 (by decide +kernel) (by decide +kernel)
theorem mw_111 : Jvm.Cond.fieldLink "BusTelegrams$Station" (17 : Nat) "BusTelegrams$Station" "queue" "[LBusTelegrams$Telegram;" ∈ GL := gl_of 141 (by decide +kernel) (by decide +kernel)
theorem mw_112 : Jvm.Cond.fieldLink "BusTelegrams$Station" (59 : Nat) "BusTelegrams$Station" "ownAddress" "I" ∈ GL := gl_of 142 (by decide +kernel) (by decide +kernel)
theorem mw_114 : Jvm.Cond.fieldLink "BusTelegrams$Station" (21 : Nat) "BusTelegrams$Station" "isBusy" "Z" ∈ GL := gl_of 144 (by decide +kernel) (by decide +kernel)
theorem mw_116 : Jvm.Cond.fieldLink "BusTelegrams$Station" (25 : Nat) "BusTelegrams$Station" "first" "I" ∈ GL := gl_of 146 (by decide +kernel) (by decide +kernel)
theorem mw_117 : Jvm.Cond.fieldLink "BusTelegrams$Station" (29 : Nat) "BusTelegrams$Station" "queued" "I" ∈ GL := gl_of 147 (by decide +kernel) (by decide +kernel)
theorem mw_119 : Jvm.Cond.fieldLink "BusTelegrams$Station" (32 : Nat) "BusTelegrams$Station" "sayPlace" "I" ∈ GL := gl_of 149 (by decide +kernel) (by decide +kernel)
theorem mw_120 : Jvm.Cond.fieldLink "BusTelegrams$Station" (35 : Nat) "BusTelegrams$Station" "sentBit" "I" ∈ GL := gl_of 150 (by decide +kernel) (by decide +kernel)
theorem mw_121 : Jvm.Cond.fieldLink "BusTelegrams$Station" (38 : Nat) "BusTelegrams$Station" "waits" "Z" ∈ GL := gl_of 151 (by decide +kernel) (by decide +kernel)
theorem mw_122 : Jvm.Cond.fieldLink "BusTelegrams$Station" (41 : Nat) "BusTelegrams$Station" "waitEnd" "I" ∈ GL := gl_of 152 (by decide +kernel) (by decide +kernel)
theorem mw_123 : Jvm.Cond.fieldLink "BusTelegrams$Station" (44 : Nat) "BusTelegrams$Station" "answerPlace" "I" ∈ GL := gl_of 153 (by decide +kernel) (by decide +kernel)
theorem mw_124 : Jvm.Cond.fieldLink "BusTelegrams$Station" (47 : Nat) "BusTelegrams$Station" "answerByte" "I" ∈ GL := gl_of 154 (by decide +kernel) (by decide +kernel)
theorem mw_125 : Jvm.Cond.fieldLink "BusTelegrams$Station" (50 : Nat) "BusTelegrams$Station" "saidCount" "I" ∈ GL := gl_of 155 (by decide +kernel) (by decide +kernel)
theorem mw_126 : Jvm.Cond.fieldLink "BusTelegrams$Station" (53 : Nat) "BusTelegrams$Station" "lostCount" "I" ∈ GL := gl_of 156 (by decide +kernel) (by decide +kernel)
theorem mw_127 : Jvm.Cond.fieldLink "BusTelegrams$Station" (56 : Nat) "BusTelegrams$Station" "stopCount" "I" ∈ GL := gl_of 157 (by decide +kernel) (by decide +kernel)
theorem mw_159 : Jvm.Cond.fieldLink "BusTelegrams" (11 : Nat) "BusTelegrams" "stations" "[LBusTelegrams$Station;" ∈ GL := gl_of 189 (by decide +kernel) (by decide +kernel)
theorem mw_160 : Jvm.Cond.fieldLink "BusTelegrams" (18 : Nat) "BusTelegrams" "ear" "LBusTelegrams$Ear;" ∈ GL := gl_of 190 (by decide +kernel) (by decide +kernel)
theorem mw_161 : Jvm.Cond.fieldLink "BusTelegrams" (22 : Nat) "BusTelegrams" "disturbed" "[Z" ∈ GL := gl_of 191 (by decide +kernel) (by decide +kernel)
theorem mw_162 : Jvm.Cond.fieldLink "BusTelegrams" (26 : Nat) "BusTelegrams" "disturbances" "I" ∈ GL := gl_of 192 (by decide +kernel) (by decide +kernel)
theorem mw_163 : Jvm.Cond.fieldLink "BusTelegrams" (30 : Nat) "BusTelegrams" "latestBits" "[I" ∈ GL := gl_of 193 (by decide +kernel) (by decide +kernel)
theorem mw_164 : Jvm.Cond.fieldLink "BusTelegrams" (34 : Nat) "BusTelegrams" "now" "I" ∈ GL := gl_of 194 (by decide +kernel) (by decide +kernel)
theorem mw_165 : Jvm.Cond.fieldLink "BusTelegrams" (37 : Nat) "BusTelegrams" "idle" "I" ∈ GL := gl_of 195 (by decide +kernel) (by decide +kernel)
theorem mw_181 : Jvm.Cond.methodLink "BusTelegramsLaw" (98 : Nat) ({ cls := "BusTelegrams", name := "answer", desc := "()I" } : Jvm.MethodName) ∈ GL := gl_of 211 (by decide +kernel) (by decide +kernel)
theorem mw_182 : Jvm.Cond.instanceMethod ({ cls := "BusTelegrams", name := "answer", desc := "()I" } : Jvm.MethodName) ∈ GL := gl_of 212 (by decide +kernel) (by decide +kernel)
theorem mw_183 : Jvm.Cond.selects "BusTelegrams" ({ cls := "BusTelegrams", name := "answer", desc := "()I" } : Jvm.MethodName) ({ cls := "BusTelegrams", name := "answer", desc := "()I" } : Jvm.MethodName) ∈ GL := gl_of 213 (by decide +kernel) (by decide +kernel)
theorem mw_184 : Jvm.Cond.code ({ cls := "BusTelegrams", name := "answer", desc := "()I" } : Jvm.MethodName) prog_1_method_12_code (1 : Nat) (Option.some Jvm.ClassFile.FieldType.int) ∈ GL := gl_of 214 (by decide +kernel) (by decide +kernel)
theorem mw_185 : Jvm.Cond.methodLink "BusTelegramsLaw" (104 : Nat) ({ cls := "BusTelegrams", name := "pack", desc := "(D)I" } : Jvm.MethodName) ∈ GL := gl_of 215 (by decide +kernel) (by decide +kernel)
theorem mw_186 : Jvm.Cond.instanceMethod ({ cls := "BusTelegrams", name := "pack", desc := "(D)I" } : Jvm.MethodName) ∈ GL := gl_of 216 (by decide +kernel) (by decide +kernel)
theorem mw_187 : Jvm.Cond.selects "BusTelegrams" ({ cls := "BusTelegrams", name := "pack", desc := "(D)I" } : Jvm.MethodName) ({ cls := "BusTelegrams", name := "pack", desc := "(D)I" } : Jvm.MethodName) ∈ GL := gl_of 217 (by decide +kernel) (by decide +kernel)
theorem mw_188 : Jvm.Cond.code ({ cls := "BusTelegrams", name := "pack", desc := "(D)I" } : Jvm.MethodName) prog_1_method_13_code (8 : Nat) (Option.some Jvm.ClassFile.FieldType.int) ∈ GL := gl_of 218 (by decide +kernel) (by decide +kernel)
theorem mw_189 : Jvm.Cond.constantDouble "BusTelegrams" (142 : Nat) (4636737291354636288 : UInt64) ∈ GL := gl_of 219 (by decide +kernel) (by decide +kernel)
theorem mw_190 : Jvm.Cond.constantDouble "BusTelegrams" (144 : Nat) (4602678819172646912 : UInt64) ∈ GL := gl_of 220 (by decide +kernel) (by decide +kernel)
theorem mw_191 : Jvm.Cond.constantDouble "BusTelegrams" (146 : Nat) (13880094051555868672 : UInt64) ∈ GL := gl_of 221 (by decide +kernel) (by decide +kernel)
theorem mw_192 : Jvm.Cond.constantDouble "BusTelegrams" (148 : Nat) (4656722014701092864 : UInt64) ∈ GL := gl_of 222 (by decide +kernel) (by decide +kernel)
theorem mw_193 : Jvm.Cond.methodLink "BusTelegrams" (150 : Nat) ({ cls := "BusTelegrams", name := "wholeNotAbove", desc := "(D)I" } : Jvm.MethodName) ∈ GL := gl_of 223 (by decide +kernel) (by decide +kernel)
theorem mw_194 : Jvm.Cond.static ({ cls := "BusTelegrams", name := "wholeNotAbove", desc := "(D)I" } : Jvm.MethodName) ∈ GL := gl_of 224 (by decide +kernel) (by decide +kernel)
theorem mw_195 : Jvm.Cond.code ({ cls := "BusTelegrams", name := "wholeNotAbove", desc := "(D)I" } : Jvm.MethodName) prog_1_method_19_code (3 : Nat) (Option.some Jvm.ClassFile.FieldType.int) ∈ GL := gl_of 225 (by decide +kernel) (by decide +kernel)
theorem mw_196 : Jvm.Cond.methodLink "BusTelegrams" (154 : Nat) ({ cls := "BusTelegrams", name := "packedOf", desc := "(II)I" } : Jvm.MethodName) ∈ GL := gl_of 226 (by decide +kernel) (by decide +kernel)
theorem mw_197 : Jvm.Cond.static ({ cls := "BusTelegrams", name := "packedOf", desc := "(II)I" } : Jvm.MethodName) ∈ GL := gl_of 227 (by decide +kernel) (by decide +kernel)
theorem mw_198 : Jvm.Cond.code ({ cls := "BusTelegrams", name := "packedOf", desc := "(II)I" } : Jvm.MethodName) prog_1_method_18_code (2 : Nat) (Option.some Jvm.ClassFile.FieldType.int) ∈ GL := gl_of 228 (by decide +kernel) (by decide +kernel)
theorem mw_199 : Jvm.Cond.constant "BusTelegrams" (160 : Nat) (32768 : Int32) ∈ GL := gl_of 229 (by decide +kernel) (by decide +kernel)
theorem mw_200 : Jvm.Cond.methodLink "BusTelegramsLaw" (57 : Nat) ({ cls := "BusTelegramsLaw", name := "address", desc := "(LBusTelegrams;II[J)I" } : Jvm.MethodName) ∈ GL := gl_of 230 (by decide +kernel) (by decide +kernel)
theorem mw_201 : Jvm.Cond.static ({ cls := "BusTelegramsLaw", name := "address", desc := "(LBusTelegrams;II[J)I" } : Jvm.MethodName) ∈ GL := gl_of 231 (by decide +kernel) (by decide +kernel)
theorem mw_202 : Jvm.Cond.codeWith ({ cls := "BusTelegramsLaw", name := "address", desc := "(LBusTelegrams;II[J)I" } : Jvm.MethodName) method_3_code (5 : Nat) (Option.some Jvm.ClassFile.FieldType.int) [((0 : Nat), (10 : Nat), (13 : Nat), (13 : Nat))] ∈ GL := gl_of 232 (by decide +kernel) (by decide +kernel)
theorem mw_203 : Jvm.Cond.classLink "BusTelegramsLaw" (13 : Nat) "java/lang/IllegalArgumentException" ∈ GL := gl_of 233 (by decide +kernel) (by decide +kernel)
theorem mw_204 : Jvm.Cond.methodLink "BusTelegramsLaw" (7 : Nat) ({ cls := "BusTelegrams", name := "address", desc := "(II)I" } : Jvm.MethodName) ∈ GL := gl_of 234 (by decide +kernel) (by decide +kernel)
theorem mw_205 : Jvm.Cond.instanceMethod ({ cls := "BusTelegrams", name := "address", desc := "(II)I" } : Jvm.MethodName) ∈ GL := gl_of 235 (by decide +kernel) (by decide +kernel)
theorem mw_206 : Jvm.Cond.selects "BusTelegrams" ({ cls := "BusTelegrams", name := "address", desc := "(II)I" } : Jvm.MethodName) ({ cls := "BusTelegrams", name := "address", desc := "(II)I" } : Jvm.MethodName) ∈ GL := gl_of 236 (by decide +kernel) (by decide +kernel)
theorem mw_207 : Jvm.Cond.code ({ cls := "BusTelegrams", name := "address", desc := "(II)I" } : Jvm.MethodName) prog_1_method_2_code (5 : Nat) (Option.some Jvm.ClassFile.FieldType.int) ∈ GL := gl_of 237 (by decide +kernel) (by decide +kernel)
theorem mw_208 : Jvm.Cond.methodLink "BusTelegrams" (43 : Nat) ({ cls := "BusTelegrams", name := "isOutside", desc := "(II)Z" } : Jvm.MethodName) ∈ GL := gl_of 238 (by decide +kernel) (by decide +kernel)
theorem mw_209 : Jvm.Cond.static ({ cls := "BusTelegrams", name := "isOutside", desc := "(II)Z" } : Jvm.MethodName) ∈ GL := gl_of 239 (by decide +kernel) (by decide +kernel)
theorem mw_210 : Jvm.Cond.code ({ cls := "BusTelegrams", name := "isOutside", desc := "(II)Z" } : Jvm.MethodName) prog_1_method_15_code (2 : Nat) (Option.some Jvm.ClassFile.FieldType.boolean) ∈ GL := gl_of 240 (by decide +kernel) (by decide +kernel)
theorem mw_211 : Jvm.Cond.constant "BusTelegrams" (47 : Nat) (65536 : Int32) ∈ GL := gl_of 241 (by decide +kernel) (by decide +kernel)
theorem mw_212 : Jvm.Cond.classLink "BusTelegrams" (48 : Nat) "java/lang/IllegalArgumentException" ∈ GL := gl_of 242 (by decide +kernel) (by decide +kernel)
theorem mw_213 : Jvm.Cond.instantiable "java/lang/IllegalArgumentException" (6 : Nat) ∈ GL := gl_of 243 (by decide +kernel) (by decide +kernel)
theorem mw_221 : Jvm.Cond.selects "java/lang/IllegalArgumentException" ({ cls := "java/lang/Throwable", name := "fillInStackTrace", desc := "(I)Ljava/lang/Throwable;" } : Jvm.MethodName) ({ cls := "java/lang/Throwable", name := "fillInStackTrace", desc := "(I)Ljava/lang/Throwable;" } : Jvm.MethodName) ∈ GL := gl_of 251 (by decide +kernel) (by decide +kernel)
theorem mw_222 : Jvm.Cond.selects "java/lang/IllegalArgumentException" ({ cls := "java/lang/Throwable", name := "fillInStackTrace", desc := "()Ljava/lang/Throwable;" } : Jvm.MethodName) ({ cls := "java/lang/Throwable", name := "fillInStackTrace", desc := "()Ljava/lang/Throwable;" } : Jvm.MethodName) ∈ GL := gl_of 252 (by decide +kernel) (by decide +kernel)
theorem mw_233 : Jvm.Cond.fieldLink "java/lang/Throwable" (198 : Nat) "java/lang/Throwable" "backtrace" "Ljava/lang/Object;" ∈ GL := gl_of 263 (by decide +kernel) (by decide +kernel)
theorem mw_235 : Jvm.Cond.instanceMethod ({ cls := "java/lang/Throwable", name := "<init>", desc := "()V" } : Jvm.MethodName) ∈ GL := gl_of 265 (by decide +kernel) (by decide +kernel)
theorem mw_236 : Jvm.Cond.code ({ cls := "java/lang/Throwable", name := "<init>", desc := "()V" } : Jvm.MethodName) prog_14_method_1_code (1 : Nat) (Option.none : Option Jvm.ClassFile.FieldType) ∈ GL := gl_of 266 (by decide +kernel) (by decide +kernel)
theorem mw_237 : Jvm.Cond.methodLink "java/lang/Throwable" (1 : Nat) ({ cls := "java/lang/Object", name := "<init>", desc := "()V" } : Jvm.MethodName) ∈ GL := gl_of 267 (by decide +kernel) (by decide +kernel)
theorem mw_238 : Jvm.Cond.fieldLink "java/lang/Throwable" (13 : Nat) "java/lang/Throwable" "UNASSIGNED_STACK" "[Ljava/lang/StackTraceElement;" ∈ GL := gl_of 268 (by decide +kernel) (by decide +kernel)
theorem mw_240 : Jvm.Cond.fieldLink "java/lang/Throwable" (20 : Nat) "java/lang/Throwable" "SUPPRESSED_SENTINEL" "Ljava/util/List;" ∈ GL := gl_of 270 (by decide +kernel) (by decide +kernel)
theorem mw_242 : Jvm.Cond.methodLink "java/lang/Throwable" (27 : Nat) ({ cls := "java/lang/Throwable", name := "fillInStackTrace", desc := "()Ljava/lang/Throwable;" } : Jvm.MethodName) ∈ GL := gl_of 272 (by decide +kernel) (by decide +kernel)
theorem mw_243 : Jvm.Cond.instanceMethod ({ cls := "java/lang/Throwable", name := "fillInStackTrace", desc := "()Ljava/lang/Throwable;" } : Jvm.MethodName) ∈ GL := gl_of 273 (by decide +kernel) (by decide +kernel)
theorem mw_245 : Jvm.Cond.selects "java/lang/IllegalStateException" ({ cls := "java/lang/Throwable", name := "fillInStackTrace", desc := "()Ljava/lang/Throwable;" } : Jvm.MethodName) ({ cls := "java/lang/Throwable", name := "fillInStackTrace", desc := "()Ljava/lang/Throwable;" } : Jvm.MethodName) ∈ GL := gl_of 275 (by decide +kernel) (by decide +kernel)
theorem mw_247 : Jvm.Cond.methodLink "java/lang/Throwable" (202 : Nat) ({ cls := "java/lang/Throwable", name := "fillInStackTrace", desc := "(I)Ljava/lang/Throwable;" } : Jvm.MethodName) ∈ GL := gl_of 277 (by decide +kernel) (by decide +kernel)
theorem mw_249 : Jvm.Cond.instanceMethod ({ cls := "java/lang/Throwable", name := "fillInStackTrace", desc := "(I)Ljava/lang/Throwable;" } : Jvm.MethodName) ∈ GL := gl_of 279 (by decide +kernel) (by decide +kernel)
theorem mw_250 : Jvm.Cond.instantiable "java/lang/Throwable" (6 : Nat) ∈ GL := gl_of 280 (by decide +kernel) (by decide +kernel)
theorem mw_253 : Jvm.Cond.methodLink "BusTelegrams" (52 : Nat) ({ cls := "java/lang/IllegalArgumentException", name := "<init>", desc := "(Ljava/lang/String;)V" } : Jvm.MethodName) ∈ GL := gl_of 283 (by decide +kernel) (by decide +kernel)
theorem mw_254 : Jvm.Cond.instanceMethod ({ cls := "java/lang/IllegalArgumentException", name := "<init>", desc := "(Ljava/lang/String;)V" } : Jvm.MethodName) ∈ GL := gl_of 284 (by decide +kernel) (by decide +kernel)
theorem mw_255 : Jvm.Cond.code ({ cls := "java/lang/IllegalArgumentException", name := "<init>", desc := "(Ljava/lang/String;)V" } : Jvm.MethodName) prog_8_method_2_code (2 : Nat) (Option.none : Option Jvm.ClassFile.FieldType) ∈ GL := gl_of 285 (by decide +kernel) (by decide +kernel)
theorem mw_256 : Jvm.Cond.methodLink "java/lang/IllegalArgumentException" (7 : Nat) ({ cls := "java/lang/RuntimeException", name := "<init>", desc := "(Ljava/lang/String;)V" } : Jvm.MethodName) ∈ GL := gl_of 286 (by decide +kernel) (by decide +kernel)
theorem mw_257 : Jvm.Cond.instanceMethod ({ cls := "java/lang/RuntimeException", name := "<init>", desc := "(Ljava/lang/String;)V" } : Jvm.MethodName) ∈ GL := gl_of 287 (by decide +kernel) (by decide +kernel)
theorem mw_258 : Jvm.Cond.code ({ cls := "java/lang/RuntimeException", name := "<init>", desc := "(Ljava/lang/String;)V" } : Jvm.MethodName) prog_12_method_2_code (2 : Nat) (Option.none : Option Jvm.ClassFile.FieldType) ∈ GL := gl_of 288 (by decide +kernel) (by decide +kernel)
theorem mw_259 : Jvm.Cond.methodLink "java/lang/RuntimeException" (7 : Nat) ({ cls := "java/lang/Exception", name := "<init>", desc := "(Ljava/lang/String;)V" } : Jvm.MethodName) ∈ GL := gl_of 289 (by decide +kernel) (by decide +kernel)
theorem mw_260 : Jvm.Cond.instanceMethod ({ cls := "java/lang/Exception", name := "<init>", desc := "(Ljava/lang/String;)V" } : Jvm.MethodName) ∈ GL := gl_of 290 (by decide +kernel) (by decide +kernel)
theorem mw_261 : Jvm.Cond.code ({ cls := "java/lang/Exception", name := "<init>", desc := "(Ljava/lang/String;)V" } : Jvm.MethodName) prog_7_method_2_code (2 : Nat) (Option.none : Option Jvm.ClassFile.FieldType) ∈ GL := gl_of 291 (by decide +kernel) (by decide +kernel)
theorem mw_262 : Jvm.Cond.methodLink "java/lang/Exception" (7 : Nat) ({ cls := "java/lang/Throwable", name := "<init>", desc := "(Ljava/lang/String;)V" } : Jvm.MethodName) ∈ GL := gl_of 292 (by decide +kernel) (by decide +kernel)
theorem mw_263 : Jvm.Cond.instanceMethod ({ cls := "java/lang/Throwable", name := "<init>", desc := "(Ljava/lang/String;)V" } : Jvm.MethodName) ∈ GL := gl_of 293 (by decide +kernel) (by decide +kernel)
theorem mw_264 : Jvm.Cond.code ({ cls := "java/lang/Throwable", name := "<init>", desc := "(Ljava/lang/String;)V" } : Jvm.MethodName) prog_14_method_2_code (2 : Nat) (Option.none : Option Jvm.ClassFile.FieldType) ∈ GL := gl_of 294 (by decide +kernel) (by decide +kernel)
theorem mw_265 : Jvm.Cond.fieldLink "java/lang/Throwable" (198 : Nat) "java/lang/Throwable" "backtrace" "Ljava/lang/Object;" ∈ GL := gl_of 295 (by decide +kernel) (by decide +kernel)
theorem mw_266 : Jvm.Cond.fieldLink "java/lang/Throwable" (31 : Nat) "java/lang/Throwable" "detailMessage" "Ljava/lang/String;" ∈ GL := gl_of 296 (by decide +kernel) (by decide +kernel)
theorem mw_267 : Jvm.Cond.fieldLink "java/lang/Throwable" (7 : Nat) "java/lang/Throwable" "cause" "Ljava/lang/Throwable;" ∈ GL := gl_of 297 (by decide +kernel) (by decide +kernel)
theorem mw_268 : Jvm.Cond.fieldLink "java/lang/Throwable" (17 : Nat) "java/lang/Throwable" "stackTrace" "[Ljava/lang/StackTraceElement;" ∈ GL := gl_of 298 (by decide +kernel) (by decide +kernel)
theorem mw_269 : Jvm.Cond.fieldLink "java/lang/Throwable" (24 : Nat) "java/lang/Throwable" "suppressedExceptions" "Ljava/util/List;" ∈ GL := gl_of 299 (by decide +kernel) (by decide +kernel)
theorem mw_278 : Jvm.Cond.arrayClass Jvm.ClassFile.FieldType.byte ∈ GL := gl_of 308 (by decide +kernel) (by decide +kernel)
theorem mw_279 : Jvm.Cond.methodLink "BusTelegramsLaw" (67 : Nat) ({ cls := "BusTelegramsLaw", name := "listen", desc := "(LBusTelegrams;IIZ[J)I" } : Jvm.MethodName) ∈ GL := gl_of 309 (by decide +kernel) (by decide +kernel)
theorem mw_280 : Jvm.Cond.static ({ cls := "BusTelegramsLaw", name := "listen", desc := "(LBusTelegrams;IIZ[J)I" } : Jvm.MethodName) ∈ GL := gl_of 310 (by decide +kernel) (by decide +kernel)
theorem mw_281 : Jvm.Cond.codeWith ({ cls := "BusTelegramsLaw", name := "listen", desc := "(LBusTelegrams;IIZ[J)I" } : Jvm.MethodName) method_4_code (6 : Nat) (Option.some Jvm.ClassFile.FieldType.int) [((0 : Nat), (19 : Nat), (22 : Nat), (13 : Nat))] ∈ GL := gl_of 311 (by decide +kernel) (by decide +kernel)
theorem mw_282 : Jvm.Cond.methodLink "BusTelegramsLaw" (15 : Nat) ({ cls := "BusTelegrams", name := "listen", desc := "(IIZ)Z" } : Jvm.MethodName) ∈ GL := gl_of 312 (by decide +kernel) (by decide +kernel)
theorem mw_283 : Jvm.Cond.instanceMethod ({ cls := "BusTelegrams", name := "listen", desc := "(IIZ)Z" } : Jvm.MethodName) ∈ GL := gl_of 313 (by decide +kernel) (by decide +kernel)
theorem mw_284 : Jvm.Cond.selects "BusTelegrams" ({ cls := "BusTelegrams", name := "listen", desc := "(IIZ)Z" } : Jvm.MethodName) ({ cls := "BusTelegrams", name := "listen", desc := "(IIZ)Z" } : Jvm.MethodName) ∈ GL := gl_of 314 (by decide +kernel) (by decide +kernel)
theorem mw_285 : Jvm.Cond.code ({ cls := "BusTelegrams", name := "listen", desc := "(IIZ)Z" } : Jvm.MethodName) prog_1_method_3_code (6 : Nat) (Option.some Jvm.ClassFile.FieldType.boolean) ∈ GL := gl_of 315 (by decide +kernel) (by decide +kernel)
theorem mw_287 : Jvm.Cond.methodLink "BusTelegramsLaw" (71 : Nat) ({ cls := "BusTelegramsLaw", name := "busy", desc := "(LBusTelegrams;IZ[J)I" } : Jvm.MethodName) ∈ GL := gl_of 317 (by decide +kernel) (by decide +kernel)
theorem mw_288 : Jvm.Cond.static ({ cls := "BusTelegramsLaw", name := "busy", desc := "(LBusTelegrams;IZ[J)I" } : Jvm.MethodName) ∈ GL := gl_of 318 (by decide +kernel) (by decide +kernel)
theorem mw_289 : Jvm.Cond.codeWith ({ cls := "BusTelegramsLaw", name := "busy", desc := "(LBusTelegrams;IZ[J)I" } : Jvm.MethodName) method_5_code (5 : Nat) (Option.some Jvm.ClassFile.FieldType.int) [((0 : Nat), (17 : Nat), (20 : Nat), (13 : Nat))] ∈ GL := gl_of 319 (by decide +kernel) (by decide +kernel)
theorem mw_290 : Jvm.Cond.methodLink "BusTelegramsLaw" (19 : Nat) ({ cls := "BusTelegrams", name := "busy", desc := "(IZ)Z" } : Jvm.MethodName) ∈ GL := gl_of 320 (by decide +kernel) (by decide +kernel)
theorem mw_291 : Jvm.Cond.instanceMethod ({ cls := "BusTelegrams", name := "busy", desc := "(IZ)Z" } : Jvm.MethodName) ∈ GL := gl_of 321 (by decide +kernel) (by decide +kernel)
theorem mw_292 : Jvm.Cond.selects "BusTelegrams" ({ cls := "BusTelegrams", name := "busy", desc := "(IZ)Z" } : Jvm.MethodName) ({ cls := "BusTelegrams", name := "busy", desc := "(IZ)Z" } : Jvm.MethodName) ∈ GL := gl_of 322 (by decide +kernel) (by decide +kernel)
theorem mw_293 : Jvm.Cond.code ({ cls := "BusTelegrams", name := "busy", desc := "(IZ)Z" } : Jvm.MethodName) prog_1_method_4_code (5 : Nat) (Option.some Jvm.ClassFile.FieldType.boolean) ∈ GL := gl_of 323 (by decide +kernel) (by decide +kernel)
theorem mw_295 : Jvm.Cond.methodLink "BusTelegramsLaw" (75 : Nat) ({ cls := "BusTelegramsLaw", name := "send", desc := "(LBusTelegrams;IIIZII[J)I" } : Jvm.MethodName) ∈ GL := gl_of 325 (by decide +kernel) (by decide +kernel)
theorem mw_296 : Jvm.Cond.static ({ cls := "BusTelegramsLaw", name := "send", desc := "(LBusTelegrams;IIIZII[J)I" } : Jvm.MethodName) ∈ GL := gl_of 326 (by decide +kernel) (by decide +kernel)
theorem mw_297 : Jvm.Cond.codeWith ({ cls := "BusTelegramsLaw", name := "send", desc := "(LBusTelegrams;IIIZII[J)I" } : Jvm.MethodName) method_6_code (9 : Nat) (Option.some Jvm.ClassFile.FieldType.int) [((0 : Nat), (18 : Nat), (21 : Nat), (13 : Nat)), ((0 : Nat), (18 : Nat), (25 : Nat), (27 : Nat))] ∈ GL := gl_of 327 (by decide +kernel) (by decide +kernel)
theorem mw_298 : Jvm.Cond.classLink "BusTelegramsLaw" (27 : Nat) "java/lang/IllegalStateException" ∈ GL := gl_of 328 (by decide +kernel) (by decide +kernel)
theorem mw_299 : Jvm.Cond.methodLink "BusTelegramsLaw" (23 : Nat) ({ cls := "BusTelegrams", name := "send", desc := "(IIIZII)I" } : Jvm.MethodName) ∈ GL := gl_of 329 (by decide +kernel) (by decide +kernel)
theorem mw_300 : Jvm.Cond.instanceMethod ({ cls := "BusTelegrams", name := "send", desc := "(IIIZII)I" } : Jvm.MethodName) ∈ GL := gl_of 330 (by decide +kernel) (by decide +kernel)
theorem mw_301 : Jvm.Cond.selects "BusTelegrams" ({ cls := "BusTelegrams", name := "send", desc := "(IIIZII)I" } : Jvm.MethodName) ({ cls := "BusTelegrams", name := "send", desc := "(IIIZII)I" } : Jvm.MethodName) ∈ GL := gl_of 331 (by decide +kernel) (by decide +kernel)
theorem mw_302 : Jvm.Cond.code ({ cls := "BusTelegrams", name := "send", desc := "(IIIZII)I" } : Jvm.MethodName) prog_1_method_5_code (9 : Nat) (Option.some Jvm.ClassFile.FieldType.int) ∈ GL := gl_of 332 (by decide +kernel) (by decide +kernel)
theorem mw_306 : Jvm.Cond.classLink "BusTelegrams" (78 : Nat) "java/lang/IllegalStateException" ∈ GL := gl_of 336 (by decide +kernel) (by decide +kernel)
theorem mw_307 : Jvm.Cond.instantiable "java/lang/IllegalStateException" (6 : Nat) ∈ GL := gl_of 337 (by decide +kernel) (by decide +kernel)
theorem mw_309 : Jvm.Cond.selects "java/lang/IllegalStateException" ({ cls := "java/lang/Throwable", name := "fillInStackTrace", desc := "(I)Ljava/lang/Throwable;" } : Jvm.MethodName) ({ cls := "java/lang/Throwable", name := "fillInStackTrace", desc := "(I)Ljava/lang/Throwable;" } : Jvm.MethodName) ∈ GL := gl_of 339 (by decide +kernel) (by decide +kernel)
theorem mw_316 : Jvm.Cond.methodLink "BusTelegrams" (82 : Nat) ({ cls := "java/lang/IllegalStateException", name := "<init>", desc := "(Ljava/lang/String;)V" } : Jvm.MethodName) ∈ GL := gl_of 346 (by decide +kernel) (by decide +kernel)
theorem mw_317 : Jvm.Cond.instanceMethod ({ cls := "java/lang/IllegalStateException", name := "<init>", desc := "(Ljava/lang/String;)V" } : Jvm.MethodName) ∈ GL := gl_of 347 (by decide +kernel) (by decide +kernel)
theorem mw_318 : Jvm.Cond.code ({ cls := "java/lang/IllegalStateException", name := "<init>", desc := "(Ljava/lang/String;)V" } : Jvm.MethodName) prog_9_method_2_code (2 : Nat) (Option.none : Option Jvm.ClassFile.FieldType) ∈ GL := gl_of 348 (by decide +kernel) (by decide +kernel)
theorem mw_319 : Jvm.Cond.methodLink "java/lang/IllegalStateException" (7 : Nat) ({ cls := "java/lang/RuntimeException", name := "<init>", desc := "(Ljava/lang/String;)V" } : Jvm.MethodName) ∈ GL := gl_of 349 (by decide +kernel) (by decide +kernel)
theorem mw_322 : Jvm.Cond.methodLink "BusTelegrams" (83 : Nat) ({ cls := "BusTelegrams$Station", name := "addToQueue", desc := "()LBusTelegrams$Telegram;" } : Jvm.MethodName) ∈ GL := gl_of 352 (by decide +kernel) (by decide +kernel)
theorem mw_323 : Jvm.Cond.instanceMethod ({ cls := "BusTelegrams$Station", name := "addToQueue", desc := "()LBusTelegrams$Telegram;" } : Jvm.MethodName) ∈ GL := gl_of 353 (by decide +kernel) (by decide +kernel)
theorem mw_324 : Jvm.Cond.selects "BusTelegrams$Station" ({ cls := "BusTelegrams$Station", name := "addToQueue", desc := "()LBusTelegrams$Telegram;" } : Jvm.MethodName) ({ cls := "BusTelegrams$Station", name := "addToQueue", desc := "()LBusTelegrams$Telegram;" } : Jvm.MethodName) ∈ GL := gl_of 354 (by decide +kernel) (by decide +kernel)
theorem mw_325 : Jvm.Cond.code ({ cls := "BusTelegrams$Station", name := "addToQueue", desc := "()LBusTelegrams$Telegram;" } : Jvm.MethodName) prog_3_method_2_code (2 : Nat) (Option.some (Jvm.ClassFile.FieldType.object "BusTelegrams$Telegram")) ∈ GL := gl_of 355 (by decide +kernel) (by decide +kernel)
theorem mw_326 : Jvm.Cond.methodLink "BusTelegrams$Station" (63 : Nat) ({ cls := "BusTelegrams$Station", name := "queueAt", desc := "(I)LBusTelegrams$Telegram;" } : Jvm.MethodName) ∈ GL := gl_of 356 (by decide +kernel) (by decide +kernel)
theorem mw_328 : Jvm.Cond.instanceMethod ({ cls := "BusTelegrams$Station", name := "queueAt", desc := "(I)LBusTelegrams$Telegram;" } : Jvm.MethodName) ∈ GL := gl_of 358 (by decide +kernel) (by decide +kernel)
theorem mw_329 : Jvm.Cond.code ({ cls := "BusTelegrams$Station", name := "queueAt", desc := "(I)LBusTelegrams$Telegram;" } : Jvm.MethodName) prog_3_method_3_code (2 : Nat) (Option.some (Jvm.ClassFile.FieldType.object "BusTelegrams$Telegram")) ∈ GL := gl_of 359 (by decide +kernel) (by decide +kernel)
theorem mw_330 : Jvm.Cond.methodLink "BusTelegrams$Station" (67 : Nat) ({ cls := "java/lang/Math", name := "floorMod", desc := "(II)I" } : Jvm.MethodName) ∈ GL := gl_of 360 (by decide +kernel) (by decide +kernel)
theorem mw_331 : Jvm.Cond.static ({ cls := "java/lang/Math", name := "floorMod", desc := "(II)I" } : Jvm.MethodName) ∈ GL := gl_of 361 (by decide +kernel) (by decide +kernel)
theorem mw_332 : Jvm.Cond.code ({ cls := "java/lang/Math", name := "floorMod", desc := "(II)I" } : Jvm.MethodName) prog_11_method_50_code (3 : Nat) (Option.some Jvm.ClassFile.FieldType.int) ∈ GL := gl_of 362 (by decide +kernel) (by decide +kernel)
theorem mw_333 : Jvm.Cond.methodLink "BusTelegrams" (87 : Nat) ({ cls := "BusTelegrams$Telegram", name := "setHead", desc := "(III)V" } : Jvm.MethodName) ∈ GL := gl_of 363 (by decide +kernel) (by decide +kernel)
theorem mw_334 : Jvm.Cond.instanceMethod ({ cls := "BusTelegrams$Telegram", name := "setHead", desc := "(III)V" } : Jvm.MethodName) ∈ GL := gl_of 364 (by decide +kernel) (by decide +kernel)
theorem mw_335 : Jvm.Cond.selects "BusTelegrams$Telegram" ({ cls := "BusTelegrams$Telegram", name := "setHead", desc := "(III)V" } : Jvm.MethodName) ({ cls := "BusTelegrams$Telegram", name := "setHead", desc := "(III)V" } : Jvm.MethodName) ∈ GL := gl_of 365 (by decide +kernel) (by decide +kernel)
theorem mw_336 : Jvm.Cond.code ({ cls := "BusTelegrams$Telegram", name := "setHead", desc := "(III)V" } : Jvm.MethodName) prog_4_method_2_code (4 : Nat) (Option.none : Option Jvm.ClassFile.FieldType) ∈ GL := gl_of 366 (by decide +kernel) (by decide +kernel)
theorem mw_337 : Jvm.Cond.methodLink "BusTelegrams" (93 : Nat) ({ cls := "BusTelegrams$Telegram", name := "setData", desc := "(ZII)V" } : Jvm.MethodName) ∈ GL := gl_of 367 (by decide +kernel) (by decide +kernel)
theorem mw_338 : Jvm.Cond.instanceMethod ({ cls := "BusTelegrams$Telegram", name := "setData", desc := "(ZII)V" } : Jvm.MethodName) ∈ GL := gl_of 368 (by decide +kernel) (by decide +kernel)
theorem mw_339 : Jvm.Cond.selects "BusTelegrams$Telegram" ({ cls := "BusTelegrams$Telegram", name := "setData", desc := "(ZII)V" } : Jvm.MethodName) ({ cls := "BusTelegrams$Telegram", name := "setData", desc := "(ZII)V" } : Jvm.MethodName) ∈ GL := gl_of 369 (by decide +kernel) (by decide +kernel)
theorem mw_340 : Jvm.Cond.code ({ cls := "BusTelegrams$Telegram", name := "setData", desc := "(ZII)V" } : Jvm.MethodName) prog_4_method_3_code (6 : Nat) (Option.none : Option Jvm.ClassFile.FieldType) ∈ GL := gl_of 370 (by decide +kernel) (by decide +kernel)
theorem mw_341 : Jvm.Cond.methodLink "BusTelegrams$Telegram" (25 : Nat) ({ cls := "java/lang/Math", name := "min", desc := "(II)I" } : Jvm.MethodName) ∈ GL := gl_of 371 (by decide +kernel) (by decide +kernel)
theorem mw_342 : Jvm.Cond.static ({ cls := "java/lang/Math", name := "min", desc := "(II)I" } : Jvm.MethodName) ∈ GL := gl_of 372 (by decide +kernel) (by decide +kernel)
theorem mw_343 : Jvm.Cond.code ({ cls := "java/lang/Math", name := "min", desc := "(II)I" } : Jvm.MethodName) prog_11_method_69_code (2 : Nat) (Option.some Jvm.ClassFile.FieldType.int) ∈ GL := gl_of 373 (by decide +kernel) (by decide +kernel)
theorem mw_344 : Jvm.Cond.methodLink "BusTelegrams$Telegram" (31 : Nat) ({ cls := "java/lang/Math", name := "max", desc := "(II)I" } : Jvm.MethodName) ∈ GL := gl_of 374 (by decide +kernel) (by decide +kernel)
theorem mw_345 : Jvm.Cond.static ({ cls := "java/lang/Math", name := "max", desc := "(II)I" } : Jvm.MethodName) ∈ GL := gl_of 375 (by decide +kernel) (by decide +kernel)
theorem mw_346 : Jvm.Cond.code ({ cls := "java/lang/Math", name := "max", desc := "(II)I" } : Jvm.MethodName) prog_11_method_65_code (2 : Nat) (Option.some Jvm.ClassFile.FieldType.int) ∈ GL := gl_of 376 (by decide +kernel) (by decide +kernel)
theorem mw_347 : Jvm.Cond.methodLink "BusTelegrams" (97 : Nat) ({ cls := "BusTelegrams$Telegram", name := "seal", desc := "()V" } : Jvm.MethodName) ∈ GL := gl_of 377 (by decide +kernel) (by decide +kernel)
theorem mw_348 : Jvm.Cond.instanceMethod ({ cls := "BusTelegrams$Telegram", name := "seal", desc := "()V" } : Jvm.MethodName) ∈ GL := gl_of 378 (by decide +kernel) (by decide +kernel)
theorem mw_349 : Jvm.Cond.selects "BusTelegrams$Telegram" ({ cls := "BusTelegrams$Telegram", name := "seal", desc := "()V" } : Jvm.MethodName) ({ cls := "BusTelegrams$Telegram", name := "seal", desc := "()V" } : Jvm.MethodName) ∈ GL := gl_of 379 (by decide +kernel) (by decide +kernel)
theorem mw_350 : Jvm.Cond.code ({ cls := "BusTelegrams$Telegram", name := "seal", desc := "()V" } : Jvm.MethodName) prog_4_method_4_code (4 : Nat) (Option.none : Option Jvm.ClassFile.FieldType) ∈ GL := gl_of 380 (by decide +kernel) (by decide +kernel)
theorem mw_351 : Jvm.Cond.methodLink "BusTelegramsLaw" (79 : Nat) ({ cls := "BusTelegramsLaw", name := "disturb", desc := "(LBusTelegrams;I[J)I" } : Jvm.MethodName) ∈ GL := gl_of 381 (by decide +kernel) (by decide +kernel)
theorem mw_352 : Jvm.Cond.static ({ cls := "BusTelegramsLaw", name := "disturb", desc := "(LBusTelegrams;I[J)I" } : Jvm.MethodName) ∈ GL := gl_of 382 (by decide +kernel) (by decide +kernel)
theorem mw_353 : Jvm.Cond.codeWith ({ cls := "BusTelegramsLaw", name := "disturb", desc := "(LBusTelegrams;I[J)I" } : Jvm.MethodName) method_7_code (4 : Nat) (Option.some Jvm.ClassFile.FieldType.int) [((0 : Nat), (16 : Nat), (19 : Nat), (13 : Nat)), ((0 : Nat), (16 : Nat), (22 : Nat), (27 : Nat))] ∈ GL := gl_of 383 (by decide +kernel) (by decide +kernel)
theorem mw_354 : Jvm.Cond.methodLink "BusTelegramsLaw" (29 : Nat) ({ cls := "BusTelegrams", name := "disturb", desc := "(I)Z" } : Jvm.MethodName) ∈ GL := gl_of 384 (by decide +kernel) (by decide +kernel)
theorem mw_355 : Jvm.Cond.instanceMethod ({ cls := "BusTelegrams", name := "disturb", desc := "(I)Z" } : Jvm.MethodName) ∈ GL := gl_of 385 (by decide +kernel) (by decide +kernel)
theorem mw_356 : Jvm.Cond.selects "BusTelegrams" ({ cls := "BusTelegrams", name := "disturb", desc := "(I)Z" } : Jvm.MethodName) ({ cls := "BusTelegrams", name := "disturb", desc := "(I)Z" } : Jvm.MethodName) ∈ GL := gl_of 386 (by decide +kernel) (by decide +kernel)
theorem mw_357 : Jvm.Cond.code ({ cls := "BusTelegrams", name := "disturb", desc := "(I)Z" } : Jvm.MethodName) prog_1_method_6_code (3 : Nat) (Option.some Jvm.ClassFile.FieldType.boolean) ∈ GL := gl_of 387 (by decide +kernel) (by decide +kernel)
theorem mw_360 : Jvm.Cond.methodLink "BusTelegrams" (104 : Nat) ({ cls := "BusTelegrams", name := "disturbancePlace", desc := "(I)I" } : Jvm.MethodName) ∈ GL := gl_of 390 (by decide +kernel) (by decide +kernel)
theorem mw_361 : Jvm.Cond.static ({ cls := "BusTelegrams", name := "disturbancePlace", desc := "(I)I" } : Jvm.MethodName) ∈ GL := gl_of 391 (by decide +kernel) (by decide +kernel)
theorem mw_362 : Jvm.Cond.code ({ cls := "BusTelegrams", name := "disturbancePlace", desc := "(I)I" } : Jvm.MethodName) prog_1_method_16_code (1 : Nat) (Option.some Jvm.ClassFile.FieldType.int) ∈ GL := gl_of 392 (by decide +kernel) (by decide +kernel)
theorem mw_363 : Jvm.Cond.methodLink "BusTelegramsLaw" (83 : Nat) ({ cls := "BusTelegramsLaw", name := "run", desc := "(LBusTelegrams;I[J)I" } : Jvm.MethodName) ∈ GL := gl_of 393 (by decide +kernel) (by decide +kernel)
theorem mw_364 : Jvm.Cond.static ({ cls := "BusTelegramsLaw", name := "run", desc := "(LBusTelegrams;I[J)I" } : Jvm.MethodName) ∈ GL := gl_of 394 (by decide +kernel) (by decide +kernel)
theorem mw_365 : Jvm.Cond.codeWith ({ cls := "BusTelegramsLaw", name := "run", desc := "(LBusTelegrams;I[J)I" } : Jvm.MethodName) method_8_code (4 : Nat) (Option.some Jvm.ClassFile.FieldType.int) [((0 : Nat), (9 : Nat), (12 : Nat), (13 : Nat)), ((0 : Nat), (9 : Nat), (15 : Nat), (27 : Nat))] ∈ GL := gl_of 395 (by decide +kernel) (by decide +kernel)
theorem mw_366 : Jvm.Cond.methodLink "BusTelegramsLaw" (33 : Nat) ({ cls := "BusTelegrams", name := "run", desc := "(I)I" } : Jvm.MethodName) ∈ GL := gl_of 396 (by decide +kernel) (by decide +kernel)
theorem mw_367 : Jvm.Cond.instanceMethod ({ cls := "BusTelegrams", name := "run", desc := "(I)I" } : Jvm.MethodName) ∈ GL := gl_of 397 (by decide +kernel) (by decide +kernel)
theorem mw_368 : Jvm.Cond.selects "BusTelegrams" ({ cls := "BusTelegrams", name := "run", desc := "(I)I" } : Jvm.MethodName) ({ cls := "BusTelegrams", name := "run", desc := "(I)I" } : Jvm.MethodName) ∈ GL := gl_of 398 (by decide +kernel) (by decide +kernel)
theorem mw_369 : Jvm.Cond.code ({ cls := "BusTelegrams", name := "run", desc := "(I)I" } : Jvm.MethodName) prog_1_method_7_code (3 : Nat) (Option.some Jvm.ClassFile.FieldType.int) ∈ GL := gl_of 399 (by decide +kernel) (by decide +kernel)
theorem mw_371 : Jvm.Cond.constant "BusTelegrams" (110 : Nat) (100000 : Int32) ∈ GL := gl_of 401 (by decide +kernel) (by decide +kernel)
theorem mw_373 : Jvm.Cond.methodLink "BusTelegrams" (113 : Nat) ({ cls := "BusTelegrams", name := "passBitTime", desc := "()V" } : Jvm.MethodName) ∈ GL := gl_of 403 (by decide +kernel) (by decide +kernel)
theorem mw_375 : Jvm.Cond.instanceMethod ({ cls := "BusTelegrams", name := "passBitTime", desc := "()V" } : Jvm.MethodName) ∈ GL := gl_of 405 (by decide +kernel) (by decide +kernel)
theorem mw_376 : Jvm.Cond.code ({ cls := "BusTelegrams", name := "passBitTime", desc := "()V" } : Jvm.MethodName) prog_1_method_21_code (4 : Nat) (Option.none : Option Jvm.ClassFile.FieldType) ∈ GL := gl_of 406 (by decide +kernel) (by decide +kernel)
theorem mw_377 : Jvm.Cond.methodLink "BusTelegrams" (166 : Nat) ({ cls := "BusTelegrams", name := "beginAnswers", desc := "()V" } : Jvm.MethodName) ∈ GL := gl_of 407 (by decide +kernel) (by decide +kernel)
theorem mw_379 : Jvm.Cond.instanceMethod ({ cls := "BusTelegrams", name := "beginAnswers", desc := "()V" } : Jvm.MethodName) ∈ GL := gl_of 409 (by decide +kernel) (by decide +kernel)
theorem mw_380 : Jvm.Cond.code ({ cls := "BusTelegrams", name := "beginAnswers", desc := "()V" } : Jvm.MethodName) prog_1_method_22_code (3 : Nat) (Option.none : Option Jvm.ClassFile.FieldType) ∈ GL := gl_of 410 (by decide +kernel) (by decide +kernel)
theorem mw_381 : Jvm.Cond.methodLink "BusTelegrams" (192 : Nat) ({ cls := "BusTelegrams$Ear", name := "isAnswerDue", desc := "(I)Z" } : Jvm.MethodName) ∈ GL := gl_of 411 (by decide +kernel) (by decide +kernel)
theorem mw_382 : Jvm.Cond.instanceMethod ({ cls := "BusTelegrams$Ear", name := "isAnswerDue", desc := "(I)Z" } : Jvm.MethodName) ∈ GL := gl_of 412 (by decide +kernel) (by decide +kernel)
theorem mw_383 : Jvm.Cond.selects "BusTelegrams$Ear" ({ cls := "BusTelegrams$Ear", name := "isAnswerDue", desc := "(I)Z" } : Jvm.MethodName) ({ cls := "BusTelegrams$Ear", name := "isAnswerDue", desc := "(I)Z" } : Jvm.MethodName) ∈ GL := gl_of 413 (by decide +kernel) (by decide +kernel)
theorem mw_384 : Jvm.Cond.code ({ cls := "BusTelegrams$Ear", name := "isAnswerDue", desc := "(I)Z" } : Jvm.MethodName) prog_2_method_10_code (2 : Nat) (Option.some Jvm.ClassFile.FieldType.boolean) ∈ GL := gl_of 414 (by decide +kernel) (by decide +kernel)
theorem mw_385 : Jvm.Cond.methodLink "BusTelegrams" (195 : Nat) ({ cls := "BusTelegrams$Ear", name := "latestAim", desc := "()I" } : Jvm.MethodName) ∈ GL := gl_of 415 (by decide +kernel) (by decide +kernel)
theorem mw_386 : Jvm.Cond.instanceMethod ({ cls := "BusTelegrams$Ear", name := "latestAim", desc := "()I" } : Jvm.MethodName) ∈ GL := gl_of 416 (by decide +kernel) (by decide +kernel)
theorem mw_387 : Jvm.Cond.selects "BusTelegrams$Ear" ({ cls := "BusTelegrams$Ear", name := "latestAim", desc := "()I" } : Jvm.MethodName) ({ cls := "BusTelegrams$Ear", name := "latestAim", desc := "()I" } : Jvm.MethodName) ∈ GL := gl_of 417 (by decide +kernel) (by decide +kernel)
theorem mw_388 : Jvm.Cond.code ({ cls := "BusTelegrams$Ear", name := "latestAim", desc := "()I" } : Jvm.MethodName) prog_2_method_12_code (1 : Nat) (Option.some Jvm.ClassFile.FieldType.int) ∈ GL := gl_of 418 (by decide +kernel) (by decide +kernel)
theorem mw_389 : Jvm.Cond.methodLink "BusTelegrams" (198 : Nat) ({ cls := "BusTelegrams$Ear", name := "isLatestForGroup", desc := "()Z" } : Jvm.MethodName) ∈ GL := gl_of 419 (by decide +kernel) (by decide +kernel)
theorem mw_390 : Jvm.Cond.instanceMethod ({ cls := "BusTelegrams$Ear", name := "isLatestForGroup", desc := "()Z" } : Jvm.MethodName) ∈ GL := gl_of 420 (by decide +kernel) (by decide +kernel)
theorem mw_391 : Jvm.Cond.selects "BusTelegrams$Ear" ({ cls := "BusTelegrams$Ear", name := "isLatestForGroup", desc := "()Z" } : Jvm.MethodName) ({ cls := "BusTelegrams$Ear", name := "isLatestForGroup", desc := "()Z" } : Jvm.MethodName) ∈ GL := gl_of 421 (by decide +kernel) (by decide +kernel)
theorem mw_392 : Jvm.Cond.code ({ cls := "BusTelegrams$Ear", name := "isLatestForGroup", desc := "()Z" } : Jvm.MethodName) prog_2_method_13_code (1 : Nat) (Option.some Jvm.ClassFile.FieldType.boolean) ∈ GL := gl_of 422 (by decide +kernel) (by decide +kernel)
theorem mw_393 : Jvm.Cond.methodLink "BusTelegrams" (201 : Nat) ({ cls := "BusTelegrams$Station", name := "isMeant", desc := "(IZ)Z" } : Jvm.MethodName) ∈ GL := gl_of 423 (by decide +kernel) (by decide +kernel)
theorem mw_394 : Jvm.Cond.instanceMethod ({ cls := "BusTelegrams$Station", name := "isMeant", desc := "(IZ)Z" } : Jvm.MethodName) ∈ GL := gl_of 424 (by decide +kernel) (by decide +kernel)
theorem mw_395 : Jvm.Cond.selects "BusTelegrams$Station" ({ cls := "BusTelegrams$Station", name := "isMeant", desc := "(IZ)Z" } : Jvm.MethodName) ({ cls := "BusTelegrams$Station", name := "isMeant", desc := "(IZ)Z" } : Jvm.MethodName) ∈ GL := gl_of 425 (by decide +kernel) (by decide +kernel)
theorem mw_396 : Jvm.Cond.code ({ cls := "BusTelegrams$Station", name := "isMeant", desc := "(IZ)Z" } : Jvm.MethodName) prog_3_method_4_code (3 : Nat) (Option.some Jvm.ClassFile.FieldType.boolean) ∈ GL := gl_of 426 (by decide +kernel) (by decide +kernel)
theorem mw_397 : Jvm.Cond.methodLink "BusTelegrams" (208 : Nat) ({ cls := "BusTelegrams$Station", name := "beginAnswer", desc := "(Z)V" } : Jvm.MethodName) ∈ GL := gl_of 427 (by decide +kernel) (by decide +kernel)
theorem mw_398 : Jvm.Cond.instanceMethod ({ cls := "BusTelegrams$Station", name := "beginAnswer", desc := "(Z)V" } : Jvm.MethodName) ∈ GL := gl_of 428 (by decide +kernel) (by decide +kernel)
theorem mw_399 : Jvm.Cond.selects "BusTelegrams$Station" ({ cls := "BusTelegrams$Station", name := "beginAnswer", desc := "(Z)V" } : Jvm.MethodName) ({ cls := "BusTelegrams$Station", name := "beginAnswer", desc := "(Z)V" } : Jvm.MethodName) ∈ GL := gl_of 429 (by decide +kernel) (by decide +kernel)
theorem mw_400 : Jvm.Cond.code ({ cls := "BusTelegrams$Station", name := "beginAnswer", desc := "(Z)V" } : Jvm.MethodName) prog_3_method_5_code (2 : Nat) (Option.none : Option Jvm.ClassFile.FieldType) ∈ GL := gl_of 430 (by decide +kernel) (by decide +kernel)
theorem mw_401 : Jvm.Cond.methodLink "BusTelegrams" (169 : Nat) ({ cls := "BusTelegrams", name := "sentByAll", desc := "()I" } : Jvm.MethodName) ∈ GL := gl_of 431 (by decide +kernel) (by decide +kernel)
theorem mw_403 : Jvm.Cond.instanceMethod ({ cls := "BusTelegrams", name := "sentByAll", desc := "()I" } : Jvm.MethodName) ∈ GL := gl_of 433 (by decide +kernel) (by decide +kernel)
theorem mw_404 : Jvm.Cond.code ({ cls := "BusTelegrams", name := "sentByAll", desc := "()I" } : Jvm.MethodName) prog_1_method_23_code (3 : Nat) (Option.some Jvm.ClassFile.FieldType.int) ∈ GL := gl_of 434 (by decide +kernel) (by decide +kernel)
theorem mw_405 : Jvm.Cond.methodLink "BusTelegrams" (212 : Nat) ({ cls := "BusTelegrams$Station", name := "nextBit", desc := "(I)I" } : Jvm.MethodName) ∈ GL := gl_of 435 (by decide +kernel) (by decide +kernel)
theorem mw_406 : Jvm.Cond.instanceMethod ({ cls := "BusTelegrams$Station", name := "nextBit", desc := "(I)I" } : Jvm.MethodName) ∈ GL := gl_of 436 (by decide +kernel) (by decide +kernel)
theorem mw_407 : Jvm.Cond.selects "BusTelegrams$Station" ({ cls := "BusTelegrams$Station", name := "nextBit", desc := "(I)I" } : Jvm.MethodName) ({ cls := "BusTelegrams$Station", name := "nextBit", desc := "(I)I" } : Jvm.MethodName) ∈ GL := gl_of 437 (by decide +kernel) (by decide +kernel)
theorem mw_408 : Jvm.Cond.code ({ cls := "BusTelegrams$Station", name := "nextBit", desc := "(I)I" } : Jvm.MethodName) prog_3_method_6_code (2 : Nat) (Option.some Jvm.ClassFile.FieldType.int) ∈ GL := gl_of 438 (by decide +kernel) (by decide +kernel)
theorem mw_409 : Jvm.Cond.methodLink "BusTelegrams$Station" (73 : Nat) ({ cls := "BusTelegrams$Station", name := "nextAnswerBit", desc := "()I" } : Jvm.MethodName) ∈ GL := gl_of 439 (by decide +kernel) (by decide +kernel)
theorem mw_411 : Jvm.Cond.instanceMethod ({ cls := "BusTelegrams$Station", name := "nextAnswerBit", desc := "()I" } : Jvm.MethodName) ∈ GL := gl_of 441 (by decide +kernel) (by decide +kernel)
theorem mw_412 : Jvm.Cond.code ({ cls := "BusTelegrams$Station", name := "nextAnswerBit", desc := "()I" } : Jvm.MethodName) prog_3_method_7_code (2 : Nat) (Option.some Jvm.ClassFile.FieldType.int) ∈ GL := gl_of 442 (by decide +kernel) (by decide +kernel)
theorem mw_414 : Jvm.Cond.static ({ cls := "BusTelegrams", name := "characterBit", desc := "(II)I" } : Jvm.MethodName) ∈ GL := gl_of 444 (by decide +kernel) (by decide +kernel)
theorem mw_415 : Jvm.Cond.code ({ cls := "BusTelegrams", name := "characterBit", desc := "(II)I" } : Jvm.MethodName) prog_1_method_20_code (2 : Nat) (Option.some Jvm.ClassFile.FieldType.int) ∈ GL := gl_of 445 (by decide +kernel) (by decide +kernel)
theorem mw_416 : Jvm.Cond.methodLink "BusTelegrams" (161 : Nat) ({ cls := "java/lang/Integer", name := "bitCount", desc := "(I)I" } : Jvm.MethodName) ∈ GL := gl_of 446 (by decide +kernel) (by decide +kernel)
theorem mw_417 : Jvm.Cond.static ({ cls := "java/lang/Integer", name := "bitCount", desc := "(I)I" } : Jvm.MethodName) ∈ GL := gl_of 447 (by decide +kernel) (by decide +kernel)
theorem mw_418 : Jvm.Cond.code ({ cls := "java/lang/Integer", name := "bitCount", desc := "(I)I" } : Jvm.MethodName) prog_10_method_49_code (1 : Nat) (Option.some Jvm.ClassFile.FieldType.int) ∈ GL := gl_of 448 (by decide +kernel) (by decide +kernel)
theorem mw_419 : Jvm.Cond.constant "java/lang/Integer" (265 : Nat) (1431655765 : Int32) ∈ GL := gl_of 449 (by decide +kernel) (by decide +kernel)
theorem mw_420 : Jvm.Cond.constant "java/lang/Integer" (266 : Nat) (858993459 : Int32) ∈ GL := gl_of 450 (by decide +kernel) (by decide +kernel)
theorem mw_421 : Jvm.Cond.constant "java/lang/Integer" (267 : Nat) (252645135 : Int32) ∈ GL := gl_of 451 (by decide +kernel) (by decide +kernel)
theorem mw_422 : Jvm.Cond.methodLink "BusTelegrams$Station" (77 : Nat) ({ cls := "BusTelegrams$Telegram", name := "idleNeeded", desc := "()I" } : Jvm.MethodName) ∈ GL := gl_of 452 (by decide +kernel) (by decide +kernel)
theorem mw_423 : Jvm.Cond.instanceMethod ({ cls := "BusTelegrams$Telegram", name := "idleNeeded", desc := "()I" } : Jvm.MethodName) ∈ GL := gl_of 453 (by decide +kernel) (by decide +kernel)
theorem mw_424 : Jvm.Cond.selects "BusTelegrams$Telegram" ({ cls := "BusTelegrams$Telegram", name := "idleNeeded", desc := "()I" } : Jvm.MethodName) ({ cls := "BusTelegrams$Telegram", name := "idleNeeded", desc := "()I" } : Jvm.MethodName) ∈ GL := gl_of 454 (by decide +kernel) (by decide +kernel)
theorem mw_425 : Jvm.Cond.code ({ cls := "BusTelegrams$Telegram", name := "idleNeeded", desc := "()I" } : Jvm.MethodName) prog_4_method_5_code (1 : Nat) (Option.some Jvm.ClassFile.FieldType.int) ∈ GL := gl_of 455 (by decide +kernel) (by decide +kernel)
theorem mw_426 : Jvm.Cond.methodLink "BusTelegrams$Station" (80 : Nat) ({ cls := "BusTelegrams$Telegram", name := "lineBit", desc := "(I)I" } : Jvm.MethodName) ∈ GL := gl_of 456 (by decide +kernel) (by decide +kernel)
theorem mw_427 : Jvm.Cond.instanceMethod ({ cls := "BusTelegrams$Telegram", name := "lineBit", desc := "(I)I" } : Jvm.MethodName) ∈ GL := gl_of 457 (by decide +kernel) (by decide +kernel)
theorem mw_428 : Jvm.Cond.selects "BusTelegrams$Telegram" ({ cls := "BusTelegrams$Telegram", name := "lineBit", desc := "(I)I" } : Jvm.MethodName) ({ cls := "BusTelegrams$Telegram", name := "lineBit", desc := "(I)I" } : Jvm.MethodName) ∈ GL := gl_of 458 (by decide +kernel) (by decide +kernel)
theorem mw_429 : Jvm.Cond.code ({ cls := "BusTelegrams$Telegram", name := "lineBit", desc := "(I)I" } : Jvm.MethodName) prog_4_method_6_code (3 : Nat) (Option.some Jvm.ClassFile.FieldType.int) ∈ GL := gl_of 459 (by decide +kernel) (by decide +kernel)
theorem mw_431 : Jvm.Cond.methodLink "BusTelegrams" (173 : Nat) ({ cls := "BusTelegrams", name := "takeDisturbance", desc := "()Z" } : Jvm.MethodName) ∈ GL := gl_of 461 (by decide +kernel) (by decide +kernel)
theorem mw_433 : Jvm.Cond.instanceMethod ({ cls := "BusTelegrams", name := "takeDisturbance", desc := "()Z" } : Jvm.MethodName) ∈ GL := gl_of 463 (by decide +kernel) (by decide +kernel)
theorem mw_434 : Jvm.Cond.code ({ cls := "BusTelegrams", name := "takeDisturbance", desc := "()Z" } : Jvm.MethodName) prog_1_method_24_code (2 : Nat) (Option.some Jvm.ClassFile.FieldType.boolean) ∈ GL := gl_of 464 (by decide +kernel) (by decide +kernel)
theorem mw_435 : Jvm.Cond.methodLink "BusTelegrams" (177 : Nat) ({ cls := "BusTelegrams$Station", name := "seeLine", desc := "(II)V" } : Jvm.MethodName) ∈ GL := gl_of 465 (by decide +kernel) (by decide +kernel)
theorem mw_436 : Jvm.Cond.instanceMethod ({ cls := "BusTelegrams$Station", name := "seeLine", desc := "(II)V" } : Jvm.MethodName) ∈ GL := gl_of 466 (by decide +kernel) (by decide +kernel)
theorem mw_437 : Jvm.Cond.selects "BusTelegrams$Station" ({ cls := "BusTelegrams$Station", name := "seeLine", desc := "(II)V" } : Jvm.MethodName) ({ cls := "BusTelegrams$Station", name := "seeLine", desc := "(II)V" } : Jvm.MethodName) ∈ GL := gl_of 467 (by decide +kernel) (by decide +kernel)
theorem mw_438 : Jvm.Cond.code ({ cls := "BusTelegrams$Station", name := "seeLine", desc := "(II)V" } : Jvm.MethodName) prog_3_method_8_code (3 : Nat) (Option.none : Option Jvm.ClassFile.FieldType) ∈ GL := gl_of 468 (by decide +kernel) (by decide +kernel)
theorem mw_439 : Jvm.Cond.methodLink "BusTelegrams$Station" (87 : Nat) ({ cls := "BusTelegrams$Telegram", name := "bitCount", desc := "()I" } : Jvm.MethodName) ∈ GL := gl_of 469 (by decide +kernel) (by decide +kernel)
theorem mw_440 : Jvm.Cond.instanceMethod ({ cls := "BusTelegrams$Telegram", name := "bitCount", desc := "()I" } : Jvm.MethodName) ∈ GL := gl_of 470 (by decide +kernel) (by decide +kernel)
theorem mw_441 : Jvm.Cond.selects "BusTelegrams$Telegram" ({ cls := "BusTelegrams$Telegram", name := "bitCount", desc := "()I" } : Jvm.MethodName) ({ cls := "BusTelegrams$Telegram", name := "bitCount", desc := "()I" } : Jvm.MethodName) ∈ GL := gl_of 471 (by decide +kernel) (by decide +kernel)
theorem mw_442 : Jvm.Cond.code ({ cls := "BusTelegrams$Telegram", name := "bitCount", desc := "()I" } : Jvm.MethodName) prog_4_method_7_code (1 : Nat) (Option.some Jvm.ClassFile.FieldType.int) ∈ GL := gl_of 472 (by decide +kernel) (by decide +kernel)
theorem mw_443 : Jvm.Cond.methodLink "BusTelegrams$Station" (90 : Nat) ({ cls := "BusTelegrams$Telegram", name := "countSaying", desc := "()V" } : Jvm.MethodName) ∈ GL := gl_of 473 (by decide +kernel) (by decide +kernel)
theorem mw_444 : Jvm.Cond.instanceMethod ({ cls := "BusTelegrams$Telegram", name := "countSaying", desc := "()V" } : Jvm.MethodName) ∈ GL := gl_of 474 (by decide +kernel) (by decide +kernel)
theorem mw_445 : Jvm.Cond.selects "BusTelegrams$Telegram" ({ cls := "BusTelegrams$Telegram", name := "countSaying", desc := "()V" } : Jvm.MethodName) ({ cls := "BusTelegrams$Telegram", name := "countSaying", desc := "()V" } : Jvm.MethodName) ∈ GL := gl_of 475 (by decide +kernel) (by decide +kernel)
theorem mw_446 : Jvm.Cond.code ({ cls := "BusTelegrams$Telegram", name := "countSaying", desc := "()V" } : Jvm.MethodName) prog_4_method_8_code (1 : Nat) (Option.none : Option Jvm.ClassFile.FieldType) ∈ GL := gl_of 476 (by decide +kernel) (by decide +kernel)
theorem mw_447 : Jvm.Cond.methodLink "BusTelegrams$Telegram" (37 : Nat) ({ cls := "BusTelegrams$Telegram", name := "seal", desc := "()V" } : Jvm.MethodName) ∈ GL := gl_of 477 (by decide +kernel) (by decide +kernel)
theorem mw_448 : Jvm.Cond.methodLink "BusTelegrams" (181 : Nat) ({ cls := "BusTelegrams$Ear", name := "take", desc := "(II)V" } : Jvm.MethodName) ∈ GL := gl_of 478 (by decide +kernel) (by decide +kernel)
theorem mw_449 : Jvm.Cond.instanceMethod ({ cls := "BusTelegrams$Ear", name := "take", desc := "(II)V" } : Jvm.MethodName) ∈ GL := gl_of 479 (by decide +kernel) (by decide +kernel)
theorem mw_450 : Jvm.Cond.selects "BusTelegrams$Ear" ({ cls := "BusTelegrams$Ear", name := "take", desc := "(II)V" } : Jvm.MethodName) ({ cls := "BusTelegrams$Ear", name := "take", desc := "(II)V" } : Jvm.MethodName) ∈ GL := gl_of 480 (by decide +kernel) (by decide +kernel)
theorem mw_451 : Jvm.Cond.code ({ cls := "BusTelegrams$Ear", name := "take", desc := "(II)V" } : Jvm.MethodName) prog_2_method_2_code (3 : Nat) (Option.none : Option Jvm.ClassFile.FieldType) ∈ GL := gl_of 481 (by decide +kernel) (by decide +kernel)
theorem mw_452 : Jvm.Cond.methodLink "BusTelegrams$Ear" (62 : Nat) ({ cls := "BusTelegrams$Ear", name := "takeInCharacter", desc := "(II)V" } : Jvm.MethodName) ∈ GL := gl_of 482 (by decide +kernel) (by decide +kernel)
theorem mw_454 : Jvm.Cond.instanceMethod ({ cls := "BusTelegrams$Ear", name := "takeInCharacter", desc := "(II)V" } : Jvm.MethodName) ∈ GL := gl_of 484 (by decide +kernel) (by decide +kernel)
theorem mw_455 : Jvm.Cond.code ({ cls := "BusTelegrams$Ear", name := "takeInCharacter", desc := "(II)V" } : Jvm.MethodName) prog_2_method_5_code (3 : Nat) (Option.none : Option Jvm.ClassFile.FieldType) ∈ GL := gl_of 485 (by decide +kernel) (by decide +kernel)
theorem mw_456 : Jvm.Cond.methodLink "BusTelegrams$Ear" (76 : Nat) ({ cls := "BusTelegrams$Ear", name := "endCharacter", desc := "(II)V" } : Jvm.MethodName) ∈ GL := gl_of 486 (by decide +kernel) (by decide +kernel)
theorem mw_458 : Jvm.Cond.instanceMethod ({ cls := "BusTelegrams$Ear", name := "endCharacter", desc := "(II)V" } : Jvm.MethodName) ∈ GL := gl_of 488 (by decide +kernel) (by decide +kernel)
theorem mw_459 : Jvm.Cond.code ({ cls := "BusTelegrams$Ear", name := "endCharacter", desc := "(II)V" } : Jvm.MethodName) prog_2_method_6_code (3 : Nat) (Option.none : Option Jvm.ClassFile.FieldType) ∈ GL := gl_of 489 (by decide +kernel) (by decide +kernel)
theorem mw_460 : Jvm.Cond.methodLink "BusTelegrams$Ear" (66 : Nat) ({ cls := "BusTelegrams$Ear", name := "takeInGap", desc := "(II)V" } : Jvm.MethodName) ∈ GL := gl_of 490 (by decide +kernel) (by decide +kernel)
theorem mw_462 : Jvm.Cond.instanceMethod ({ cls := "BusTelegrams$Ear", name := "takeInGap", desc := "(II)V" } : Jvm.MethodName) ∈ GL := gl_of 492 (by decide +kernel) (by decide +kernel)
theorem mw_463 : Jvm.Cond.code ({ cls := "BusTelegrams$Ear", name := "takeInGap", desc := "(II)V" } : Jvm.MethodName) prog_2_method_7_code (3 : Nat) (Option.none : Option Jvm.ClassFile.FieldType) ∈ GL := gl_of 493 (by decide +kernel) (by decide +kernel)
theorem mw_464 : Jvm.Cond.methodLink "BusTelegrams$Ear" (73 : Nat) ({ cls := "BusTelegrams$Ear", name := "beginCharacter", desc := "()V" } : Jvm.MethodName) ∈ GL := gl_of 494 (by decide +kernel) (by decide +kernel)
theorem mw_466 : Jvm.Cond.instanceMethod ({ cls := "BusTelegrams$Ear", name := "beginCharacter", desc := "()V" } : Jvm.MethodName) ∈ GL := gl_of 496 (by decide +kernel) (by decide +kernel)
theorem mw_467 : Jvm.Cond.code ({ cls := "BusTelegrams$Ear", name := "beginCharacter", desc := "()V" } : Jvm.MethodName) prog_2_method_4_code (1 : Nat) (Option.none : Option Jvm.ClassFile.FieldType) ∈ GL := gl_of 497 (by decide +kernel) (by decide +kernel)
theorem mw_468 : Jvm.Cond.methodLink "BusTelegrams$Ear" (79 : Nat) ({ cls := "BusTelegrams$Ear", name := "complete", desc := "()V" } : Jvm.MethodName) ∈ GL := gl_of 498 (by decide +kernel) (by decide +kernel)
theorem mw_470 : Jvm.Cond.instanceMethod ({ cls := "BusTelegrams$Ear", name := "complete", desc := "()V" } : Jvm.MethodName) ∈ GL := gl_of 500 (by decide +kernel) (by decide +kernel)
theorem mw_471 : Jvm.Cond.code ({ cls := "BusTelegrams$Ear", name := "complete", desc := "()V" } : Jvm.MethodName) prog_2_method_8_code (1 : Nat) (Option.none : Option Jvm.ClassFile.FieldType) ∈ GL := gl_of 501 (by decide +kernel) (by decide +kernel)
theorem mw_472 : Jvm.Cond.methodLink "BusTelegrams$Ear" (82 : Nat) ({ cls := "BusTelegrams$Ear", name := "completeTelegram", desc := "()V" } : Jvm.MethodName) ∈ GL := gl_of 502 (by decide +kernel) (by decide +kernel)
theorem mw_474 : Jvm.Cond.instanceMethod ({ cls := "BusTelegrams$Ear", name := "completeTelegram", desc := "()V" } : Jvm.MethodName) ∈ GL := gl_of 504 (by decide +kernel) (by decide +kernel)
theorem mw_475 : Jvm.Cond.code ({ cls := "BusTelegrams$Ear", name := "completeTelegram", desc := "()V" } : Jvm.MethodName) prog_2_method_9_code (3 : Nat) (Option.none : Option Jvm.ClassFile.FieldType) ∈ GL := gl_of 505 (by decide +kernel) (by decide +kernel)
theorem mw_476 : Jvm.Cond.methodLink "BusTelegrams$Ear" (69 : Nat) ({ cls := "BusTelegrams$Ear", name := "begin", desc := "(I)V" } : Jvm.MethodName) ∈ GL := gl_of 506 (by decide +kernel) (by decide +kernel)
theorem mw_478 : Jvm.Cond.instanceMethod ({ cls := "BusTelegrams$Ear", name := "begin", desc := "(I)V" } : Jvm.MethodName) ∈ GL := gl_of 508 (by decide +kernel) (by decide +kernel)
theorem mw_479 : Jvm.Cond.code ({ cls := "BusTelegrams$Ear", name := "begin", desc := "(I)V" } : Jvm.MethodName) prog_2_method_3_code (2 : Nat) (Option.none : Option Jvm.ClassFile.FieldType) ∈ GL := gl_of 509 (by decide +kernel) (by decide +kernel)
theorem mw_480 : Jvm.Cond.methodLink "BusTelegrams" (184 : Nat) ({ cls := "BusTelegrams$Ear", name := "isAccepted", desc := "(I)Z" } : Jvm.MethodName) ∈ GL := gl_of 510 (by decide +kernel) (by decide +kernel)
theorem mw_481 : Jvm.Cond.instanceMethod ({ cls := "BusTelegrams$Ear", name := "isAccepted", desc := "(I)Z" } : Jvm.MethodName) ∈ GL := gl_of 511 (by decide +kernel) (by decide +kernel)
theorem mw_482 : Jvm.Cond.selects "BusTelegrams$Ear" ({ cls := "BusTelegrams$Ear", name := "isAccepted", desc := "(I)Z" } : Jvm.MethodName) ({ cls := "BusTelegrams$Ear", name := "isAccepted", desc := "(I)Z" } : Jvm.MethodName) ∈ GL := gl_of 512 (by decide +kernel) (by decide +kernel)
theorem mw_483 : Jvm.Cond.code ({ cls := "BusTelegrams$Ear", name := "isAccepted", desc := "(I)Z" } : Jvm.MethodName) prog_2_method_11_code (2 : Nat) (Option.some Jvm.ClassFile.FieldType.boolean) ∈ GL := gl_of 513 (by decide +kernel) (by decide +kernel)
theorem mw_484 : Jvm.Cond.methodLink "BusTelegrams" (188 : Nat) ({ cls := "BusTelegrams$Station", name := "endWait", desc := "(ZI)V" } : Jvm.MethodName) ∈ GL := gl_of 514 (by decide +kernel) (by decide +kernel)
theorem mw_485 : Jvm.Cond.instanceMethod ({ cls := "BusTelegrams$Station", name := "endWait", desc := "(ZI)V" } : Jvm.MethodName) ∈ GL := gl_of 515 (by decide +kernel) (by decide +kernel)
theorem mw_486 : Jvm.Cond.selects "BusTelegrams$Station" ({ cls := "BusTelegrams$Station", name := "endWait", desc := "(ZI)V" } : Jvm.MethodName) ({ cls := "BusTelegrams$Station", name := "endWait", desc := "(ZI)V" } : Jvm.MethodName) ∈ GL := gl_of 516 (by decide +kernel) (by decide +kernel)
theorem mw_487 : Jvm.Cond.code ({ cls := "BusTelegrams$Station", name := "endWait", desc := "(ZI)V" } : Jvm.MethodName) prog_3_method_9_code (3 : Nat) (Option.none : Option Jvm.ClassFile.FieldType) ∈ GL := gl_of 517 (by decide +kernel) (by decide +kernel)
theorem mw_488 : Jvm.Cond.methodLink "BusTelegrams$Station" (93 : Nat) ({ cls := "BusTelegrams$Station", name := "removeFirst", desc := "()V" } : Jvm.MethodName) ∈ GL := gl_of 518 (by decide +kernel) (by decide +kernel)
theorem mw_490 : Jvm.Cond.instanceMethod ({ cls := "BusTelegrams$Station", name := "removeFirst", desc := "()V" } : Jvm.MethodName) ∈ GL := gl_of 520 (by decide +kernel) (by decide +kernel)
theorem mw_491 : Jvm.Cond.code ({ cls := "BusTelegrams$Station", name := "removeFirst", desc := "()V" } : Jvm.MethodName) prog_3_method_10_code (1 : Nat) (Option.none : Option Jvm.ClassFile.FieldType) ∈ GL := gl_of 521 (by decide +kernel) (by decide +kernel)
theorem mw_492 : Jvm.Cond.methodLink "BusTelegrams" (118 : Nat) ({ cls := "BusTelegrams", name := "bitPlace", desc := "(I)I" } : Jvm.MethodName) ∈ GL := gl_of 522 (by decide +kernel) (by decide +kernel)
theorem mw_493 : Jvm.Cond.static ({ cls := "BusTelegrams", name := "bitPlace", desc := "(I)I" } : Jvm.MethodName) ∈ GL := gl_of 523 (by decide +kernel) (by decide +kernel)
theorem mw_494 : Jvm.Cond.code ({ cls := "BusTelegrams", name := "bitPlace", desc := "(I)I" } : Jvm.MethodName) prog_1_method_17_code (1 : Nat) (Option.some Jvm.ClassFile.FieldType.int) ∈ GL := gl_of 524 (by decide +kernel) (by decide +kernel)
theorem mw_495 : Jvm.Cond.methodLink "BusTelegramsLaw" (86 : Nat) ({ cls := "BusTelegramsLaw", name := "bit", desc := "(LBusTelegrams;I[J)I" } : Jvm.MethodName) ∈ GL := gl_of 525 (by decide +kernel) (by decide +kernel)
theorem mw_496 : Jvm.Cond.static ({ cls := "BusTelegramsLaw", name := "bit", desc := "(LBusTelegrams;I[J)I" } : Jvm.MethodName) ∈ GL := gl_of 526 (by decide +kernel) (by decide +kernel)
theorem mw_497 : Jvm.Cond.codeWith ({ cls := "BusTelegramsLaw", name := "bit", desc := "(LBusTelegrams;I[J)I" } : Jvm.MethodName) method_9_code (4 : Nat) (Option.some Jvm.ClassFile.FieldType.int) [((0 : Nat), (9 : Nat), (12 : Nat), (13 : Nat))] ∈ GL := gl_of 527 (by decide +kernel) (by decide +kernel)
theorem mw_498 : Jvm.Cond.methodLink "BusTelegramsLaw" (37 : Nat) ({ cls := "BusTelegrams", name := "bit", desc := "(I)I" } : Jvm.MethodName) ∈ GL := gl_of 528 (by decide +kernel) (by decide +kernel)
theorem mw_499 : Jvm.Cond.instanceMethod ({ cls := "BusTelegrams", name := "bit", desc := "(I)I" } : Jvm.MethodName) ∈ GL := gl_of 529 (by decide +kernel) (by decide +kernel)
theorem mw_500 : Jvm.Cond.selects "BusTelegrams" ({ cls := "BusTelegrams", name := "bit", desc := "(I)I" } : Jvm.MethodName) ({ cls := "BusTelegrams", name := "bit", desc := "(I)I" } : Jvm.MethodName) ∈ GL := gl_of 530 (by decide +kernel) (by decide +kernel)
theorem mw_501 : Jvm.Cond.code ({ cls := "BusTelegrams", name := "bit", desc := "(I)I" } : Jvm.MethodName) prog_1_method_8_code (2 : Nat) (Option.some Jvm.ClassFile.FieldType.int) ∈ GL := gl_of 531 (by decide +kernel) (by decide +kernel)
theorem mw_503 : Jvm.Cond.methodLink "BusTelegramsLaw" (89 : Nat) ({ cls := "BusTelegramsLaw", name := "station", desc := "(LBusTelegrams;II[J)I" } : Jvm.MethodName) ∈ GL := gl_of 533 (by decide +kernel) (by decide +kernel)
theorem mw_504 : Jvm.Cond.static ({ cls := "BusTelegramsLaw", name := "station", desc := "(LBusTelegrams;II[J)I" } : Jvm.MethodName) ∈ GL := gl_of 534 (by decide +kernel) (by decide +kernel)
theorem mw_505 : Jvm.Cond.codeWith ({ cls := "BusTelegramsLaw", name := "station", desc := "(LBusTelegrams;II[J)I" } : Jvm.MethodName) method_10_code (5 : Nat) (Option.some Jvm.ClassFile.FieldType.int) [((0 : Nat), (10 : Nat), (13 : Nat), (13 : Nat))] ∈ GL := gl_of 535 (by decide +kernel) (by decide +kernel)
theorem mw_506 : Jvm.Cond.methodLink "BusTelegramsLaw" (40 : Nat) ({ cls := "BusTelegrams", name := "station", desc := "(II)I" } : Jvm.MethodName) ∈ GL := gl_of 536 (by decide +kernel) (by decide +kernel)
theorem mw_507 : Jvm.Cond.instanceMethod ({ cls := "BusTelegrams", name := "station", desc := "(II)I" } : Jvm.MethodName) ∈ GL := gl_of 537 (by decide +kernel) (by decide +kernel)
theorem mw_508 : Jvm.Cond.selects "BusTelegrams" ({ cls := "BusTelegrams", name := "station", desc := "(II)I" } : Jvm.MethodName) ({ cls := "BusTelegrams", name := "station", desc := "(II)I" } : Jvm.MethodName) ∈ GL := gl_of 538 (by decide +kernel) (by decide +kernel)
theorem mw_509 : Jvm.Cond.code ({ cls := "BusTelegrams", name := "station", desc := "(II)I" } : Jvm.MethodName) prog_1_method_9_code (3 : Nat) (Option.some Jvm.ClassFile.FieldType.int) ∈ GL := gl_of 539 (by decide +kernel) (by decide +kernel)
theorem mw_511 : Jvm.Cond.methodLink "BusTelegrams" (123 : Nat) ({ cls := "BusTelegrams$Station", name := "factOf", desc := "(I)I" } : Jvm.MethodName) ∈ GL := gl_of 541 (by decide +kernel) (by decide +kernel)
theorem mw_512 : Jvm.Cond.instanceMethod ({ cls := "BusTelegrams$Station", name := "factOf", desc := "(I)I" } : Jvm.MethodName) ∈ GL := gl_of 542 (by decide +kernel) (by decide +kernel)
theorem mw_513 : Jvm.Cond.selects "BusTelegrams$Station" ({ cls := "BusTelegrams$Station", name := "factOf", desc := "(I)I" } : Jvm.MethodName) ({ cls := "BusTelegrams$Station", name := "factOf", desc := "(I)I" } : Jvm.MethodName) ∈ GL := gl_of 543 (by decide +kernel) (by decide +kernel)
theorem mw_514 : Jvm.Cond.code ({ cls := "BusTelegrams$Station", name := "factOf", desc := "(I)I" } : Jvm.MethodName) prog_3_method_11_code (2 : Nat) (Option.some Jvm.ClassFile.FieldType.int) ∈ GL := gl_of 544 (by decide +kernel) (by decide +kernel)
theorem mw_515 : Jvm.Cond.methodLink "BusTelegramsLaw" (92 : Nat) ({ cls := "BusTelegramsLaw", name := "heard", desc := "(LBusTelegrams;I[J)I" } : Jvm.MethodName) ∈ GL := gl_of 545 (by decide +kernel) (by decide +kernel)
theorem mw_516 : Jvm.Cond.static ({ cls := "BusTelegramsLaw", name := "heard", desc := "(LBusTelegrams;I[J)I" } : Jvm.MethodName) ∈ GL := gl_of 546 (by decide +kernel) (by decide +kernel)
theorem mw_517 : Jvm.Cond.codeWith ({ cls := "BusTelegramsLaw", name := "heard", desc := "(LBusTelegrams;I[J)I" } : Jvm.MethodName) method_11_code (4 : Nat) (Option.some Jvm.ClassFile.FieldType.int) [((0 : Nat), (9 : Nat), (12 : Nat), (13 : Nat))] ∈ GL := gl_of 547 (by decide +kernel) (by decide +kernel)
theorem mw_518 : Jvm.Cond.methodLink "BusTelegramsLaw" (43 : Nat) ({ cls := "BusTelegrams", name := "heard", desc := "(I)I" } : Jvm.MethodName) ∈ GL := gl_of 548 (by decide +kernel) (by decide +kernel)
theorem mw_519 : Jvm.Cond.instanceMethod ({ cls := "BusTelegrams", name := "heard", desc := "(I)I" } : Jvm.MethodName) ∈ GL := gl_of 549 (by decide +kernel) (by decide +kernel)
theorem mw_520 : Jvm.Cond.selects "BusTelegrams" ({ cls := "BusTelegrams", name := "heard", desc := "(I)I" } : Jvm.MethodName) ({ cls := "BusTelegrams", name := "heard", desc := "(I)I" } : Jvm.MethodName) ∈ GL := gl_of 550 (by decide +kernel) (by decide +kernel)
theorem mw_521 : Jvm.Cond.code ({ cls := "BusTelegrams", name := "heard", desc := "(I)I" } : Jvm.MethodName) prog_1_method_10_code (2 : Nat) (Option.some Jvm.ClassFile.FieldType.int) ∈ GL := gl_of 551 (by decide +kernel) (by decide +kernel)
theorem mw_523 : Jvm.Cond.methodLink "BusTelegrams" (128 : Nat) ({ cls := "BusTelegrams$Ear", name := "countOf", desc := "(I)I" } : Jvm.MethodName) ∈ GL := gl_of 553 (by decide +kernel) (by decide +kernel)
theorem mw_524 : Jvm.Cond.instanceMethod ({ cls := "BusTelegrams$Ear", name := "countOf", desc := "(I)I" } : Jvm.MethodName) ∈ GL := gl_of 554 (by decide +kernel) (by decide +kernel)
theorem mw_525 : Jvm.Cond.selects "BusTelegrams$Ear" ({ cls := "BusTelegrams$Ear", name := "countOf", desc := "(I)I" } : Jvm.MethodName) ({ cls := "BusTelegrams$Ear", name := "countOf", desc := "(I)I" } : Jvm.MethodName) ∈ GL := gl_of 555 (by decide +kernel) (by decide +kernel)
theorem mw_526 : Jvm.Cond.code ({ cls := "BusTelegrams$Ear", name := "countOf", desc := "(I)I" } : Jvm.MethodName) prog_2_method_15_code (2 : Nat) (Option.some Jvm.ClassFile.FieldType.int) ∈ GL := gl_of 556 (by decide +kernel) (by decide +kernel)
theorem mw_527 : Jvm.Cond.methodLink "BusTelegramsLaw" (95 : Nat) ({ cls := "BusTelegramsLaw", name := "byteAt", desc := "(LBusTelegrams;I[J)I" } : Jvm.MethodName) ∈ GL := gl_of 557 (by decide +kernel) (by decide +kernel)
theorem mw_528 : Jvm.Cond.static ({ cls := "BusTelegramsLaw", name := "byteAt", desc := "(LBusTelegrams;I[J)I" } : Jvm.MethodName) ∈ GL := gl_of 558 (by decide +kernel) (by decide +kernel)
theorem mw_529 : Jvm.Cond.codeWith ({ cls := "BusTelegramsLaw", name := "byteAt", desc := "(LBusTelegrams;I[J)I" } : Jvm.MethodName) method_12_code (4 : Nat) (Option.some Jvm.ClassFile.FieldType.int) [((0 : Nat), (9 : Nat), (12 : Nat), (13 : Nat))] ∈ GL := gl_of 559 (by decide +kernel) (by decide +kernel)
theorem mw_530 : Jvm.Cond.methodLink "BusTelegramsLaw" (46 : Nat) ({ cls := "BusTelegrams", name := "byteAt", desc := "(I)I" } : Jvm.MethodName) ∈ GL := gl_of 560 (by decide +kernel) (by decide +kernel)
theorem mw_531 : Jvm.Cond.instanceMethod ({ cls := "BusTelegrams", name := "byteAt", desc := "(I)I" } : Jvm.MethodName) ∈ GL := gl_of 561 (by decide +kernel) (by decide +kernel)
theorem mw_532 : Jvm.Cond.selects "BusTelegrams" ({ cls := "BusTelegrams", name := "byteAt", desc := "(I)I" } : Jvm.MethodName) ({ cls := "BusTelegrams", name := "byteAt", desc := "(I)I" } : Jvm.MethodName) ∈ GL := gl_of 562 (by decide +kernel) (by decide +kernel)
theorem mw_533 : Jvm.Cond.code ({ cls := "BusTelegrams", name := "byteAt", desc := "(I)I" } : Jvm.MethodName) prog_1_method_11_code (2 : Nat) (Option.some Jvm.ClassFile.FieldType.int) ∈ GL := gl_of 563 (by decide +kernel) (by decide +kernel)
theorem mw_535 : Jvm.Cond.methodLink "BusTelegrams" (136 : Nat) ({ cls := "BusTelegrams$Ear", name := "latestByte", desc := "(I)I" } : Jvm.MethodName) ∈ GL := gl_of 565 (by decide +kernel) (by decide +kernel)
theorem mw_536 : Jvm.Cond.instanceMethod ({ cls := "BusTelegrams$Ear", name := "latestByte", desc := "(I)I" } : Jvm.MethodName) ∈ GL := gl_of 566 (by decide +kernel) (by decide +kernel)
theorem mw_537 : Jvm.Cond.selects "BusTelegrams$Ear" ({ cls := "BusTelegrams$Ear", name := "latestByte", desc := "(I)I" } : Jvm.MethodName) ({ cls := "BusTelegrams$Ear", name := "latestByte", desc := "(I)I" } : Jvm.MethodName) ∈ GL := gl_of 567 (by decide +kernel) (by decide +kernel)
theorem mw_538 : Jvm.Cond.code ({ cls := "BusTelegrams$Ear", name := "latestByte", desc := "(I)I" } : Jvm.MethodName) prog_2_method_14_code (2 : Nat) (Option.some Jvm.ClassFile.FieldType.int) ∈ GL := gl_of 568 (by decide +kernel) (by decide +kernel)
theorem mw_539 : Jvm.Cond.methodLink "BusTelegramsLaw" (109 : Nat) ({ cls := "BusTelegramsLaw", name := "unpack", desc := "(LBusTelegrams;I[D)I" } : Jvm.MethodName) ∈ GL := gl_of 569 (by decide +kernel) (by decide +kernel)
theorem mw_540 : Jvm.Cond.static ({ cls := "BusTelegramsLaw", name := "unpack", desc := "(LBusTelegrams;I[D)I" } : Jvm.MethodName) ∈ GL := gl_of 570 (by decide +kernel) (by decide +kernel)
theorem mw_541 : Jvm.Cond.codeWith ({ cls := "BusTelegramsLaw", name := "unpack", desc := "(LBusTelegrams;I[D)I" } : Jvm.MethodName) method_13_code (4 : Nat) (Option.some Jvm.ClassFile.FieldType.int) [((0 : Nat), (8 : Nat), (11 : Nat), (13 : Nat))] ∈ GL := gl_of 571 (by decide +kernel) (by decide +kernel)
theorem mw_542 : Jvm.Cond.methodLink "BusTelegramsLaw" (49 : Nat) ({ cls := "BusTelegrams", name := "unpack", desc := "(I)D" } : Jvm.MethodName) ∈ GL := gl_of 572 (by decide +kernel) (by decide +kernel)
theorem mw_543 : Jvm.Cond.instanceMethod ({ cls := "BusTelegrams", name := "unpack", desc := "(I)D" } : Jvm.MethodName) ∈ GL := gl_of 573 (by decide +kernel) (by decide +kernel)
theorem mw_544 : Jvm.Cond.selects "BusTelegrams" ({ cls := "BusTelegrams", name := "unpack", desc := "(I)D" } : Jvm.MethodName) ({ cls := "BusTelegrams", name := "unpack", desc := "(I)D" } : Jvm.MethodName) ∈ GL := gl_of 574 (by decide +kernel) (by decide +kernel)
theorem mw_545 : Jvm.Cond.code ({ cls := "BusTelegrams", name := "unpack", desc := "(I)D" } : Jvm.MethodName) prog_1_method_14_code (4 : Nat) (Option.some Jvm.ClassFile.FieldType.double) ∈ GL := gl_of 575 (by decide +kernel) (by decide +kernel)
theorem mw_547 : Jvm.Cond.classLink "BusTelegramsLaw" (54 : Nat) "BusTelegramsModel" ∈ GL := gl_of 577 (by decide +kernel) (by decide +kernel)
theorem mw_548 : Jvm.Cond.instantiable "BusTelegramsModel" (35 : Nat) ∈ GL := gl_of 578 (by decide +kernel) (by decide +kernel)
theorem mw_549 : Jvm.Cond.methodLink "BusTelegramsLaw" (56 : Nat) ({ cls := "BusTelegramsModel", name := "<init>", desc := "()V" } : Jvm.MethodName) ∈ GL := gl_of 579 (by decide +kernel) (by decide +kernel)
theorem mw_550 : Jvm.Cond.instanceMethod ({ cls := "BusTelegramsModel", name := "<init>", desc := "()V" } : Jvm.MethodName) ∈ GL := gl_of 580 (by decide +kernel) (by decide +kernel)
theorem mw_551 : Jvm.Cond.code ({ cls := "BusTelegramsModel", name := "<init>", desc := "()V" } : Jvm.MethodName) prog_6_method_1_code (1 : Nat) (Option.none : Option Jvm.ClassFile.FieldType) ∈ GL := gl_of 581 (by decide +kernel) (by decide +kernel)
theorem mw_552 : Jvm.Cond.methodLink "BusTelegramsModel" (1 : Nat) ({ cls := "java/lang/Object", name := "<init>", desc := "()V" } : Jvm.MethodName) ∈ GL := gl_of 582 (by decide +kernel) (by decide +kernel)
theorem mw_553 : Jvm.Cond.constant "BusTelegramsModel" (7 : Nat) (1000000 : Int32) ∈ GL := gl_of 583 (by decide +kernel) (by decide +kernel)
theorem mw_554 : Jvm.Cond.fieldLink "BusTelegramsModel" (70 : Nat) "BusTelegramsModel" "code" "I" ∈ GL := gl_of 584 (by decide +kernel) (by decide +kernel)
theorem mw_555 : Jvm.Cond.fieldLink "BusTelegramsModel" (85 : Nat) "BusTelegramsModel" "now" "I" ∈ GL := gl_of 585 (by decide +kernel) (by decide +kernel)
theorem mw_556 : Jvm.Cond.fieldLink "BusTelegramsModel" (8 : Nat) "BusTelegramsModel" "idle" "I" ∈ GL := gl_of 586 (by decide +kernel) (by decide +kernel)
theorem mw_557 : Jvm.Cond.fieldLink "BusTelegramsModel" (14 : Nat) "BusTelegramsModel" "addresses" "[I" ∈ GL := gl_of 587 (by decide +kernel) (by decide +kernel)
theorem mw_558 : Jvm.Cond.fieldLink "BusTelegramsModel" (18 : Nat) "BusTelegramsModel" "listens" "[Z" ∈ GL := gl_of 588 (by decide +kernel) (by decide +kernel)
theorem mw_559 : Jvm.Cond.fieldLink "BusTelegramsModel" (22 : Nat) "BusTelegramsModel" "isBusy" "[Z" ∈ GL := gl_of 589 (by decide +kernel) (by decide +kernel)
theorem mw_560 : Jvm.Cond.fieldLink "BusTelegramsModel" (25 : Nat) "BusTelegramsModel" "queued" "[I" ∈ GL := gl_of 590 (by decide +kernel) (by decide +kernel)
theorem mw_561 : Jvm.Cond.fieldLink "BusTelegramsModel" (28 : Nat) "BusTelegramsModel" "queue" "[I" ∈ GL := gl_of 591 (by decide +kernel) (by decide +kernel)
theorem mw_562 : Jvm.Cond.fieldLink "BusTelegramsModel" (31 : Nat) "BusTelegramsModel" "says" "[I" ∈ GL := gl_of 592 (by decide +kernel) (by decide +kernel)
theorem mw_563 : Jvm.Cond.fieldLink "BusTelegramsModel" (34 : Nat) "BusTelegramsModel" "answers" "[I" ∈ GL := gl_of 593 (by decide +kernel) (by decide +kernel)
theorem mw_564 : Jvm.Cond.fieldLink "BusTelegramsModel" (37 : Nat) "BusTelegramsModel" "answerBytes" "[I" ∈ GL := gl_of 594 (by decide +kernel) (by decide +kernel)
theorem mw_565 : Jvm.Cond.fieldLink "BusTelegramsModel" (40 : Nat) "BusTelegramsModel" "waits" "[I" ∈ GL := gl_of 595 (by decide +kernel) (by decide +kernel)
theorem mw_566 : Jvm.Cond.fieldLink "BusTelegramsModel" (43 : Nat) "BusTelegramsModel" "saids" "[I" ∈ GL := gl_of 596 (by decide +kernel) (by decide +kernel)
theorem mw_567 : Jvm.Cond.fieldLink "BusTelegramsModel" (46 : Nat) "BusTelegramsModel" "losts" "[I" ∈ GL := gl_of 597 (by decide +kernel) (by decide +kernel)
theorem mw_568 : Jvm.Cond.fieldLink "BusTelegramsModel" (49 : Nat) "BusTelegramsModel" "stops" "[I" ∈ GL := gl_of 598 (by decide +kernel) (by decide +kernel)
theorem mw_569 : Jvm.Cond.fieldLink "BusTelegramsModel" (52 : Nat) "BusTelegramsModel" "disturbed" "[Z" ∈ GL := gl_of 599 (by decide +kernel) (by decide +kernel)
theorem mw_570 : Jvm.Cond.fieldLink "BusTelegramsModel" (82 : Nat) "BusTelegramsModel" "disturbances" "I" ∈ GL := gl_of 600 (by decide +kernel) (by decide +kernel)
theorem mw_571 : Jvm.Cond.fieldLink "BusTelegramsModel" (55 : Nat) "BusTelegramsModel" "latest" "[I" ∈ GL := gl_of 601 (by decide +kernel) (by decide +kernel)
theorem mw_572 : Jvm.Cond.fieldLink "BusTelegramsModel" (137 : Nat) "BusTelegramsModel" "phase" "I" ∈ GL := gl_of 602 (by decide +kernel) (by decide +kernel)
theorem mw_573 : Jvm.Cond.fieldLink "BusTelegramsModel" (140 : Nat) "BusTelegramsModel" "got" "I" ∈ GL := gl_of 603 (by decide +kernel) (by decide +kernel)
theorem mw_574 : Jvm.Cond.fieldLink "BusTelegramsModel" (143 : Nat) "BusTelegramsModel" "value" "I" ∈ GL := gl_of 604 (by decide +kernel) (by decide +kernel)
theorem mw_575 : Jvm.Cond.fieldLink "BusTelegramsModel" (146 : Nat) "BusTelegramsModel" "ones" "I" ∈ GL := gl_of 605 (by decide +kernel) (by decide +kernel)
theorem mw_576 : Jvm.Cond.fieldLink "BusTelegramsModel" (125 : Nat) "BusTelegramsModel" "isBad" "Z" ∈ GL := gl_of 606 (by decide +kernel) (by decide +kernel)
theorem mw_577 : Jvm.Cond.fieldLink "BusTelegramsModel" (134 : Nat) "BusTelegramsModel" "began" "I" ∈ GL := gl_of 607 (by decide +kernel) (by decide +kernel)
theorem mw_578 : Jvm.Cond.fieldLink "BusTelegramsModel" (128 : Nat) "BusTelegramsModel" "lastBit" "I" ∈ GL := gl_of 608 (by decide +kernel) (by decide +kernel)
theorem mw_579 : Jvm.Cond.fieldLink "BusTelegramsModel" (122 : Nat) "BusTelegramsModel" "characters" "I" ∈ GL := gl_of 609 (by decide +kernel) (by decide +kernel)
theorem mw_580 : Jvm.Cond.fieldLink "BusTelegramsModel" (58 : Nat) "BusTelegramsModel" "bytes" "[I" ∈ GL := gl_of 610 (by decide +kernel) (by decide +kernel)
theorem mw_581 : Jvm.Cond.fieldLink "BusTelegramsModel" (61 : Nat) "BusTelegramsModel" "counts" "[I" ∈ GL := gl_of 611 (by decide +kernel) (by decide +kernel)
theorem mw_582 : Jvm.Cond.fieldLink "BusTelegramsModel" (102 : Nat) "BusTelegramsModel" "isTelegram" "Z" ∈ GL := gl_of 612 (by decide +kernel) (by decide +kernel)
theorem mw_583 : Jvm.Cond.fieldLink "BusTelegramsModel" (109 : Nat) "BusTelegramsModel" "ended" "I" ∈ GL := gl_of 613 (by decide +kernel) (by decide +kernel)
theorem mw_584 : Jvm.Cond.fieldLink "BusTelegramsModel" (131 : Nat) "BusTelegramsModel" "many" "I" ∈ GL := gl_of 614 (by decide +kernel) (by decide +kernel)
theorem mw_585 : Jvm.Cond.fieldLink "BusTelegramsModel" (116 : Nat) "BusTelegramsModel" "isRight" "Z" ∈ GL := gl_of 615 (by decide +kernel) (by decide +kernel)
theorem mw_586 : Jvm.Cond.fieldLink "BusTelegramsModel" (106 : Nat) "BusTelegramsModel" "isOver" "Z" ∈ GL := gl_of 616 (by decide +kernel) (by decide +kernel)
theorem mw_587 : Jvm.Cond.fieldLink "BusTelegramsModel" (64 : Nat) "BusTelegramsModel" "reply" "I" ∈ GL := gl_of 617 (by decide +kernel) (by decide +kernel)
theorem mw_588 : Jvm.Cond.fieldLink "BusTelegramsModel" (67 : Nat) "BusTelegramsModel" "telegram" "[I" ∈ GL := gl_of 618 (by decide +kernel) (by decide +kernel)
theorem mw_660 : Jvm.Cond.methodLink "BusTelegramsLaw" (63 : Nat) ({ cls := "BusTelegramsModel", name := "thrown", desc := "()I" } : Jvm.MethodName) ∈ GL := gl_of 690 (by decide +kernel) (by decide +kernel)
theorem mw_661 : Jvm.Cond.instanceMethod ({ cls := "BusTelegramsModel", name := "thrown", desc := "()I" } : Jvm.MethodName) ∈ GL := gl_of 691 (by decide +kernel) (by decide +kernel)
theorem mw_662 : Jvm.Cond.selects "BusTelegramsModel" ({ cls := "BusTelegramsModel", name := "thrown", desc := "()I" } : Jvm.MethodName) ({ cls := "BusTelegramsModel", name := "thrown", desc := "()I" } : Jvm.MethodName) ∈ GL := gl_of 692 (by decide +kernel) (by decide +kernel)
theorem mw_663 : Jvm.Cond.code ({ cls := "BusTelegramsModel", name := "thrown", desc := "()I" } : Jvm.MethodName) prog_6_method_2_code (1 : Nat) (Option.some Jvm.ClassFile.FieldType.int) ∈ GL := gl_of 693 (by decide +kernel) (by decide +kernel)
theorem mw_664 : Jvm.Cond.methodLink "BusTelegramsLaw" (62 : Nat) ({ cls := "BusTelegramsModel", name := "address", desc := "(II)I" } : Jvm.MethodName) ∈ GL := gl_of 694 (by decide +kernel) (by decide +kernel)
theorem mw_665 : Jvm.Cond.instanceMethod ({ cls := "BusTelegramsModel", name := "address", desc := "(II)I" } : Jvm.MethodName) ∈ GL := gl_of 695 (by decide +kernel) (by decide +kernel)
theorem mw_666 : Jvm.Cond.selects "BusTelegramsModel" ({ cls := "BusTelegramsModel", name := "address", desc := "(II)I" } : Jvm.MethodName) ({ cls := "BusTelegramsModel", name := "address", desc := "(II)I" } : Jvm.MethodName) ∈ GL := gl_of 696 (by decide +kernel) (by decide +kernel)
theorem mw_667 : Jvm.Cond.code ({ cls := "BusTelegramsModel", name := "address", desc := "(II)I" } : Jvm.MethodName) prog_6_method_4_code (4 : Nat) (Option.some Jvm.ClassFile.FieldType.int) ∈ GL := gl_of 697 (by decide +kernel) (by decide +kernel)
theorem mw_668 : Jvm.Cond.methodLink "BusTelegramsModel" (73 : Nat) ({ cls := "BusTelegramsModel", name := "isIn", desc := "(III)Z" } : Jvm.MethodName) ∈ GL := gl_of 698 (by decide +kernel) (by decide +kernel)
theorem mw_669 : Jvm.Cond.static ({ cls := "BusTelegramsModel", name := "isIn", desc := "(III)Z" } : Jvm.MethodName) ∈ GL := gl_of 699 (by decide +kernel) (by decide +kernel)
theorem mw_670 : Jvm.Cond.code ({ cls := "BusTelegramsModel", name := "isIn", desc := "(III)Z" } : Jvm.MethodName) prog_6_method_3_code (3 : Nat) (Option.some Jvm.ClassFile.FieldType.boolean) ∈ GL := gl_of 700 (by decide +kernel) (by decide +kernel)
theorem mw_671 : Jvm.Cond.constant "BusTelegramsModel" (77 : Nat) (65535 : Int32) ∈ GL := gl_of 701 (by decide +kernel) (by decide +kernel)
theorem mw_672 : Jvm.Cond.methodLink "BusTelegramsLaw" (70 : Nat) ({ cls := "BusTelegramsModel", name := "listen", desc := "(IIZ)Z" } : Jvm.MethodName) ∈ GL := gl_of 702 (by decide +kernel) (by decide +kernel)
theorem mw_673 : Jvm.Cond.instanceMethod ({ cls := "BusTelegramsModel", name := "listen", desc := "(IIZ)Z" } : Jvm.MethodName) ∈ GL := gl_of 703 (by decide +kernel) (by decide +kernel)
theorem mw_674 : Jvm.Cond.selects "BusTelegramsModel" ({ cls := "BusTelegramsModel", name := "listen", desc := "(IIZ)Z" } : Jvm.MethodName) ({ cls := "BusTelegramsModel", name := "listen", desc := "(IIZ)Z" } : Jvm.MethodName) ∈ GL := gl_of 704 (by decide +kernel) (by decide +kernel)
theorem mw_675 : Jvm.Cond.code ({ cls := "BusTelegramsModel", name := "listen", desc := "(IIZ)Z" } : Jvm.MethodName) prog_6_method_5_code (5 : Nat) (Option.some Jvm.ClassFile.FieldType.boolean) ∈ GL := gl_of 705 (by decide +kernel) (by decide +kernel)
theorem mw_676 : Jvm.Cond.methodLink "BusTelegramsLaw" (74 : Nat) ({ cls := "BusTelegramsModel", name := "busy", desc := "(IZ)Z" } : Jvm.MethodName) ∈ GL := gl_of 706 (by decide +kernel) (by decide +kernel)
theorem mw_677 : Jvm.Cond.instanceMethod ({ cls := "BusTelegramsModel", name := "busy", desc := "(IZ)Z" } : Jvm.MethodName) ∈ GL := gl_of 707 (by decide +kernel) (by decide +kernel)
theorem mw_678 : Jvm.Cond.selects "BusTelegramsModel" ({ cls := "BusTelegramsModel", name := "busy", desc := "(IZ)Z" } : Jvm.MethodName) ({ cls := "BusTelegramsModel", name := "busy", desc := "(IZ)Z" } : Jvm.MethodName) ∈ GL := gl_of 708 (by decide +kernel) (by decide +kernel)
theorem mw_679 : Jvm.Cond.code ({ cls := "BusTelegramsModel", name := "busy", desc := "(IZ)Z" } : Jvm.MethodName) prog_6_method_6_code (4 : Nat) (Option.some Jvm.ClassFile.FieldType.boolean) ∈ GL := gl_of 709 (by decide +kernel) (by decide +kernel)
theorem mw_680 : Jvm.Cond.methodLink "BusTelegramsLaw" (78 : Nat) ({ cls := "BusTelegramsModel", name := "send", desc := "(IIIZII)I" } : Jvm.MethodName) ∈ GL := gl_of 710 (by decide +kernel) (by decide +kernel)
theorem mw_681 : Jvm.Cond.instanceMethod ({ cls := "BusTelegramsModel", name := "send", desc := "(IIIZII)I" } : Jvm.MethodName) ∈ GL := gl_of 711 (by decide +kernel) (by decide +kernel)
theorem mw_682 : Jvm.Cond.selects "BusTelegramsModel" ({ cls := "BusTelegramsModel", name := "send", desc := "(IIIZII)I" } : Jvm.MethodName) ({ cls := "BusTelegramsModel", name := "send", desc := "(IIIZII)I" } : Jvm.MethodName) ∈ GL := gl_of 712 (by decide +kernel) (by decide +kernel)
theorem mw_683 : Jvm.Cond.code ({ cls := "BusTelegramsModel", name := "send", desc := "(IIIZII)I" } : Jvm.MethodName) prog_6_method_8_code (8 : Nat) (Option.some Jvm.ClassFile.FieldType.int) ∈ GL := gl_of 713 (by decide +kernel) (by decide +kernel)
theorem mw_684 : Jvm.Cond.methodLink "BusTelegramsModel" (78 : Nat) ({ cls := "BusTelegramsModel", name := "maySend", desc := "(IIIZI)Z" } : Jvm.MethodName) ∈ GL := gl_of 714 (by decide +kernel) (by decide +kernel)
theorem mw_685 : Jvm.Cond.static ({ cls := "BusTelegramsModel", name := "maySend", desc := "(IIIZI)Z" } : Jvm.MethodName) ∈ GL := gl_of 715 (by decide +kernel) (by decide +kernel)
theorem mw_686 : Jvm.Cond.code ({ cls := "BusTelegramsModel", name := "maySend", desc := "(IIIZI)Z" } : Jvm.MethodName) prog_6_method_7_code (5 : Nat) (Option.some Jvm.ClassFile.FieldType.boolean) ∈ GL := gl_of 716 (by decide +kernel) (by decide +kernel)
theorem mw_687 : Jvm.Cond.methodLink "BusTelegramsLaw" (82 : Nat) ({ cls := "BusTelegramsModel", name := "disturb", desc := "(I)Z" } : Jvm.MethodName) ∈ GL := gl_of 717 (by decide +kernel) (by decide +kernel)
theorem mw_688 : Jvm.Cond.instanceMethod ({ cls := "BusTelegramsModel", name := "disturb", desc := "(I)Z" } : Jvm.MethodName) ∈ GL := gl_of 718 (by decide +kernel) (by decide +kernel)
theorem mw_689 : Jvm.Cond.selects "BusTelegramsModel" ({ cls := "BusTelegramsModel", name := "disturb", desc := "(I)Z" } : Jvm.MethodName) ({ cls := "BusTelegramsModel", name := "disturb", desc := "(I)Z" } : Jvm.MethodName) ∈ GL := gl_of 719 (by decide +kernel) (by decide +kernel)
theorem mw_690 : Jvm.Cond.code ({ cls := "BusTelegramsModel", name := "disturb", desc := "(I)Z" } : Jvm.MethodName) prog_6_method_9_code (3 : Nat) (Option.some Jvm.ClassFile.FieldType.boolean) ∈ GL := gl_of 720 (by decide +kernel) (by decide +kernel)
theorem mw_691 : Jvm.Cond.methodLink "BusTelegramsLaw" (85 : Nat) ({ cls := "BusTelegramsModel", name := "run", desc := "(I)I" } : Jvm.MethodName) ∈ GL := gl_of 721 (by decide +kernel) (by decide +kernel)
theorem mw_692 : Jvm.Cond.instanceMethod ({ cls := "BusTelegramsModel", name := "run", desc := "(I)I" } : Jvm.MethodName) ∈ GL := gl_of 722 (by decide +kernel) (by decide +kernel)
theorem mw_693 : Jvm.Cond.selects "BusTelegramsModel" ({ cls := "BusTelegramsModel", name := "run", desc := "(I)I" } : Jvm.MethodName) ({ cls := "BusTelegramsModel", name := "run", desc := "(I)I" } : Jvm.MethodName) ∈ GL := gl_of 723 (by decide +kernel) (by decide +kernel)
theorem mw_694 : Jvm.Cond.code ({ cls := "BusTelegramsModel", name := "run", desc := "(I)I" } : Jvm.MethodName) prog_6_method_26_code (4 : Nat) (Option.some Jvm.ClassFile.FieldType.int) ∈ GL := gl_of 724 (by decide +kernel) (by decide +kernel)
theorem mw_695 : Jvm.Cond.constant "BusTelegramsModel" (165 : Nat) (100000 : Int32) ∈ GL := gl_of 725 (by decide +kernel) (by decide +kernel)
theorem mw_696 : Jvm.Cond.methodLink "BusTelegramsModel" (166 : Nat) ({ cls := "BusTelegramsModel", name := "begin", desc := "()V" } : Jvm.MethodName) ∈ GL := gl_of 726 (by decide +kernel) (by decide +kernel)
theorem mw_698 : Jvm.Cond.instanceMethod ({ cls := "BusTelegramsModel", name := "begin", desc := "()V" } : Jvm.MethodName) ∈ GL := gl_of 728 (by decide +kernel) (by decide +kernel)
theorem mw_699 : Jvm.Cond.code ({ cls := "BusTelegramsModel", name := "begin", desc := "()V" } : Jvm.MethodName) prog_6_method_16_code (4 : Nat) (Option.none : Option Jvm.ClassFile.FieldType) ∈ GL := gl_of 729 (by decide +kernel) (by decide +kernel)
theorem mw_700 : Jvm.Cond.methodLink "BusTelegramsModel" (112 : Nat) ({ cls := "BusTelegramsModel", name := "isMeant", desc := "(I)Z" } : Jvm.MethodName) ∈ GL := gl_of 730 (by decide +kernel) (by decide +kernel)
theorem mw_702 : Jvm.Cond.instanceMethod ({ cls := "BusTelegramsModel", name := "isMeant", desc := "(I)Z" } : Jvm.MethodName) ∈ GL := gl_of 732 (by decide +kernel) (by decide +kernel)
theorem mw_703 : Jvm.Cond.code ({ cls := "BusTelegramsModel", name := "isMeant", desc := "(I)Z" } : Jvm.MethodName) prog_6_method_15_code (3 : Nat) (Option.some Jvm.ClassFile.FieldType.boolean) ∈ GL := gl_of 733 (by decide +kernel) (by decide +kernel)
theorem mw_704 : Jvm.Cond.methodLink "BusTelegramsModel" (169 : Nat) ({ cls := "BusTelegramsModel", name := "line", desc := "()I" } : Jvm.MethodName) ∈ GL := gl_of 734 (by decide +kernel) (by decide +kernel)
theorem mw_706 : Jvm.Cond.instanceMethod ({ cls := "BusTelegramsModel", name := "line", desc := "()I" } : Jvm.MethodName) ∈ GL := gl_of 736 (by decide +kernel) (by decide +kernel)
theorem mw_707 : Jvm.Cond.code ({ cls := "BusTelegramsModel", name := "line", desc := "()I" } : Jvm.MethodName) prog_6_method_17_code (3 : Nat) (Option.some Jvm.ClassFile.FieldType.int) ∈ GL := gl_of 737 (by decide +kernel) (by decide +kernel)
theorem mw_708 : Jvm.Cond.methodLink "BusTelegramsModel" (119 : Nat) ({ cls := "BusTelegramsModel", name := "said", desc := "(I)I" } : Jvm.MethodName) ∈ GL := gl_of 738 (by decide +kernel) (by decide +kernel)
theorem mw_710 : Jvm.Cond.instanceMethod ({ cls := "BusTelegramsModel", name := "said", desc := "(I)I" } : Jvm.MethodName) ∈ GL := gl_of 740 (by decide +kernel) (by decide +kernel)
theorem mw_711 : Jvm.Cond.code ({ cls := "BusTelegramsModel", name := "said", desc := "(I)I" } : Jvm.MethodName) prog_6_method_14_code (2 : Nat) (Option.some Jvm.ClassFile.FieldType.int) ∈ GL := gl_of 741 (by decide +kernel) (by decide +kernel)
theorem mw_712 : Jvm.Cond.methodLink "BusTelegramsModel" (96 : Nat) ({ cls := "BusTelegramsModel", name := "byteOf", desc := "(II)I" } : Jvm.MethodName) ∈ GL := gl_of 742 (by decide +kernel) (by decide +kernel)
theorem mw_714 : Jvm.Cond.instanceMethod ({ cls := "BusTelegramsModel", name := "byteOf", desc := "(II)I" } : Jvm.MethodName) ∈ GL := gl_of 744 (by decide +kernel) (by decide +kernel)
theorem mw_715 : Jvm.Cond.code ({ cls := "BusTelegramsModel", name := "byteOf", desc := "(II)I" } : Jvm.MethodName) prog_6_method_12_code (5 : Nat) (Option.some Jvm.ClassFile.FieldType.int) ∈ GL := gl_of 745 (by decide +kernel) (by decide +kernel)
theorem mw_716 : Jvm.Cond.methodLink "BusTelegramsModel" (88 : Nat) ({ cls := "BusTelegramsModel", name := "size", desc := "(I)I" } : Jvm.MethodName) ∈ GL := gl_of 746 (by decide +kernel) (by decide +kernel)
theorem mw_718 : Jvm.Cond.instanceMethod ({ cls := "BusTelegramsModel", name := "size", desc := "(I)I" } : Jvm.MethodName) ∈ GL := gl_of 748 (by decide +kernel) (by decide +kernel)
theorem mw_719 : Jvm.Cond.code ({ cls := "BusTelegramsModel", name := "size", desc := "(I)I" } : Jvm.MethodName) prog_6_method_10_code (2 : Nat) (Option.some Jvm.ClassFile.FieldType.int) ∈ GL := gl_of 749 (by decide +kernel) (by decide +kernel)
theorem mw_720 : Jvm.Cond.methodLink "BusTelegramsModel" (92 : Nat) ({ cls := "BusTelegramsModel", name := "plain", desc := "(II)I" } : Jvm.MethodName) ∈ GL := gl_of 750 (by decide +kernel) (by decide +kernel)
theorem mw_722 : Jvm.Cond.instanceMethod ({ cls := "BusTelegramsModel", name := "plain", desc := "(II)I" } : Jvm.MethodName) ∈ GL := gl_of 752 (by decide +kernel) (by decide +kernel)
theorem mw_723 : Jvm.Cond.code ({ cls := "BusTelegramsModel", name := "plain", desc := "(II)I" } : Jvm.MethodName) prog_6_method_11_code (4 : Nat) (Option.some Jvm.ClassFile.FieldType.int) ∈ GL := gl_of 753 (by decide +kernel) (by decide +kernel)
theorem mw_724 : Jvm.Cond.methodLink "BusTelegramsModel" (99 : Nat) ({ cls := "BusTelegramsModel", name := "bitOf", desc := "(II)I" } : Jvm.MethodName) ∈ GL := gl_of 754 (by decide +kernel) (by decide +kernel)
theorem mw_725 : Jvm.Cond.static ({ cls := "BusTelegramsModel", name := "bitOf", desc := "(II)I" } : Jvm.MethodName) ∈ GL := gl_of 755 (by decide +kernel) (by decide +kernel)
theorem mw_726 : Jvm.Cond.code ({ cls := "BusTelegramsModel", name := "bitOf", desc := "(II)I" } : Jvm.MethodName) prog_6_method_13_code (4 : Nat) (Option.some Jvm.ClassFile.FieldType.int) ∈ GL := gl_of 756 (by decide +kernel) (by decide +kernel)
theorem mw_727 : Jvm.Cond.methodLink "BusTelegramsModel" (173 : Nat) ({ cls := "BusTelegramsModel", name := "goOn", desc := "(I)V" } : Jvm.MethodName) ∈ GL := gl_of 757 (by decide +kernel) (by decide +kernel)
theorem mw_729 : Jvm.Cond.instanceMethod ({ cls := "BusTelegramsModel", name := "goOn", desc := "(I)V" } : Jvm.MethodName) ∈ GL := gl_of 759 (by decide +kernel) (by decide +kernel)
theorem mw_730 : Jvm.Cond.code ({ cls := "BusTelegramsModel", name := "goOn", desc := "(I)V" } : Jvm.MethodName) prog_6_method_18_code (3 : Nat) (Option.none : Option Jvm.ClassFile.FieldType) ∈ GL := gl_of 760 (by decide +kernel) (by decide +kernel)
theorem mw_731 : Jvm.Cond.methodLink "BusTelegramsModel" (176 : Nat) ({ cls := "BusTelegramsModel", name := "hear", desc := "(I)V" } : Jvm.MethodName) ∈ GL := gl_of 761 (by decide +kernel) (by decide +kernel)
theorem mw_733 : Jvm.Cond.instanceMethod ({ cls := "BusTelegramsModel", name := "hear", desc := "(I)V" } : Jvm.MethodName) ∈ GL := gl_of 763 (by decide +kernel) (by decide +kernel)
theorem mw_734 : Jvm.Cond.code ({ cls := "BusTelegramsModel", name := "hear", desc := "(I)V" } : Jvm.MethodName) prog_6_method_23_code (2 : Nat) (Option.none : Option Jvm.ClassFile.FieldType) ∈ GL := gl_of 764 (by decide +kernel) (by decide +kernel)
theorem mw_735 : Jvm.Cond.methodLink "BusTelegramsModel" (152 : Nat) ({ cls := "BusTelegramsModel", name := "first", desc := "()V" } : Jvm.MethodName) ∈ GL := gl_of 765 (by decide +kernel) (by decide +kernel)
theorem mw_737 : Jvm.Cond.instanceMethod ({ cls := "BusTelegramsModel", name := "first", desc := "()V" } : Jvm.MethodName) ∈ GL := gl_of 767 (by decide +kernel) (by decide +kernel)
theorem mw_738 : Jvm.Cond.code ({ cls := "BusTelegramsModel", name := "first", desc := "()V" } : Jvm.MethodName) prog_6_method_21_code (1 : Nat) (Option.none : Option Jvm.ClassFile.FieldType) ∈ GL := gl_of 768 (by decide +kernel) (by decide +kernel)
theorem mw_739 : Jvm.Cond.methodLink "BusTelegramsModel" (149 : Nat) ({ cls := "BusTelegramsModel", name := "open", desc := "()V" } : Jvm.MethodName) ∈ GL := gl_of 769 (by decide +kernel) (by decide +kernel)
theorem mw_741 : Jvm.Cond.instanceMethod ({ cls := "BusTelegramsModel", name := "open", desc := "()V" } : Jvm.MethodName) ∈ GL := gl_of 771 (by decide +kernel) (by decide +kernel)
theorem mw_742 : Jvm.Cond.code ({ cls := "BusTelegramsModel", name := "open", desc := "()V" } : Jvm.MethodName) prog_6_method_20_code (1 : Nat) (Option.none : Option Jvm.ClassFile.FieldType) ∈ GL := gl_of 772 (by decide +kernel) (by decide +kernel)
theorem mw_743 : Jvm.Cond.methodLink "BusTelegramsModel" (155 : Nat) ({ cls := "BusTelegramsModel", name := "collect", desc := "(I)V" } : Jvm.MethodName) ∈ GL := gl_of 773 (by decide +kernel) (by decide +kernel)
theorem mw_745 : Jvm.Cond.instanceMethod ({ cls := "BusTelegramsModel", name := "collect", desc := "(I)V" } : Jvm.MethodName) ∈ GL := gl_of 775 (by decide +kernel) (by decide +kernel)
theorem mw_746 : Jvm.Cond.code ({ cls := "BusTelegramsModel", name := "collect", desc := "(I)V" } : Jvm.MethodName) prog_6_method_22_code (2 : Nat) (Option.none : Option Jvm.ClassFile.FieldType) ∈ GL := gl_of 776 (by decide +kernel) (by decide +kernel)
theorem mw_747 : Jvm.Cond.methodLink "BusTelegramsModel" (159 : Nat) ({ cls := "BusTelegramsModel", name := "complete", desc := "()V" } : Jvm.MethodName) ∈ GL := gl_of 777 (by decide +kernel) (by decide +kernel)
theorem mw_749 : Jvm.Cond.instanceMethod ({ cls := "BusTelegramsModel", name := "complete", desc := "()V" } : Jvm.MethodName) ∈ GL := gl_of 779 (by decide +kernel) (by decide +kernel)
theorem mw_750 : Jvm.Cond.code ({ cls := "BusTelegramsModel", name := "complete", desc := "()V" } : Jvm.MethodName) prog_6_method_19_code (3 : Nat) (Option.none : Option Jvm.ClassFile.FieldType) ∈ GL := gl_of 780 (by decide +kernel) (by decide +kernel)
theorem mw_751 : Jvm.Cond.methodLink "BusTelegramsModel" (179 : Nat) ({ cls := "BusTelegramsModel", name := "look", desc := "()V" } : Jvm.MethodName) ∈ GL := gl_of 781 (by decide +kernel) (by decide +kernel)
theorem mw_753 : Jvm.Cond.instanceMethod ({ cls := "BusTelegramsModel", name := "look", desc := "()V" } : Jvm.MethodName) ∈ GL := gl_of 783 (by decide +kernel) (by decide +kernel)
theorem mw_754 : Jvm.Cond.code ({ cls := "BusTelegramsModel", name := "look", desc := "()V" } : Jvm.MethodName) prog_6_method_24_code (4 : Nat) (Option.none : Option Jvm.ClassFile.FieldType) ∈ GL := gl_of 784 (by decide +kernel) (by decide +kernel)
theorem mw_755 : Jvm.Cond.methodLink "BusTelegramsModel" (162 : Nat) ({ cls := "BusTelegramsModel", name := "drop", desc := "(I)V" } : Jvm.MethodName) ∈ GL := gl_of 785 (by decide +kernel) (by decide +kernel)
theorem mw_757 : Jvm.Cond.instanceMethod ({ cls := "BusTelegramsModel", name := "drop", desc := "(I)V" } : Jvm.MethodName) ∈ GL := gl_of 787 (by decide +kernel) (by decide +kernel)
theorem mw_758 : Jvm.Cond.code ({ cls := "BusTelegramsModel", name := "drop", desc := "(I)V" } : Jvm.MethodName) prog_6_method_25_code (3 : Nat) (Option.none : Option Jvm.ClassFile.FieldType) ∈ GL := gl_of 788 (by decide +kernel) (by decide +kernel)
theorem mw_759 : Jvm.Cond.methodLink "BusTelegramsLaw" (88 : Nat) ({ cls := "BusTelegramsModel", name := "bit", desc := "(I)I" } : Jvm.MethodName) ∈ GL := gl_of 789 (by decide +kernel) (by decide +kernel)
theorem mw_760 : Jvm.Cond.instanceMethod ({ cls := "BusTelegramsModel", name := "bit", desc := "(I)I" } : Jvm.MethodName) ∈ GL := gl_of 790 (by decide +kernel) (by decide +kernel)
theorem mw_761 : Jvm.Cond.selects "BusTelegramsModel" ({ cls := "BusTelegramsModel", name := "bit", desc := "(I)I" } : Jvm.MethodName) ({ cls := "BusTelegramsModel", name := "bit", desc := "(I)I" } : Jvm.MethodName) ∈ GL := gl_of 791 (by decide +kernel) (by decide +kernel)
theorem mw_762 : Jvm.Cond.code ({ cls := "BusTelegramsModel", name := "bit", desc := "(I)I" } : Jvm.MethodName) prog_6_method_27_code (2 : Nat) (Option.some Jvm.ClassFile.FieldType.int) ∈ GL := gl_of 792 (by decide +kernel) (by decide +kernel)
theorem mw_763 : Jvm.Cond.methodLink "BusTelegramsLaw" (91 : Nat) ({ cls := "BusTelegramsModel", name := "station", desc := "(II)I" } : Jvm.MethodName) ∈ GL := gl_of 793 (by decide +kernel) (by decide +kernel)
theorem mw_764 : Jvm.Cond.instanceMethod ({ cls := "BusTelegramsModel", name := "station", desc := "(II)I" } : Jvm.MethodName) ∈ GL := gl_of 794 (by decide +kernel) (by decide +kernel)
theorem mw_765 : Jvm.Cond.selects "BusTelegramsModel" ({ cls := "BusTelegramsModel", name := "station", desc := "(II)I" } : Jvm.MethodName) ({ cls := "BusTelegramsModel", name := "station", desc := "(II)I" } : Jvm.MethodName) ∈ GL := gl_of 795 (by decide +kernel) (by decide +kernel)
theorem mw_766 : Jvm.Cond.code ({ cls := "BusTelegramsModel", name := "station", desc := "(II)I" } : Jvm.MethodName) prog_6_method_28_code (3 : Nat) (Option.some Jvm.ClassFile.FieldType.int) ∈ GL := gl_of 796 (by decide +kernel) (by decide +kernel)
theorem mw_767 : Jvm.Cond.methodLink "BusTelegramsLaw" (94 : Nat) ({ cls := "BusTelegramsModel", name := "heard", desc := "(I)I" } : Jvm.MethodName) ∈ GL := gl_of 797 (by decide +kernel) (by decide +kernel)
theorem mw_768 : Jvm.Cond.instanceMethod ({ cls := "BusTelegramsModel", name := "heard", desc := "(I)I" } : Jvm.MethodName) ∈ GL := gl_of 798 (by decide +kernel) (by decide +kernel)
theorem mw_769 : Jvm.Cond.selects "BusTelegramsModel" ({ cls := "BusTelegramsModel", name := "heard", desc := "(I)I" } : Jvm.MethodName) ({ cls := "BusTelegramsModel", name := "heard", desc := "(I)I" } : Jvm.MethodName) ∈ GL := gl_of 799 (by decide +kernel) (by decide +kernel)
theorem mw_770 : Jvm.Cond.code ({ cls := "BusTelegramsModel", name := "heard", desc := "(I)I" } : Jvm.MethodName) prog_6_method_29_code (2 : Nat) (Option.some Jvm.ClassFile.FieldType.int) ∈ GL := gl_of 800 (by decide +kernel) (by decide +kernel)
theorem mw_771 : Jvm.Cond.methodLink "BusTelegramsLaw" (97 : Nat) ({ cls := "BusTelegramsModel", name := "byteAt", desc := "(I)I" } : Jvm.MethodName) ∈ GL := gl_of 801 (by decide +kernel) (by decide +kernel)
theorem mw_772 : Jvm.Cond.instanceMethod ({ cls := "BusTelegramsModel", name := "byteAt", desc := "(I)I" } : Jvm.MethodName) ∈ GL := gl_of 802 (by decide +kernel) (by decide +kernel)
theorem mw_773 : Jvm.Cond.selects "BusTelegramsModel" ({ cls := "BusTelegramsModel", name := "byteAt", desc := "(I)I" } : Jvm.MethodName) ({ cls := "BusTelegramsModel", name := "byteAt", desc := "(I)I" } : Jvm.MethodName) ∈ GL := gl_of 803 (by decide +kernel) (by decide +kernel)
theorem mw_774 : Jvm.Cond.code ({ cls := "BusTelegramsModel", name := "byteAt", desc := "(I)I" } : Jvm.MethodName) prog_6_method_30_code (2 : Nat) (Option.some Jvm.ClassFile.FieldType.int) ∈ GL := gl_of 804 (by decide +kernel) (by decide +kernel)
theorem mw_775 : Jvm.Cond.methodLink "BusTelegramsLaw" (101 : Nat) ({ cls := "BusTelegramsModel", name := "answer", desc := "()I" } : Jvm.MethodName) ∈ GL := gl_of 805 (by decide +kernel) (by decide +kernel)
theorem mw_776 : Jvm.Cond.instanceMethod ({ cls := "BusTelegramsModel", name := "answer", desc := "()I" } : Jvm.MethodName) ∈ GL := gl_of 806 (by decide +kernel) (by decide +kernel)
theorem mw_777 : Jvm.Cond.selects "BusTelegramsModel" ({ cls := "BusTelegramsModel", name := "answer", desc := "()I" } : Jvm.MethodName) ({ cls := "BusTelegramsModel", name := "answer", desc := "()I" } : Jvm.MethodName) ∈ GL := gl_of 807 (by decide +kernel) (by decide +kernel)
theorem mw_778 : Jvm.Cond.code ({ cls := "BusTelegramsModel", name := "answer", desc := "()I" } : Jvm.MethodName) prog_6_method_31_code (1 : Nat) (Option.some Jvm.ClassFile.FieldType.int) ∈ GL := gl_of 808 (by decide +kernel) (by decide +kernel)
theorem mw_779 : Jvm.Cond.methodLink "BusTelegramsLaw" (108 : Nat) ({ cls := "BusTelegramsModel", name := "pack", desc := "(D)I" } : Jvm.MethodName) ∈ GL := gl_of 809 (by decide +kernel) (by decide +kernel)
theorem mw_780 : Jvm.Cond.instanceMethod ({ cls := "BusTelegramsModel", name := "pack", desc := "(D)I" } : Jvm.MethodName) ∈ GL := gl_of 810 (by decide +kernel) (by decide +kernel)
theorem mw_781 : Jvm.Cond.selects "BusTelegramsModel" ({ cls := "BusTelegramsModel", name := "pack", desc := "(D)I" } : Jvm.MethodName) ({ cls := "BusTelegramsModel", name := "pack", desc := "(D)I" } : Jvm.MethodName) ∈ GL := gl_of 811 (by decide +kernel) (by decide +kernel)
theorem mw_782 : Jvm.Cond.code ({ cls := "BusTelegramsModel", name := "pack", desc := "(D)I" } : Jvm.MethodName) prog_6_method_33_code (9 : Nat) (Option.some Jvm.ClassFile.FieldType.int) ∈ GL := gl_of 812 (by decide +kernel) (by decide +kernel)
theorem mw_783 : Jvm.Cond.constantDouble "BusTelegramsModel" (182 : Nat) (4636737291354636288 : UInt64) ∈ GL := gl_of 813 (by decide +kernel) (by decide +kernel)
theorem mw_784 : Jvm.Cond.constantDouble "BusTelegramsModel" (184 : Nat) (4602678819172646912 : UInt64) ∈ GL := gl_of 814 (by decide +kernel) (by decide +kernel)
theorem mw_785 : Jvm.Cond.constantDouble "BusTelegramsModel" (186 : Nat) (13880094051555868672 : UInt64) ∈ GL := gl_of 815 (by decide +kernel) (by decide +kernel)
theorem mw_786 : Jvm.Cond.constantDouble "BusTelegramsModel" (188 : Nat) (4656722014701092864 : UInt64) ∈ GL := gl_of 816 (by decide +kernel) (by decide +kernel)
theorem mw_787 : Jvm.Cond.methodLink "BusTelegramsModel" (190 : Nat) ({ cls := "BusTelegramsModel", name := "whole", desc := "(D)I" } : Jvm.MethodName) ∈ GL := gl_of 817 (by decide +kernel) (by decide +kernel)
theorem mw_788 : Jvm.Cond.static ({ cls := "BusTelegramsModel", name := "whole", desc := "(D)I" } : Jvm.MethodName) ∈ GL := gl_of 818 (by decide +kernel) (by decide +kernel)
theorem mw_789 : Jvm.Cond.code ({ cls := "BusTelegramsModel", name := "whole", desc := "(D)I" } : Jvm.MethodName) prog_6_method_32_code (3 : Nat) (Option.some Jvm.ClassFile.FieldType.int) ∈ GL := gl_of 819 (by decide +kernel) (by decide +kernel)
theorem mw_790 : Jvm.Cond.constant "BusTelegramsModel" (194 : Nat) (32768 : Int32) ∈ GL := gl_of 820 (by decide +kernel) (by decide +kernel)
theorem mw_791 : Jvm.Cond.constantDouble "BusTelegramsModel" (195 : Nat) (4611686018427387904 : UInt64) ∈ GL := gl_of 821 (by decide +kernel) (by decide +kernel)
theorem mw_792 : Jvm.Cond.constant "BusTelegramsModel" (197 : Nat) (63488 : Int32) ∈ GL := gl_of 822 (by decide +kernel) (by decide +kernel)
theorem mw_793 : Jvm.Cond.methodLink "BusTelegramsLaw" (112 : Nat) ({ cls := "BusTelegramsModel", name := "unpack", desc := "(I)D" } : Jvm.MethodName) ∈ GL := gl_of 823 (by decide +kernel) (by decide +kernel)
theorem mw_794 : Jvm.Cond.instanceMethod ({ cls := "BusTelegramsModel", name := "unpack", desc := "(I)D" } : Jvm.MethodName) ∈ GL := gl_of 824 (by decide +kernel) (by decide +kernel)
theorem mw_795 : Jvm.Cond.selects "BusTelegramsModel" ({ cls := "BusTelegramsModel", name := "unpack", desc := "(I)D" } : Jvm.MethodName) ({ cls := "BusTelegramsModel", name := "unpack", desc := "(I)D" } : Jvm.MethodName) ∈ GL := gl_of 825 (by decide +kernel) (by decide +kernel)
theorem mw_796 : Jvm.Cond.code ({ cls := "BusTelegramsModel", name := "unpack", desc := "(I)D" } : Jvm.MethodName) prog_6_method_34_code (4 : Nat) (Option.some Jvm.ClassFile.FieldType.double) ∈ GL := gl_of 826 (by decide +kernel) (by decide +kernel)
theorem mw_797 : Jvm.Cond.constantDouble "BusTelegramsLaw" (102 : Nat) (4593671619917905920 : UInt64) ∈ GL := gl_of 827 (by decide +kernel) (by decide +kernel)
theorem mw_798 : Jvm.Cond.arrayClass Jvm.ClassFile.FieldType.long ∈ GL := gl_of 828 (by decide +kernel) (by decide +kernel)
theorem mw_799 : Jvm.Cond.arrayClass Jvm.ClassFile.FieldType.double ∈ GL := gl_of 829 (by decide +kernel) (by decide +kernel)
theorem mn_25 : Jvm.Cond.methodLinkNest "BusTelegrams" (17 : Nat) ({ cls := "BusTelegrams$Ear", name := "<init>", desc := "()V" } : Jvm.MethodName) "BusTelegrams" ∈ NL := by decide +kernel
theorem mn_41 : Jvm.Cond.fieldLinkNest "BusTelegrams" (131 : Nat) "BusTelegrams$Ear" "latestCount" "I" "BusTelegrams" ∈ NL := by decide +kernel
theorem mn_44 : Jvm.Cond.fieldLinkNest "BusTelegrams" (205 : Nat) "BusTelegrams$Ear" "latestRight" "Z" "BusTelegrams" ∈ NL := by decide +kernel
theorem mn_46 : Jvm.Cond.fieldLinkNest "BusTelegrams" (139 : Nat) "BusTelegrams$Ear" "latestAnswer" "I" "BusTelegrams" ∈ NL := by decide +kernel
theorem mn_90 : Jvm.Cond.methodLinkNest "BusTelegrams$Station" (62 : Nat) ({ cls := "BusTelegrams$Telegram", name := "<init>", desc := "()V" } : Jvm.MethodName) "BusTelegrams" ∈ NL := by decide +kernel
theorem mn_98 : Jvm.Cond.fieldLinkNest "BusTelegrams$Station" (96 : Nat) "BusTelegrams$Telegram" "sayings" "I" "BusTelegrams" ∈ NL := by decide +kernel
theorem mn_110 : Jvm.Cond.fieldLinkNest "BusTelegrams" (60 : Nat) "BusTelegrams$Station" "groups" "[Z" "BusTelegrams" ∈ NL := by decide +kernel
theorem mn_113 : Jvm.Cond.fieldLinkNest "BusTelegrams" (55 : Nat) "BusTelegrams$Station" "ownAddress" "I" "BusTelegrams" ∈ NL := by decide +kernel
theorem mn_115 : Jvm.Cond.fieldLinkNest "BusTelegrams" (65 : Nat) "BusTelegrams$Station" "isBusy" "Z" "BusTelegrams" ∈ NL := by decide +kernel
theorem mn_118 : Jvm.Cond.fieldLinkNest "BusTelegrams" (75 : Nat) "BusTelegrams$Station" "queued" "I" "BusTelegrams" ∈ NL := by decide +kernel
theorem mn_413 : Jvm.Cond.methodLinkNest "BusTelegrams$Station" (84 : Nat) ({ cls := "BusTelegrams", name := "characterBit", desc := "(II)I" } : Jvm.MethodName) "BusTelegrams" ∈ NL := by decide +kernel
theorem mn_430 : Jvm.Cond.methodLinkNest "BusTelegrams$Telegram" (34 : Nat) ({ cls := "BusTelegrams", name := "characterBit", desc := "(II)I" } : Jvm.MethodName) "BusTelegrams" ∈ NL := by decide +kernel
theorem nl_warm {s U : State} (hW : s.WarmedH U.vm) (h : ∀ w ∈ NL, va_Nw w s) : ∀ w ∈ NL, va_Nw w U := by
  intro w hw
  simp only [NL, List.mem_cons, List.not_mem_nil, or_false] at hw
  rcases hw with rfl | rfl | rfl | rfl | rfl | rfl | rfl | rfl | rfl | rfl | rfl | rfl
  · exact va_Nw.warmM hW (h _ (by simp [NL]))
  · exact va_Nw.warmF hW (h _ (by simp [NL]))
  · exact va_Nw.warmF hW (h _ (by simp [NL]))
  · exact va_Nw.warmF hW (h _ (by simp [NL]))
  · exact va_Nw.warmM hW (h _ (by simp [NL]))
  · exact va_Nw.warmF hW (h _ (by simp [NL]))
  · exact va_Nw.warmF hW (h _ (by simp [NL]))
  · exact va_Nw.warmF hW (h _ (by simp [NL]))
  · exact va_Nw.warmF hW (h _ (by simp [NL]))
  · exact va_Nw.warmF hW (h _ (by simp [NL]))
  · exact va_Nw.warmM hW (h _ (by simp [NL]))
  · exact va_Nw.warmM hW (h _ (by simp [NL]))
end
section
/-! THE ABSTRACT MACHINE: memory with numbered cells, continuations, and one law an instruction (W out of a continuation) -/
abbrev Mm : Type := Nat × Nat × Nat × (Nat → Nat) × (Nat → Nat) × (Nat → Nat → Int32) × (Nat → Nat → Option Nat) × (Nat → Nat → Int64) × (Nat → Nat → UInt64)
def xn (X : Mm) : Nat := X.1
def xc (X : Mm) : Nat := X.2.1
def xs (X : Mm) : Nat := X.2.2.1
def xk (X : Mm) : Nat → Nat := X.2.2.2.1
def xl (X : Mm) : Nat → Nat := X.2.2.2.2.1
def xm (X : Mm) : Nat → Nat → Int32 := X.2.2.2.2.2.1
def xr (X : Mm) : Nat → Nat → Option Nat := X.2.2.2.2.2.2.1
def xL (X : Mm) : Nat → Nat → Int64 := X.2.2.2.2.2.2.2.1
def xD (X : Mm) : Nat → Nat → UInt64 := X.2.2.2.2.2.2.2.2
def xmk (n c s : Nat) (k l : Nat → Nat) (m : Nat → Nat → Int32) (r : Nat → Nat → Option Nat) (L : Nat → Nat → Int64) (D : Nat → Nat → UInt64) : Mm := (n, c, s, k, l, m, r, L, D)
def xsm (X : Mm) (a j : Nat) (v : Int32) : Mm := xmk (xn X) (xc X) (xs X) (xk X) (xl X) (fun b => if b = a then upd (xm X b) j v else xm X b) (xr X) (xL X) (xD X)
def xsr (X : Mm) (a j : Nat) (v : Option Nat) : Mm := xmk (xn X) (xc X) (xs X) (xk X) (xl X) (xm X) (fun b => if b = a then va_up (xr X b) j v else xr X b) (xL X) (xD X)
def xsL (X : Mm) (a j : Nat) (v : Int64) : Mm := xmk (xn X) (xc X) (xs X) (xk X) (xl X) (xm X) (xr X) (fun b => if b = a then vp_updL (xL X b) j v else xL X b) (xD X)
def xsD (X : Mm) (a j : Nat) (v : UInt64) : Mm := xmk (xn X) (xc X) (xs X) (xk X) (xl X) (xm X) (xr X) (xL X) (fun b => if b = a then vf_upd (xD X b) j v else xD X b)
def xbump (X : Mm) (c s : Nat) : Mm := xmk (xn X) c s (xk X) (xl X) (xm X) (xr X) (xL X) (xD X)
def xnew (X : Mm) (kd len slots : Nat) : Mm := xmk (xn X + 1) (xc X + 1) (xs X + slots) (va_up (xk X) (xn X) kd) (va_up (xl X) (xn X) len) (va_up (xm X) (xn X) (fun _ => 0)) (va_up (xr X) (xn X) (fun _ => none)) (va_up (xL X) (xn X) (fun _ => 0)) (va_up (xD X) (xn X) (fun _ => 0))
def WFx (X : Mm) : Prop := ∀ k j i, xr X k j = some i → i < xn X
def conc (ad : Nat → Nat) (v : Value) : Value := match v with
  | .ref k => .ref (ad k)
  | w => w
def cq (ad : Nat → Nat) (q : Nat × Value) : Nat × Value := (q.1, conc ad q.2)
def vfld (c : Nat) (ad : Nat → Nat) (M : Nat → Int32) (Rf : Nat → Option Nat) : List Value := (List.range (nf c)).map (fun j => if isR c j = true then va_rf ((Rf j).map ad) else .int (M j))
def cnt (cy : Nat → ClassId) (ad : Nat → Nat) (X : Mm) (k : Nat) : va_E :=
  if xk X k = 10 then .inl (cy 0, xl X k, .inl (xm X k))
  else if xk X k = 11 then .inl (cy 1, xl X k, .inl (xm X k))
  else if xk X k = 12 then .inl (cy 2, xl X k, .inr (.inr (.inr (.inr (fun j => (xr X k j).map ad)))))
  else if xk X k = 13 then .inl (cy 3, xl X k, .inr (.inr (.inr (.inr (fun j => (xr X k j).map ad)))))
  else if xk X k = 14 then .inl (cy 4, xl X k, .inr (.inl (xL X k)))
  else if xk X k = 15 then .inl (cy 5, xl X k, .inr (.inr (.inr (.inl (xD X k)))))
  else .inr (xk X k, vfld (xk X k) ad (xm X k) (xr X k))
def wl (cy : Nat → ClassId) (ad : Nat → Nat) (X : Mm) : va_W := (List.range (xn X)).map (fun k => (ad k, cnt cy ad X k))
abbrev vtys (cy : Nat → ClassId) : List (ClassId × FieldType) := [(cy 0, .int), (cy 1, .boolean), (cy 2, .object RX1), (cy 3, .object RX2), (cy 4, .long), (cy 5, .double)]
theorem wl_get {cy : Nat → ClassId} {ad : Nat → Nat} {X : Mm} {k : Nat} (h : k < xn X) : (wl cy ad X)[k]? = some (ad k, cnt cy ad X k) := by
  simp [wl, h]
theorem wl_set {cy : Nat → ClassId} {ad : Nat → Nat} {X X' : Mm} {k : Nat} {e : va_E} (hn : xn X' = xn X) (he : cnt cy ad X' k = e) (ho : ∀ j, j ≠ k → cnt cy ad X' j = cnt cy ad X j) : (wl cy ad X).set k (ad k, e) = wl cy ad X' := by
  apply List.ext_getElem?
  intro i
  subst he
  by_cases hi : i < xn X
  · by_cases hk : i = k
    · subst hk
      rw [List.getElem?_set_self (by simpa [wl] using hi), wl_get (by rw [hn]; exact hi)]
    · rw [List.getElem?_set_ne (Ne.symm hk), wl_get hi, wl_get (by rw [hn]; exact hi), ho i hk]
  · rw [List.getElem?_eq_none (by simp [wl]; omega), List.getElem?_eq_none (by simp [wl, hn]; omega)]
theorem cnt_sm {cy : Nat → ClassId} {ad : Nat → Nat} {X : Mm} {a j : Nat} {v : Int32} : ∀ i, i ≠ a → cnt cy ad (xsm X a j v) i = cnt cy ad X i := by
  intro i h
  have e : xm (xsm X a j v) i = xm X i := by show (if i = a then upd (xm X i) j v else xm X i) = _; rw [if_neg h]
  unfold cnt
  rw [e]
  rfl
theorem cnt_sL {cy : Nat → ClassId} {ad : Nat → Nat} {X : Mm} {a j : Nat} {v : Int64} : ∀ i, i ≠ a → cnt cy ad (xsL X a j v) i = cnt cy ad X i := by
  intro i h
  have e : xL (xsL X a j v) i = xL X i := by show (if i = a then vp_updL (xL X i) j v else xL X i) = _; rw [if_neg h]
  unfold cnt
  rw [e]
  rfl
theorem cnt_sD {cy : Nat → ClassId} {ad : Nat → Nat} {X : Mm} {a j : Nat} {v : UInt64} : ∀ i, i ≠ a → cnt cy ad (xsD X a j v) i = cnt cy ad X i := by
  intro i h
  have e : xD (xsD X a j v) i = xD X i := by show (if i = a then vf_upd (xD X i) j v else xD X i) = _; rw [if_neg h]
  unfold cnt
  rw [e]
  rfl
theorem cnt_sr {cy : Nat → ClassId} {ad : Nat → Nat} {X : Mm} {a j : Nat} {v : Option Nat} : ∀ i, i ≠ a → cnt cy ad (xsr X a j v) i = cnt cy ad X i := by
  intro i h
  have e : xr (xsr X a j v) i = xr X i := by show (if i = a then va_up (xr X i) j v else xr X i) = _; rw [if_neg h]
  unfold cnt
  rw [e]
  rfl
theorem cnt_obj {cy : Nat → ClassId} {ad : Nat → Nat} {X : Mm} {k c : Nat} (h : xk X k = c) (hc : c < 10) : cnt cy ad X k = .inr (c, vfld c ad (xm X k) (xr X k)) := by
  unfold cnt
  rw [h]
  repeat rw [if_neg (by omega)]
theorem vfld_at {c : Nat} {ad : Nat → Nat} {M : Nat → Int32} {Rf : Nat → Option Nat} {j : Nat} (hj : j < nf c) : (vfld c ad M Rf)[j]? = some (if isR c j = true then va_rf ((Rf j).map ad) else .int (M j)) := by
  simp [vfld, hj]
theorem vfld_len {c : Nat} {ad : Nat → Nat} {M : Nat → Int32} {Rf : Nat → Option Nat} : (vfld c ad M Rf).length = nf c := by simp [vfld]
theorem vfld_setI {c : Nat} {ad : Nat → Nat} {M : Nat → Int32} {Rf : Nat → Option Nat} {j : Nat} {v : Int32} (hj : j < nf c) (hr : isR c j = false) : (vfld c ad M Rf).set j (.int v) = vfld c ad (upd M j v) Rf := by
  apply List.ext_getElem?
  intro i
  by_cases hi : i < nf c
  · by_cases hk : i = j
    · subst hk
      rw [List.getElem?_set_self (by rw [vfld_len]; exact hi), vfld_at hi, hr]
      simp [upd]
    · rw [List.getElem?_set_ne (Ne.symm hk), vfld_at hi, vfld_at hi]
      simp [upd, hk]
  · rw [List.getElem?_eq_none (by rw [List.length_set, vfld_len]; omega), List.getElem?_eq_none (by rw [vfld_len]; omega)]
theorem vfld_setR {c : Nat} {ad : Nat → Nat} {M : Nat → Int32} {Rf : Nat → Option Nat} {j b : Nat} (hj : j < nf c) (hr : isR c j = true) : (vfld c ad M Rf).set j (.ref (ad b)) = vfld c ad M (va_up Rf j (some b)) := by
  apply List.ext_getElem?
  intro i
  by_cases hi : i < nf c
  · by_cases hk : i = j
    · subst hk
      rw [List.getElem?_set_self (by rw [vfld_len]; exact hi), vfld_at hi, hr]
      simp [va_up, va_rf]
    · rw [List.getElem?_set_ne (Ne.symm hk), vfld_at hi, vfld_at hi]
      simp [va_up, hk]
  · rw [List.getElem?_eq_none (by rw [List.length_set, vfld_len]; omega), List.getElem?_eq_none (by rw [vfld_len]; omega)]
-- the fixed things of a walk
abbrev Zt : Type := Program × Launch × Env × Room × State × MethodId × Array Value × List Frame × Method × Code × (va_G × (Nat → ClassId)) × (Nat → Prop) × (Nat × Nat × Nat × (Nat → Nat) × Nat × Nat × Bool) × (State → Prop)
def zp (Z : Zt) := Z.1
def zl (Z : Zt) := Z.2.1
def ze (Z : Zt) := Z.2.2.1
def zR (Z : Zt) := Z.2.2.2.1
def zs (Z : Zt) := Z.2.2.2.2.1
def zm (Z : Zt) := Z.2.2.2.2.2.1
def za (Z : Zt) := Z.2.2.2.2.2.2.1
def zb (Z : Zt) := Z.2.2.2.2.2.2.2.1
def zM (Z : Zt) := Z.2.2.2.2.2.2.2.2.1
def zc (Z : Zt) := Z.2.2.2.2.2.2.2.2.2.1
def zE (Z : Zt) := Z.2.2.2.2.2.2.2.2.2.2.1
def zA (Z : Zt) := Z.2.2.2.2.2.2.2.2.2.2.2.1
def zi (Z : Zt) := Z.2.2.2.2.2.2.2.2.2.2.2.2.1
def zQ (Z : Zt) := Z.2.2.2.2.2.2.2.2.2.2.2.2.2
def zc0 (Z : Zt) : Nat := (zi Z).1
def zs0 (Z : Zt) : Nat := (zi Z).2.1
def zn0 (Z : Zt) : Nat := (zi Z).2.2.1
def zad (Z : Zt) : Nat → Nat := (zi Z).2.2.2.1
def zcm (Z : Zt) : Nat := (zi Z).2.2.2.2.1
def zsm (Z : Zt) : Nat := (zi Z).2.2.2.2.2.1
def zfl (Z : Zt) : Bool := (zi Z).2.2.2.2.2.2
def Wd (Z : Zt) (ad : Nat → Nat) (X : Mm) (H : Heap) (locs : List Loc) : Prop := WFx X ∧ va_P (zE Z).1 vcl (wl (zE Z).2 ad X) H ∧ va_D (zA Z) (wl (zE Z).2 ad X) ∧ va_S (zA Z) (zs Z).heap H locs
def Hw (Z : Zt) (X : Mm) (ad : Nat → Nat) (H : Heap) (locs : List Loc) (cells slots : Nat) : Prop :=
  cells + zc0 Z = xc X ∧ slots + zs0 Z = xs X ∧ xc X ≤ zcm Z ∧ xs X ≤ zsm Z ∧ zn0 Z ≤ xn X ∧ (∀ k, (k < zn0 Z ∨ k = 999) → ad k = zad Z k) ∧ (zfl Z = true → xn X = zn0 Z ∧ ad = zad Z) ∧ Wd Z ad X H locs
abbrev Ww (Z : Zt) (H : Heap) (locs : List Loc) (cells slots : Nat) (g : JFrame) : Prop := W (zp Z) (zl Z) (ze Z) (zR Z) (zs Z) (zm Z) (za Z) (zb Z) (zM Z) (zc Z) H locs cells slots (zQ Z) g
def J (Z : Zt) (nL pc : Nat) (l : List (Nat × Value)) (st : List Value) (X : Mm) : Prop :=
  ∀ (ad : Nat → Nat) (H : Heap) (locs : List Loc) (ls : Array Slot) (cells slots : Nat), Hw Z X ad H locs cells slots → lv_has ls nL (l.map (cq ad)) → Ww Z H locs cells slots (F0 (zm Z) pc ls (st.map (conc ad)))
abbrev Kk : Type := List (Nat × Value) → List Value → Mm → Prop
def Snd (Z : Zt) (nL pc : Nat) (k : Kk) : Prop := ∀ l st X, k l st X → J Z nL pc l st X
def Good (Z : Zt) (cc : ByteArray) (nL : Nat) (own : String) (lv : Nat) : Prop :=
  (zp Z).tables.exec = Jvm.exec ∧ (zc Z).code = cc ∧ (zc Z).maxLocals = nL ∧ (zs Z).vm.findClass own = some (zm Z).cls ∧ (∀ w ∈ GL, w.before (za Z) (zs Z) = true) ∧ (∀ w ∈ NL, va_Nw w (zs Z)) ∧ va_K (zE Z).1 vcl (vtys (zE Z).2) (zs Z) ∧ (∀ q, (zs Z).heap.size ≤ q → zA Z q) ∧ (zM Z).locks = false ∧ lv ≤ (zR Z).frames ∧ 36 * lv ≤ (zR Z).locals ∧ zcm Z ≤ zc0 Z + (zR Z).cells ∧ zsm Z ≤ zs0 Z + (zR Z).slots
section GoodParts
variable {Z : Zt} {cc : ByteArray} {nL lv : Nat} {own : String}
theorem Good.hx (g : Good Z cc nL own lv) : (zp Z).tables.exec = Jvm.exec := g.1
theorem Good.hb (g : Good Z cc nL own lv) : (zc Z).code = cc := g.2.1
theorem Good.hml (g : Good Z cc nL own lv) : (zc Z).maxLocals = nL := g.2.2.1
theorem Good.hown (g : Good Z cc nL own lv) : (zs Z).vm.findClass own = some (zm Z).cls := g.2.2.2.1
theorem Good.hG (g : Good Z cc nL own lv) : ∀ w ∈ GL, w.before (za Z) (zs Z) = true := g.2.2.2.2.1
theorem Good.hN (g : Good Z cc nL own lv) : ∀ w ∈ NL, va_Nw w (zs Z) := g.2.2.2.2.2.1
theorem Good.hK (g : Good Z cc nL own lv) : va_K (zE Z).1 vcl (vtys (zE Z).2) (zs Z) := g.2.2.2.2.2.2.1
theorem Good.hA (g : Good Z cc nL own lv) : ∀ q, (zs Z).heap.size ≤ q → zA Z q := g.2.2.2.2.2.2.2.1
theorem Good.hlk (g : Good Z cc nL own lv) : (zM Z).locks = false := g.2.2.2.2.2.2.2.2.1
theorem Good.hfr (g : Good Z cc nL own lv) : lv ≤ (zR Z).frames := g.2.2.2.2.2.2.2.2.2.1
theorem Good.hlo (g : Good Z cc nL own lv) : 36 * lv ≤ (zR Z).locals := g.2.2.2.2.2.2.2.2.2.2.1
theorem Good.hcm (g : Good Z cc nL own lv) : zcm Z ≤ zc0 Z + (zR Z).cells := g.2.2.2.2.2.2.2.2.2.2.2.1
theorem Good.hsm (g : Good Z cc nL own lv) : zsm Z ≤ zs0 Z + (zR Z).slots := g.2.2.2.2.2.2.2.2.2.2.2.2
end GoodParts
-- locals: look up, store
def lk : List (Nat × Value) → Nat → Option Value
  | [], _ => none
  | (i, v) :: l, n => if i = n then some v else lk l n
theorem lk_mem {l : List (Nat × Value)} {n : Nat} {v : Value} (h : lk l n = some v) : (n, v) ∈ l := by
  induction l with
  | nil => cases h
  | cons q l ih =>
    obtain ⟨i, w⟩ := q
    simp only [lk] at h
    split at h
    · next e => cases h; subst e; exact List.mem_cons_self
    · exact List.mem_cons_of_mem _ (ih h)
theorem lk_has {ls : Array Slot} {nL : Nat} {l : List (Nat × Value)} {ad : Nat → Nat} {n : Nat} {v : Value} (h : lv_has ls nL (l.map (cq ad))) (e : lk l n = some v) : ls[n]? = some (.val (conc ad v)) :=
  h.2.2 (n, conc ad v) (List.mem_map.mpr ⟨(n, v), lk_mem e, rfl⟩)
def rm1 (l : List (Nat × Value)) (i : Nat) : List (Nat × Value) := l.filter (fun q => !(q.1 == i) && !(q.1 + 1 == i && q.2.category == 2))
def rm2 (l : List (Nat × Value)) (i : Nat) : List (Nat × Value) := l.filter (fun q => !(q.1 == i) && (!(q.1 == i + 1) && !(q.1 + 1 == i && q.2.category == 2)))
theorem conc_cat (ad : Nat → Nat) (v : Value) : (conc ad v).category = v.category := by cases v <;> rfl
theorem rm1_map (l : List (Nat × Value)) (i : Nat) (ad : Nat → Nat) : (l.map (cq ad)).filter (fun q => !(q.1 == i) && !(q.1 + 1 == i && q.2.category == 2)) = (rm1 l i).map (cq ad) := by
  unfold rm1
  rw [List.filter_map]
  congr 1
  apply List.filter_congr
  intro q _
  simp [Function.comp, cq, conc_cat]
theorem rm2_map (l : List (Nat × Value)) (i : Nat) (ad : Nat → Nat) : (l.map (cq ad)).filter (fun q => !(q.1 == i) && (!(q.1 == i + 1) && !(q.1 + 1 == i && q.2.category == 2))) = (rm2 l i).map (cq ad) := by
  unfold rm2
  rw [List.filter_map]
  congr 1
  apply List.filter_congr
  intro q _
  simp [Function.comp, cq, conc_cat]
def pickl (ks : List Nat) (l : List (Nat × Value)) : List (Nat × Value) := ks.filterMap (fun i => (lk l i).map (fun v => (i, v)))
theorem pickl_has {ls : Array Slot} {nL : Nat} {l : List (Nat × Value)} {ad : Nat → Nat} (ks : List Nat) (h : lv_has ls nL (l.map (cq ad))) : lv_has ls nL ((pickl ks l).map (cq ad)) := by
  refine ⟨h.1, h.2.1, fun q hq => ?_⟩
  obtain ⟨q0, h0, rfl⟩ := List.mem_map.mp hq
  obtain ⟨i, -, hi⟩ := List.mem_filterMap.mp h0
  cases e : lk l i with
  | none => rw [e] at hi; cases hi
  | some v =>
    rw [e] at hi
    cases hi
    exact lk_has h e
end
section
/-! one law an instruction -/
section Rows
variable {Z : Zt} {cc : ByteArray} {nL lv : Nat} {own : String} {pc : Nat} {k kt kf : Kk}
def i_push (v : Value) (k : Kk) : Kk := fun l st X => k l (v :: st) X
def i_iload (n : Nat) (k : Kk) : Kk := fun l st X => match lk l n with
  | some (.int x) => k l (.int x :: st) X
  | _ => False
def i_aload (n : Nat) (k : Kk) : Kk := fun l st X => match lk l n with
  | some (.ref x) => k l (.ref x :: st) X
  | _ => False
def i_dload (n : Nat) (k : Kk) : Kk := fun l st X => match lk l n with
  | some (.double x) => k l (.double x :: st) X
  | _ => False
def i_istore (n : Nat) (k : Kk) : Kk := fun l st X => match st with
  | .int x :: r => k ((n, .int x) :: rm1 l n) r X
  | _ => False
def i_astore (n : Nat) (k : Kk) : Kk := fun l st X => match st with
  | .ref x :: r => k ((n, .ref x) :: rm1 l n) r X
  | _ => False
def i_dstore (n : Nat) (k : Kk) : Kk := fun l st X => match st with
  | .double x :: r => k ((n, .double x) :: rm2 l n) r X
  | _ => False
def i_iinc (n : Nat) (d : Int32) (k : Kk) : Kk := fun l st X => match lk l n with
  | some (.int x) => k ((n, .int (x + d)) :: rm1 l n) st X
  | _ => False
def i_bin (f : Int32 → Int32 → Int32) (k : Kk) : Kk := fun l st X => match st with
  | .int y :: .int x :: r => k l (.int (f x y) :: r) X
  | _ => False
def i_binz (f : Int32 → Int32 → Int32) (k : Kk) : Kk := fun l st X => match st with
  | .int y :: .int x :: r => ¬ y = 0 ∧ k l (.int (f x y) :: r) X
  | _ => False
def i_dbin (f : UInt64 → UInt64 → UInt64) (k : Kk) : Kk := fun l st X => match st with
  | .double y :: .double x :: r => vf_n64 (f x y) ∧ k l (.double (f x y) :: r) X
  | _ => False
def i_dcmp (op : CmpOp) (k : Kk) : Kk := fun l st X => match st with
  | .double y :: .double x :: r => k l (.int (Op.cmpValue (FP.dcmp x y) op) :: r) X
  | _ => False
def i_i2d (k : Kk) : Kk := fun l st X => match st with
  | .int x :: r => k l (.double (FP.i2d x) :: r) X
  | _ => False
def i_d2i (k : Kk) : Kk := fun l st X => match st with
  | .double x :: r => k l (.int (FP.d2i x) :: r) X
  | _ => False
def i_i2l (k : Kk) : Kk := fun l st X => match st with
  | .int x :: r => k l (.long x.toInt64 :: r) X
  | _ => False
def i_dup (k : Kk) : Kk := fun l st X => match st with
  | .ref v :: r => k l (.ref v :: .ref v :: r) X
  | .int v :: r => k l (.int v :: .int v :: r) X
  | _ => False
def i_dup2 (k : Kk) : Kk := fun l st X => match st with
  | .int w :: .ref v :: r => k l (.int w :: .ref v :: .int w :: .ref v :: r) X
  | _ => False
def i_if (c : Int32 → Int32 → Prop) [∀ x y, Decidable (c x y)] (kt kf : Kk) : Kk := fun l st X => match st with
  | .int x :: r => if c x 0 then kt l r X else kf l r X
  | _ => False
def i_icmp (c : Int32 → Int32 → Prop) [∀ x y, Decidable (c x y)] (kt kf : Kk) : Kk := fun l st X => match st with
  | .int y :: .int x :: r => if c x y then kt l r X else kf l r X
  | _ => False
def i_getI (c j : Nat) (k : Kk) : Kk := fun l st X => match st with
  | .ref a :: r => a < xn X ∧ xk X a = c ∧ k l (.int (xm X a j) :: r) X
  | _ => False
def i_getR (c j : Nat) (k : Kk) : Kk := fun l st X => match st with
  | .ref a :: r => a < xn X ∧ xk X a = c ∧ (match xr X a j with
    | some b => k l (.ref b :: r) X
    | none => False)
  | _ => False
def i_putI (c j : Nat) (k : Kk) : Kk := fun l st X => match st with
  | .int v :: .ref a :: r => a < xn X ∧ xk X a = c ∧ k l r (xsm X a j v)
  | _ => False
def i_putZ (c j : Nat) (k : Kk) : Kk := fun l st X => match st with
  | .int v :: .ref a :: r => a < xn X ∧ xk X a = c ∧ (v = 0 ∨ v = 1) ∧ k l r (xsm X a j v)
  | _ => False
def i_putR (c j : Nat) (k : Kk) : Kk := fun l st X => match st with
  | .ref b :: .ref a :: r => a < xn X ∧ xk X a = c ∧ b < xn X ∧ k l r (xsr X a j (some b))
  | _ => False
def i_ald (kd : Nat) (k : Kk) : Kk := fun l st X => match st with
  | .int i :: .ref a :: r => a < xn X ∧ xk X a = kd ∧ vp_in i (xl X a) ∧ k l (.int (xm X a i.toNatClampNeg) :: r) X
  | _ => False
def i_ast (k : Kk) : Kk := fun l st X => match st with
  | .int v :: .int i :: .ref a :: r => a < xn X ∧ xk X a = 10 ∧ vp_in i (xl X a) ∧ k l r (xsm X a i.toNatClampNeg v)
  | _ => False
def i_zst (k : Kk) : Kk := fun l st X => match st with
  | .int v :: .int i :: .ref a :: r => a < xn X ∧ xk X a = 11 ∧ vp_in i (xl X a) ∧ (v = 0 ∨ v = 1) ∧ k l r (xsm X a i.toNatClampNeg v)
  | _ => False
def i_aald (kd : Nat) (k : Kk) : Kk := fun l st X => match st with
  | .int i :: .ref a :: r => a < xn X ∧ xk X a = kd ∧ vp_in i (xl X a) ∧ (match xr X a i.toNatClampNeg with
    | some b => k l (.ref b :: r) X
    | none => False)
  | _ => False
def i_alen (k : Kk) : Kk := fun l st X => match st with
  | .ref a :: r => a < xn X ∧ xk X a = 10 ∧ k l (.int (Int32.ofNat (xl X a)) :: r) X
  | _ => False
theorem s_push_iconst (g : Good Z cc nL own lv) {n : Int} {v : Int32} (d : decode cc pc = .ok (.iconst n, 1)) (e : Int32.ofInt n = v) (h : Snd Z nL (pc + 1) k) : Snd Z nL pc (i_push (.int v) k) :=
  fun l st X hk ad H locs ls cells slots hw hl => lv_iconst g.hx g.hb d e (h _ _ _ hk ad H locs ls cells slots hw hl)
theorem s_push_bipush (g : Good Z cc nL own lv) {n : Int} {v : Int32} (d : decode cc pc = .ok (.bipush n, 2)) (e : (Int8.ofInt n).toInt32 = v) (h : Snd Z nL (pc + 2) k) : Snd Z nL pc (i_push (.int v) k) :=
  fun l st X hk ad H locs ls cells slots hw hl => lv_bipush g.hx g.hb d e (h _ _ _ hk ad H locs ls cells slots hw hl)
theorem s_push_sipush (g : Good Z cc nL own lv) {n : Int} {v : Int32} (d : decode cc pc = .ok (.sipush n, 3)) (e : (Int16.ofInt n).toInt32 = v) (h : Snd Z nL (pc + 3) k) : Snd Z nL pc (i_push (.int v) k) :=
  fun l st X hk ad H locs ls cells slots hw hl => lv_sipush g.hx g.hb d e (h _ _ _ hk ad H locs ls cells slots hw hl)
theorem s_push_lconst (g : Good Z cc nL own lv) {n : Fin 2} {v : Int64} (d : decode cc pc = .ok (.lconst n, 1)) (e : Int64.ofNat (n : Nat) = v) (h : Snd Z nL (pc + 1) k) : Snd Z nL pc (i_push (.long v) k) :=
  fun l st X hk ad H locs ls cells slots hw hl => lv_lconst g.hx g.hb d e (h _ _ _ hk ad H locs ls cells slots hw hl)
theorem s_push_dconst0 (g : Good Z cc nL own lv) (d : decode cc pc = .ok (.dconst 0, 1)) (h : Snd Z nL (pc + 1) k) : Snd Z nL pc (i_push (.double FP.dconst0) k) :=
  fun l st X hk ad H locs ls cells slots hw hl => lv_dconst0 g.hx g.hb d (h _ _ _ hk ad H locs ls cells slots hw hl)
theorem s_push_dconst1 (g : Good Z cc nL own lv) (d : decode cc pc = .ok (.dconst 1, 1)) (h : Snd Z nL (pc + 1) k) : Snd Z nL pc (i_push (.double FP.dconst1) k) :=
  fun l st X hk ad H locs ls cells slots hw hl => lv_dconst1 g.hx g.hb d (h _ _ _ hk ad H locs ls cells slots hw hl)
theorem s_push_ldc (g : Good Z cc nL own lv) {i : Nat} {v : Int32} (w : Cond.constant own i v ∈ GL) (d : decode cc pc = .ok (.ldc i, 2)) (h : Snd Z nL (pc + 2) k) : Snd Z nL pc (i_push (.int v) k) :=
  fun l st X hk ad H locs ls cells slots hw hl => lv_ldc g.hx g.hb g.hown (g.hG _ w) d (h _ _ _ hk ad H locs ls cells slots hw hl)
theorem s_push_ldcw (g : Good Z cc nL own lv) {i : Nat} {v : Int32} (w : Cond.constant own i v ∈ GL) (d : decode cc pc = .ok (.ldc_w i, 3)) (h : Snd Z nL (pc + 3) k) : Snd Z nL pc (i_push (.int v) k) :=
  fun l st X hk ad H locs ls cells slots hw hl => lv_ldcw g.hx g.hb g.hown (g.hG _ w) d (h _ _ _ hk ad H locs ls cells slots hw hl)
theorem s_push_ldc2 (g : Good Z cc nL own lv) {i : Nat} {v : UInt64} (w : Cond.constantDouble own i v ∈ GL) (d : decode cc pc = .ok (.ldc2_w i, 3)) (h : Snd Z nL (pc + 3) k) : Snd Z nL pc (i_push (.double v) k) :=
  fun l st X hk ad H locs ls cells slots hw hl => lv_ldc2d g.hx g.hb g.hown (g.hG _ w) d (h _ _ _ hk ad H locs ls cells slots hw hl)
theorem s_iload (g : Good Z cc nL own lv) {n : Nat} (d : decode cc pc = .ok (.iload n, 2)) (h : Snd Z nL (pc + 2) k) : Snd Z nL pc (i_iload n k) := by
  intro l st X hk ad H locs ls cells slots hw hl
  unfold i_iload at hk
  split at hk
  · next x e => exact lv_iload g.hx g.hb d (lk_has hl e) (h _ _ _ hk ad H locs ls cells slots hw hl)
  · exact hk.elim
theorem s_iload_n (g : Good Z cc nL own lv) {q : Fin 4} {n : Nat} (d : decode cc pc = .ok (.iload_n q, 1)) (e : (q : Nat) = n) (h : Snd Z nL (pc + 1) k) : Snd Z nL pc (i_iload n k) := by
  intro l st X hk ad H locs ls cells slots hw hl
  unfold i_iload at hk
  split at hk
  · next x e1 => exact lv_iload_n g.hx g.hb d e (lk_has hl e1) (h _ _ _ hk ad H locs ls cells slots hw hl)
  · exact hk.elim
theorem s_aload (g : Good Z cc nL own lv) {n : Nat} (d : decode cc pc = .ok (.aload n, 2)) (h : Snd Z nL (pc + 2) k) : Snd Z nL pc (i_aload n k) := by
  intro l st X hk ad H locs ls cells slots hw hl
  unfold i_aload at hk
  split at hk
  · next x e => exact lv_aload g.hx g.hb d (lk_has hl e) (h _ _ _ hk ad H locs ls cells slots hw hl)
  · exact hk.elim
theorem s_aload_n (g : Good Z cc nL own lv) {q : Fin 4} {n : Nat} (d : decode cc pc = .ok (.aload_n q, 1)) (e : (q : Nat) = n) (h : Snd Z nL (pc + 1) k) : Snd Z nL pc (i_aload n k) := by
  intro l st X hk ad H locs ls cells slots hw hl
  unfold i_aload at hk
  split at hk
  · next x e1 => exact lv_aload_n g.hx g.hb d e (lk_has hl e1) (h _ _ _ hk ad H locs ls cells slots hw hl)
  · exact hk.elim
theorem s_dload (g : Good Z cc nL own lv) {n : Nat} (d : decode cc pc = .ok (.dload n, 2)) (h : Snd Z nL (pc + 2) k) : Snd Z nL pc (i_dload n k) := by
  intro l st X hk ad H locs ls cells slots hw hl
  unfold i_dload at hk
  split at hk
  · next x e => exact lv_dload g.hx g.hb d (lk_has hl e) (h _ _ _ hk ad H locs ls cells slots hw hl)
  · exact hk.elim
theorem s_dload_n (g : Good Z cc nL own lv) {q : Fin 4} {n : Nat} (d : decode cc pc = .ok (.dload_n q, 1)) (e : (q : Nat) = n) (h : Snd Z nL (pc + 1) k) : Snd Z nL pc (i_dload n k) := by
  intro l st X hk ad H locs ls cells slots hw hl
  unfold i_dload at hk
  split at hk
  · next x e1 => exact lv_dload_n g.hx g.hb d e (lk_has hl e1) (h _ _ _ hk ad H locs ls cells slots hw hl)
  · exact hk.elim
theorem s_istore (g : Good Z cc nL own lv) {n : Nat} (hn : n < nL) (d : decode cc pc = .ok (.istore n, 2)) (h : Snd Z nL (pc + 2) k) : Snd Z nL pc (i_istore n k) := by
  intro l st X hk ad H locs ls cells slots hw hl
  unfold i_istore at hk
  split at hk
  · next x r => exact lv_istore (lv' := ((n, Value.int x) :: rm1 l n).map (cq ad)) g.hx g.hb d hl hn (by rw [rm1_map]; rfl) (fun ls' hl' => h _ _ _ hk ad H locs ls' cells slots hw hl')
  · exact hk.elim
theorem s_istore_n (g : Good Z cc nL own lv) {q : Fin 4} {n : Nat} (hn : n < nL) (d : decode cc pc = .ok (.istore_n q, 1)) (e : (q : Nat) = n) (h : Snd Z nL (pc + 1) k) : Snd Z nL pc (i_istore n k) := by
  intro l st X hk ad H locs ls cells slots hw hl
  unfold i_istore at hk
  split at hk
  · next x r => exact lv_istore_n (lv' := ((n, Value.int x) :: rm1 l n).map (cq ad)) g.hx g.hb d e hl hn (by rw [rm1_map]; rfl) (fun ls' hl' => h _ _ _ hk ad H locs ls' cells slots hw hl')
  · exact hk.elim
theorem s_astore (g : Good Z cc nL own lv) {n : Nat} (hn : n < nL) (d : decode cc pc = .ok (.astore n, 2)) (h : Snd Z nL (pc + 2) k) : Snd Z nL pc (i_astore n k) := by
  intro l st X hk ad H locs ls cells slots hw hl
  unfold i_astore at hk
  split at hk
  · next x r => exact lv_astore (lv' := ((n, Value.ref x) :: rm1 l n).map (cq ad)) g.hx g.hb d hl hn (by rw [rm1_map]; rfl) (fun ls' hl' => h _ _ _ hk ad H locs ls' cells slots hw hl')
  · exact hk.elim
theorem s_astore_n (g : Good Z cc nL own lv) {q : Fin 4} {n : Nat} (hn : n < nL) (d : decode cc pc = .ok (.astore_n q, 1)) (e : (q : Nat) = n) (h : Snd Z nL (pc + 1) k) : Snd Z nL pc (i_astore n k) := by
  intro l st X hk ad H locs ls cells slots hw hl
  unfold i_astore at hk
  split at hk
  · next x r => exact lv_astore_n (lv' := ((n, Value.ref x) :: rm1 l n).map (cq ad)) g.hx g.hb d e hl hn (by rw [rm1_map]; rfl) (fun ls' hl' => h _ _ _ hk ad H locs ls' cells slots hw hl')
  · exact hk.elim
theorem s_dstore (g : Good Z cc nL own lv) {n : Nat} (hn : n + 1 < nL) (d : decode cc pc = .ok (.dstore n, 2)) (h : Snd Z nL (pc + 2) k) : Snd Z nL pc (i_dstore n k) := by
  intro l st X hk ad H locs ls cells slots hw hl
  unfold i_dstore at hk
  split at hk
  · next x r => exact lv_dstore (lv' := ((n, Value.double x) :: rm2 l n).map (cq ad)) g.hx g.hb d hl hn (by rw [rm2_map]; rfl) (fun ls' hl' => h _ _ _ hk ad H locs ls' cells slots hw hl')
  · exact hk.elim
theorem s_dstore_n (g : Good Z cc nL own lv) {q : Fin 4} {n : Nat} (hn : n + 1 < nL) (d : decode cc pc = .ok (.dstore_n q, 1)) (e : (q : Nat) = n) (h : Snd Z nL (pc + 1) k) : Snd Z nL pc (i_dstore n k) := by
  intro l st X hk ad H locs ls cells slots hw hl
  unfold i_dstore at hk
  split at hk
  · next x r => exact lv_dstore_n (lv' := ((n, Value.double x) :: rm2 l n).map (cq ad)) g.hx g.hb d e hl hn (by rw [rm2_map]; rfl) (fun ls' hl' => h _ _ _ hk ad H locs ls' cells slots hw hl')
  · exact hk.elim
theorem s_iinc (g : Good Z cc nL own lv) {n : Nat} {dd : Int} {v : Int32} (hn : n < nL) (d : decode cc pc = .ok (.iinc n dd, 3)) (e : Int32.ofInt dd = v) (h : Snd Z nL (pc + 3) k) : Snd Z nL pc (i_iinc n v k) := by
  intro l st X hk ad H locs ls cells slots hw hl
  unfold i_iinc at hk
  split at hk
  · next x e1 =>
    obtain ⟨k9, hk9⟩ := List.getElem?_of_mem (List.mem_map.mpr ⟨(n, Value.int x), lk_mem e1, rfl⟩ : cq ad (n, Value.int x) ∈ l.map (cq ad))
    exact lv_iinc (v := x + v) (lv' := ((n, Value.int (x + v)) :: rm1 l n).map (cq ad)) g.hx g.hb d hl hk9 (by rw [e]) hn (by rw [rm1_map]; rfl) (fun ls' hl' => h _ _ _ hk ad H locs ls' cells slots hw hl')
  · exact hk.elim
theorem s_iincW (g : Good Z cc nL own lv) {n : Nat} {dd : Int} {v : Int32} (hn : n < nL) (d : decode cc pc = .ok (.iinc n dd, 6)) (e : Int32.ofInt dd = v) (h : Snd Z nL (pc + 6) k) : Snd Z nL pc (i_iinc n v k) := by
  intro l st X hk ad H locs ls cells slots hw hl
  unfold i_iinc at hk
  split at hk
  · next x e1 =>
    obtain ⟨k9, hk9⟩ := List.getElem?_of_mem (List.mem_map.mpr ⟨(n, Value.int x), lk_mem e1, rfl⟩ : cq ad (n, Value.int x) ∈ l.map (cq ad))
    exact lv_iincW (v := x + v) (lv' := ((n, Value.int (x + v)) :: rm1 l n).map (cq ad)) g.hx g.hb d hl hk9 (by rw [e]) hn (by rw [rm1_map]; rfl) (fun ls' hl' => h _ _ _ hk ad H locs ls' cells slots hw hl')
  · exact hk.elim
theorem s_iadd (g : Good Z cc nL own lv) (d : decode cc pc = .ok (.iadd, 1)) (h : Snd Z nL (pc + 1) k) : Snd Z nL pc (i_bin (fun x y => x + y) k) := by
  intro l st X hk ad H locs ls cells slots hw hl
  unfold i_bin at hk
  split at hk
  · exact lv_iadd g.hx g.hb d (h _ _ _ hk ad H locs ls cells slots hw hl)
  · exact hk.elim
theorem s_isub (g : Good Z cc nL own lv) (d : decode cc pc = .ok (.isub, 1)) (h : Snd Z nL (pc + 1) k) : Snd Z nL pc (i_bin (fun x y => x - y) k) := by
  intro l st X hk ad H locs ls cells slots hw hl
  unfold i_bin at hk
  split at hk
  · exact lv_isub g.hx g.hb d (h _ _ _ hk ad H locs ls cells slots hw hl)
  · exact hk.elim
theorem s_imul (g : Good Z cc nL own lv) (d : decode cc pc = .ok (.imul, 1)) (h : Snd Z nL (pc + 1) k) : Snd Z nL pc (i_bin (fun x y => x * y) k) := by
  intro l st X hk ad H locs ls cells slots hw hl
  unfold i_bin at hk
  split at hk
  · exact lv_imul g.hx g.hb d (h _ _ _ hk ad H locs ls cells slots hw hl)
  · exact hk.elim
theorem s_iand (g : Good Z cc nL own lv) (d : decode cc pc = .ok (.iand, 1)) (h : Snd Z nL (pc + 1) k) : Snd Z nL pc (i_bin (fun x y => x &&& y) k) := by
  intro l st X hk ad H locs ls cells slots hw hl
  unfold i_bin at hk
  split at hk
  · exact lv_iand g.hx g.hb d (h _ _ _ hk ad H locs ls cells slots hw hl)
  · exact hk.elim
theorem s_ixor (g : Good Z cc nL own lv) (d : decode cc pc = .ok (.ixor, 1)) (h : Snd Z nL (pc + 1) k) : Snd Z nL pc (i_bin (fun x y => x ^^^ y) k) := by
  intro l st X hk ad H locs ls cells slots hw hl
  unfold i_bin at hk
  split at hk
  · exact lv_ixor g.hx g.hb d (h _ _ _ hk ad H locs ls cells slots hw hl)
  · exact hk.elim
theorem s_ishl (g : Good Z cc nL own lv) (d : decode cc pc = .ok (.ishl, 1)) (h : Snd Z nL (pc + 1) k) : Snd Z nL pc (i_bin (fun x y => x <<< (y &&& 31)) k) := by
  intro l st X hk ad H locs ls cells slots hw hl
  unfold i_bin at hk
  split at hk
  · exact lv_ishl g.hx g.hb d (h _ _ _ hk ad H locs ls cells slots hw hl)
  · exact hk.elim
theorem s_ishr (g : Good Z cc nL own lv) (d : decode cc pc = .ok (.ishr, 1)) (h : Snd Z nL (pc + 1) k) : Snd Z nL pc (i_bin (fun x y => x >>> (y &&& 31)) k) := by
  intro l st X hk ad H locs ls cells slots hw hl
  unfold i_bin at hk
  split at hk
  · exact lv_ishr g.hx g.hb d (h _ _ _ hk ad H locs ls cells slots hw hl)
  · exact hk.elim
theorem s_iushr (g : Good Z cc nL own lv) (d : decode cc pc = .ok (.iushr, 1)) (h : Snd Z nL (pc + 1) k) : Snd Z nL pc (i_bin (fun x y => (x.toUInt32 >>> (y.toUInt32 &&& Int32.toUInt32 31)).toInt32) k) := by
  intro l st X hk ad H locs ls cells slots hw hl
  unfold i_bin at hk
  split at hk
  · exact lv_iushr g.hx g.hb d rfl (h _ _ _ hk ad H locs ls cells slots hw hl)
  · exact hk.elim
theorem s_idiv (g : Good Z cc nL own lv) (d : decode cc pc = .ok (.idiv, 1)) (h : Snd Z nL (pc + 1) k) : Snd Z nL pc (i_binz (fun x y => x / y) k) := by
  intro l st X hk ad H locs ls cells slots hw hl
  unfold i_binz at hk
  split at hk
  · exact lv_idiv g.hx g.hb d hk.1 (h _ _ _ hk.2 ad H locs ls cells slots hw hl)
  · exact hk.elim
theorem s_irem (g : Good Z cc nL own lv) (d : decode cc pc = .ok (.irem, 1)) (h : Snd Z nL (pc + 1) k) : Snd Z nL pc (i_binz (fun x y => x - x / y * y) k) := by
  intro l st X hk ad H locs ls cells slots hw hl
  unfold i_binz at hk
  split at hk
  · exact lv_irem g.hx g.hb d hk.1 (h _ _ _ hk.2 ad H locs ls cells slots hw hl)
  · exact hk.elim
theorem s_dadd (g : Good Z cc nL own lv) (d : decode cc pc = .ok (.dadd, 1)) (h : Snd Z nL (pc + 1) k) : Snd Z nL pc (i_dbin FP.dadd k) := by
  intro l st X hk ad H locs ls cells slots hw hl
  unfold i_dbin at hk
  split at hk
  · exact lv_dadd g.hx g.hb d hk.1 (h _ _ _ hk.2 ad H locs ls cells slots hw hl)
  · exact hk.elim
theorem s_dmul (g : Good Z cc nL own lv) (d : decode cc pc = .ok (.dmul, 1)) (h : Snd Z nL (pc + 1) k) : Snd Z nL pc (i_dbin FP.dmul k) := by
  intro l st X hk ad H locs ls cells slots hw hl
  unfold i_dbin at hk
  split at hk
  · exact lv_dmul g.hx g.hb d hk.1 (h _ _ _ hk.2 ad H locs ls cells slots hw hl)
  · exact hk.elim
theorem s_ddiv (g : Good Z cc nL own lv) (d : decode cc pc = .ok (.ddiv, 1)) (h : Snd Z nL (pc + 1) k) : Snd Z nL pc (i_dbin FP.ddiv k) := by
  intro l st X hk ad H locs ls cells slots hw hl
  unfold i_dbin at hk
  split at hk
  · exact lv_ddiv g.hx g.hb d hk.1 (h _ _ _ hk.2 ad H locs ls cells slots hw hl)
  · exact hk.elim
theorem s_dcmp (g : Good Z cc nL own lv) {op : CmpOp} (d : decode cc pc = .ok (.dcmp op, 1)) (h : Snd Z nL (pc + 1) k) : Snd Z nL pc (i_dcmp op k) := by
  intro l st X hk ad H locs ls cells slots hw hl
  unfold i_dcmp at hk
  split at hk
  · exact lv_dcmp g.hx g.hb d (h _ _ _ hk ad H locs ls cells slots hw hl)
  · exact hk.elim
theorem s_i2d (g : Good Z cc nL own lv) (d : decode cc pc = .ok (.i2d, 1)) (h : Snd Z nL (pc + 1) k) : Snd Z nL pc (i_i2d k) := by
  intro l st X hk ad H locs ls cells slots hw hl
  unfold i_i2d at hk
  split at hk
  · exact lv_i2d g.hx g.hb d (h _ _ _ hk ad H locs ls cells slots hw hl)
  · exact hk.elim
theorem s_d2i (g : Good Z cc nL own lv) (d : decode cc pc = .ok (.d2i, 1)) (h : Snd Z nL (pc + 1) k) : Snd Z nL pc (i_d2i k) := by
  intro l st X hk ad H locs ls cells slots hw hl
  unfold i_d2i at hk
  split at hk
  · exact lv_d2i g.hx g.hb d (h _ _ _ hk ad H locs ls cells slots hw hl)
  · exact hk.elim
theorem s_i2l (g : Good Z cc nL own lv) (d : decode cc pc = .ok (.i2l, 1)) (h : Snd Z nL (pc + 1) k) : Snd Z nL pc (i_i2l k) := by
  intro l st X hk ad H locs ls cells slots hw hl
  unfold i_i2l at hk
  split at hk
  · exact lv_i2l g.hx g.hb d rfl (h _ _ _ hk ad H locs ls cells slots hw hl)
  · exact hk.elim
theorem s_dup (g : Good Z cc nL own lv) (d : decode cc pc = .ok (.dup, 1)) (h : Snd Z nL (pc + 1) k) : Snd Z nL pc (i_dup k) := by
  intro l st X hk ad H locs ls cells slots hw hl
  unfold i_dup at hk
  split at hk
  · exact lv_dup g.hx g.hb d rfl (h _ _ _ hk ad H locs ls cells slots hw hl)
  · exact lv_dup g.hx g.hb d rfl (h _ _ _ hk ad H locs ls cells slots hw hl)
  · exact hk.elim
theorem s_dup2 (g : Good Z cc nL own lv) (d : decode cc pc = .ok (.dup2, 1)) (h : Snd Z nL (pc + 1) k) : Snd Z nL pc (i_dup2 k) := by
  intro l st X hk ad H locs ls cells slots hw hl
  unfold i_dup2 at hk
  split at hk
  · exact lv_dup2_11 g.hx g.hb d rfl rfl (h _ _ _ hk ad H locs ls cells slots hw hl)
  · exact hk.elim
theorem s_if_eq (g : Good Z cc nL own lv) {off : Int} {tgt : Nat} (d : decode cc pc = .ok (.ifCond .eq off, 3)) (ht : (pc : Int) + off = (tgt : Int)) (h1 : Snd Z nL tgt kt) (h2 : Snd Z nL (pc + 3) kf) : Snd Z nL pc (i_if (fun x y => x = y) kt kf) := by
  intro l st X hk ad H locs ls cells slots hw hl
  unfold i_if at hk
  split at hk
  · split at hk
    · next hc => exact lv_if_eq g.hx g.hb d ht (fun _ => h1 _ _ _ hk ad H locs ls cells slots hw hl) (fun hn => absurd hc hn)
    · next hc => exact lv_if_eq g.hx g.hb d ht (fun hn => absurd hn hc) (fun _ => h2 _ _ _ hk ad H locs ls cells slots hw hl)
  · exact hk.elim
theorem s_icmp_eq (g : Good Z cc nL own lv) {off : Int} {tgt : Nat} (d : decode cc pc = .ok (.if_icmp .eq off, 3)) (ht : (pc : Int) + off = (tgt : Int)) (h1 : Snd Z nL tgt kt) (h2 : Snd Z nL (pc + 3) kf) : Snd Z nL pc (i_icmp (fun x y => x = y) kt kf) := by
  intro l st X hk ad H locs ls cells slots hw hl
  unfold i_icmp at hk
  split at hk
  · split at hk
    · next hc => exact lv_icmp_eq g.hx g.hb d ht (fun _ => h1 _ _ _ hk ad H locs ls cells slots hw hl) (fun hn => absurd hc hn)
    · next hc => exact lv_icmp_eq g.hx g.hb d ht (fun hn => absurd hn hc) (fun _ => h2 _ _ _ hk ad H locs ls cells slots hw hl)
  · exact hk.elim
theorem s_if_ne (g : Good Z cc nL own lv) {off : Int} {tgt : Nat} (d : decode cc pc = .ok (.ifCond .ne off, 3)) (ht : (pc : Int) + off = (tgt : Int)) (h1 : Snd Z nL tgt kt) (h2 : Snd Z nL (pc + 3) kf) : Snd Z nL pc (i_if (fun x y => x = y) kf kt) := by
  intro l st X hk ad H locs ls cells slots hw hl
  unfold i_if at hk
  split at hk
  · split at hk
    · next hc => exact lv_if_ne g.hx g.hb d ht (fun hn => absurd hc hn) (fun _ => h2 _ _ _ hk ad H locs ls cells slots hw hl)
    · next hc => exact lv_if_ne g.hx g.hb d ht (fun _ => h1 _ _ _ hk ad H locs ls cells slots hw hl) (fun hn => absurd hn hc)
  · exact hk.elim
theorem s_icmp_ne (g : Good Z cc nL own lv) {off : Int} {tgt : Nat} (d : decode cc pc = .ok (.if_icmp .ne off, 3)) (ht : (pc : Int) + off = (tgt : Int)) (h1 : Snd Z nL tgt kt) (h2 : Snd Z nL (pc + 3) kf) : Snd Z nL pc (i_icmp (fun x y => x = y) kf kt) := by
  intro l st X hk ad H locs ls cells slots hw hl
  unfold i_icmp at hk
  split at hk
  · split at hk
    · next hc => exact lv_icmp_ne g.hx g.hb d ht (fun hn => absurd hc hn) (fun _ => h2 _ _ _ hk ad H locs ls cells slots hw hl)
    · next hc => exact lv_icmp_ne g.hx g.hb d ht (fun _ => h1 _ _ _ hk ad H locs ls cells slots hw hl) (fun hn => absurd hn hc)
  · exact hk.elim
theorem s_if_lt (g : Good Z cc nL own lv) {off : Int} {tgt : Nat} (d : decode cc pc = .ok (.ifCond .lt off, 3)) (ht : (pc : Int) + off = (tgt : Int)) (h1 : Snd Z nL tgt kt) (h2 : Snd Z nL (pc + 3) kf) : Snd Z nL pc (i_if (fun x y => x < y) kt kf) := by
  intro l st X hk ad H locs ls cells slots hw hl
  unfold i_if at hk
  split at hk
  · split at hk
    · next hc => exact lv_if_lt g.hx g.hb d ht (fun _ => h1 _ _ _ hk ad H locs ls cells slots hw hl) (fun hn => absurd hc hn)
    · next hc => exact lv_if_lt g.hx g.hb d ht (fun hn => absurd hn hc) (fun _ => h2 _ _ _ hk ad H locs ls cells slots hw hl)
  · exact hk.elim
theorem s_icmp_lt (g : Good Z cc nL own lv) {off : Int} {tgt : Nat} (d : decode cc pc = .ok (.if_icmp .lt off, 3)) (ht : (pc : Int) + off = (tgt : Int)) (h1 : Snd Z nL tgt kt) (h2 : Snd Z nL (pc + 3) kf) : Snd Z nL pc (i_icmp (fun x y => x < y) kt kf) := by
  intro l st X hk ad H locs ls cells slots hw hl
  unfold i_icmp at hk
  split at hk
  · split at hk
    · next hc => exact lv_icmp_lt g.hx g.hb d ht (fun _ => h1 _ _ _ hk ad H locs ls cells slots hw hl) (fun hn => absurd hc hn)
    · next hc => exact lv_icmp_lt g.hx g.hb d ht (fun hn => absurd hn hc) (fun _ => h2 _ _ _ hk ad H locs ls cells slots hw hl)
  · exact hk.elim
theorem s_if_ge (g : Good Z cc nL own lv) {off : Int} {tgt : Nat} (d : decode cc pc = .ok (.ifCond .ge off, 3)) (ht : (pc : Int) + off = (tgt : Int)) (h1 : Snd Z nL tgt kt) (h2 : Snd Z nL (pc + 3) kf) : Snd Z nL pc (i_if (fun x y => y ≤ x) kt kf) := by
  intro l st X hk ad H locs ls cells slots hw hl
  unfold i_if at hk
  split at hk
  · split at hk
    · next hc => exact lv_if_ge g.hx g.hb d ht (fun _ => h1 _ _ _ hk ad H locs ls cells slots hw hl) (fun hn => absurd hc hn)
    · next hc => exact lv_if_ge g.hx g.hb d ht (fun hn => absurd hn hc) (fun _ => h2 _ _ _ hk ad H locs ls cells slots hw hl)
  · exact hk.elim
theorem s_icmp_ge (g : Good Z cc nL own lv) {off : Int} {tgt : Nat} (d : decode cc pc = .ok (.if_icmp .ge off, 3)) (ht : (pc : Int) + off = (tgt : Int)) (h1 : Snd Z nL tgt kt) (h2 : Snd Z nL (pc + 3) kf) : Snd Z nL pc (i_icmp (fun x y => y ≤ x) kt kf) := by
  intro l st X hk ad H locs ls cells slots hw hl
  unfold i_icmp at hk
  split at hk
  · split at hk
    · next hc => exact lv_icmp_ge g.hx g.hb d ht (fun _ => h1 _ _ _ hk ad H locs ls cells slots hw hl) (fun hn => absurd hc hn)
    · next hc => exact lv_icmp_ge g.hx g.hb d ht (fun hn => absurd hn hc) (fun _ => h2 _ _ _ hk ad H locs ls cells slots hw hl)
  · exact hk.elim
theorem s_if_gt (g : Good Z cc nL own lv) {off : Int} {tgt : Nat} (d : decode cc pc = .ok (.ifCond .gt off, 3)) (ht : (pc : Int) + off = (tgt : Int)) (h1 : Snd Z nL tgt kt) (h2 : Snd Z nL (pc + 3) kf) : Snd Z nL pc (i_if (fun x y => y < x) kt kf) := by
  intro l st X hk ad H locs ls cells slots hw hl
  unfold i_if at hk
  split at hk
  · split at hk
    · next hc => exact lv_if_gt g.hx g.hb d ht (fun _ => h1 _ _ _ hk ad H locs ls cells slots hw hl) (fun hn => absurd hc hn)
    · next hc => exact lv_if_gt g.hx g.hb d ht (fun hn => absurd hn hc) (fun _ => h2 _ _ _ hk ad H locs ls cells slots hw hl)
  · exact hk.elim
theorem s_icmp_gt (g : Good Z cc nL own lv) {off : Int} {tgt : Nat} (d : decode cc pc = .ok (.if_icmp .gt off, 3)) (ht : (pc : Int) + off = (tgt : Int)) (h1 : Snd Z nL tgt kt) (h2 : Snd Z nL (pc + 3) kf) : Snd Z nL pc (i_icmp (fun x y => y < x) kt kf) := by
  intro l st X hk ad H locs ls cells slots hw hl
  unfold i_icmp at hk
  split at hk
  · split at hk
    · next hc => exact lv_icmp_gt g.hx g.hb d ht (fun _ => h1 _ _ _ hk ad H locs ls cells slots hw hl) (fun hn => absurd hc hn)
    · next hc => exact lv_icmp_gt g.hx g.hb d ht (fun hn => absurd hn hc) (fun _ => h2 _ _ _ hk ad H locs ls cells slots hw hl)
  · exact hk.elim
theorem s_if_le (g : Good Z cc nL own lv) {off : Int} {tgt : Nat} (d : decode cc pc = .ok (.ifCond .le off, 3)) (ht : (pc : Int) + off = (tgt : Int)) (h1 : Snd Z nL tgt kt) (h2 : Snd Z nL (pc + 3) kf) : Snd Z nL pc (i_if (fun x y => x ≤ y) kt kf) := by
  intro l st X hk ad H locs ls cells slots hw hl
  unfold i_if at hk
  split at hk
  · split at hk
    · next hc => exact lv_if_le g.hx g.hb d ht (fun _ => h1 _ _ _ hk ad H locs ls cells slots hw hl) (fun hn => absurd hc hn)
    · next hc => exact lv_if_le g.hx g.hb d ht (fun hn => absurd hn hc) (fun _ => h2 _ _ _ hk ad H locs ls cells slots hw hl)
  · exact hk.elim
theorem s_icmp_le (g : Good Z cc nL own lv) {off : Int} {tgt : Nat} (d : decode cc pc = .ok (.if_icmp .le off, 3)) (ht : (pc : Int) + off = (tgt : Int)) (h1 : Snd Z nL tgt kt) (h2 : Snd Z nL (pc + 3) kf) : Snd Z nL pc (i_icmp (fun x y => x ≤ y) kt kf) := by
  intro l st X hk ad H locs ls cells slots hw hl
  unfold i_icmp at hk
  split at hk
  · split at hk
    · next hc => exact lv_icmp_le g.hx g.hb d ht (fun _ => h1 _ _ _ hk ad H locs ls cells slots hw hl) (fun hn => absurd hc hn)
    · next hc => exact lv_icmp_le g.hx g.hb d ht (fun hn => absurd hn hc) (fun _ => h2 _ _ _ hk ad H locs ls cells slots hw hl)
  · exact hk.elim
theorem s_goto (g : Good Z cc nL own lv) {off : Int} {tgt : Nat} (d : decode cc pc = .ok (.goto off, 3)) (ht : (pc : Int) + off = (tgt : Int)) (h : Snd Z nL tgt k) : Snd Z nL pc k :=
  fun l st X hk ad H locs ls cells slots hw hl => lv_goto g.hx g.hb d ht (h _ _ _ hk ad H locs ls cells slots hw hl)
end Rows
end
section
/-! fields, arrays -/
section HeapRows
variable {Z : Zt} {cc : ByteArray} {nL lv : Nat} {own : String} {pc : Nat} {k kt kf : Kk}
def clsOk (c : Nat) (C : String) (T : u_T) (N : Nat) (ty0 : Nat → FieldType) : Prop :=
  vcl[c]? = some (C, T, N) ∧ (∀ w ∈ u_ws C T N, w ∈ GL) ∧ nf c = N ∧ c < 10 ∧ (∀ k, k < N → parseFieldDescriptor (T k).2.2.1 = some (ty0 k)) ∧ (∀ a, a < N → ∀ b, b < N → a ≠ b → (T a).2.1 ≠ (T b).2.1)
theorem Hw.sm {X : Mm} {ad : Nat → Nat} {H H1 : Heap} {locs locs1 : List Loc} {cells slots a j : Nat} {v : Int32} (h : Hw Z X ad H locs cells slots)
    (hP : va_P (zE Z).1 vcl (wl (zE Z).2 ad (xsm X a j v)) H1) (hD : va_D (zA Z) (wl (zE Z).2 ad (xsm X a j v))) (hS : va_S (zA Z) (zs Z).heap H1 locs1) : Hw Z (xsm X a j v) ad H1 locs1 cells slots :=
  ⟨h.1, h.2.1, h.2.2.1, h.2.2.2.1, h.2.2.2.2.1, h.2.2.2.2.2.1, h.2.2.2.2.2.2.1, h.2.2.2.2.2.2.2.1, hP, hD, hS⟩
theorem Hw.P {X : Mm} {ad : Nat → Nat} {H : Heap} {locs : List Loc} {cells slots : Nat} (h : Hw Z X ad H locs cells slots) : va_P (zE Z).1 vcl (wl (zE Z).2 ad X) H := h.2.2.2.2.2.2.2.2.1
theorem Hw.D {X : Mm} {ad : Nat → Nat} {H : Heap} {locs : List Loc} {cells slots : Nat} (h : Hw Z X ad H locs cells slots) : va_D (zA Z) (wl (zE Z).2 ad X) := h.2.2.2.2.2.2.2.2.2.1
theorem Hw.S {X : Mm} {ad : Nat → Nat} {H : Heap} {locs : List Loc} {cells slots : Nat} (h : Hw Z X ad H locs cells slots) : va_S (zA Z) (zs Z).heap H locs := h.2.2.2.2.2.2.2.2.2.2
theorem Hw.W {X : Mm} {ad : Nat → Nat} {H : Heap} {locs : List Loc} {cells slots : Nat} (h : Hw Z X ad H locs cells slots) : WFx X := h.2.2.2.2.2.2.2.1
theorem s_getI (g : Good Z cc nL own lv) {c j i : Nat} {C : String} {T : u_T} {N : Nat} {ty0 : Nat → FieldType} (hc : clsOk c C T N ty0) (hj : j < N) (hr : isR c j = false) (w : Cond.fieldLink own i C (T j).2.1 (T j).2.2.1 ∈ GL) (hd : (T j).1 = C)
    (d : decode cc pc = .ok (.getfield i, 3)) (h : Snd Z nL (pc + 3) k) : Snd Z nL pc (i_getI c j k) := by
  intro l st X hk ad H locs ls cells slots hw hl
  obtain ⟨h1, h2, h3, h4, -, -⟩ := hc
  unfold i_getI at hk
  split at hk
  · next a r =>
    obtain ⟨ha, hka, hk⟩ := hk
    exact va_get g.hx g.hb g.hG h2 g.hown g.hK hw.P a (fs := vfld c ad (xm X a) (xr X a)) (by rw [wl_get ha, cnt_obj hka h4]) h1 j hj (g.hG _ w) (fun x hx => by rw [hd] at hx; exact hx)
      (v := .int (xm X a j)) (by rw [vfld_at (by rw [h3]; exact hj), hr]; rfl) d (h _ _ _ hk ad H locs ls cells slots hw hl)
  · exact hk.elim
theorem s_getIN (g : Good Z cc nL own lv) {c j i : Nat} {C host : String} {T : u_T} {N : Nat} {ty0 : Nat → FieldType} (hc : clsOk c C T N ty0) (hj : j < N) (hr : isR c j = false) (w : Cond.fieldLinkNest own i C (T j).2.1 (T j).2.2.1 host ∈ NL) (hd : (T j).1 = C)
    (d : decode cc pc = .ok (.getfield i, 3)) (h : Snd Z nL (pc + 3) k) : Snd Z nL pc (i_getI c j k) := by
  intro l st X hk ad H locs ls cells slots hw hl
  obtain ⟨h1, h2, h3, h4, -, -⟩ := hc
  unfold i_getI at hk
  split at hk
  · next a r =>
    obtain ⟨ha, hka, hk⟩ := hk
    exact va_getN g.hx g.hb g.hG h2 g.hown g.hK hw.P a (fs := vfld c ad (xm X a) (xr X a)) (by rw [wl_get ha, cnt_obj hka h4]) h1 j hj (va_Nw.use rfl (g.hN _ w)) (fun x hx => by rw [hd] at hx; exact hx)
      (v := .int (xm X a j)) (by rw [vfld_at (by rw [h3]; exact hj), hr]; rfl) d (h _ _ _ hk ad H locs ls cells slots hw hl)
  · exact hk.elim
theorem s_getR (g : Good Z cc nL own lv) {c j i : Nat} {C : String} {T : u_T} {N : Nat} {ty0 : Nat → FieldType} (hc : clsOk c C T N ty0) (hj : j < N) (hr : isR c j = true) (w : Cond.fieldLink own i C (T j).2.1 (T j).2.2.1 ∈ GL) (hd : (T j).1 = C)
    (d : decode cc pc = .ok (.getfield i, 3)) (h : Snd Z nL (pc + 3) k) : Snd Z nL pc (i_getR c j k) := by
  intro l st X hk ad H locs ls cells slots hw hl
  obtain ⟨h1, h2, h3, h4, -, -⟩ := hc
  unfold i_getR at hk
  split at hk
  · next a r =>
    obtain ⟨ha, hka, hk⟩ := hk
    split at hk
    · next b e =>
      exact va_get g.hx g.hb g.hG h2 g.hown g.hK hw.P a (fs := vfld c ad (xm X a) (xr X a)) (by rw [wl_get ha, cnt_obj hka h4]) h1 j hj (g.hG _ w) (fun x hx => by rw [hd] at hx; exact hx)
        (v := .ref (ad b)) (by rw [vfld_at (by rw [h3]; exact hj), hr, e]; rfl) d (h _ _ _ hk ad H locs ls cells slots hw hl)
    · exact hk.elim
  · exact hk.elim
theorem s_getRN (g : Good Z cc nL own lv) {c j i : Nat} {C host : String} {T : u_T} {N : Nat} {ty0 : Nat → FieldType} (hc : clsOk c C T N ty0) (hj : j < N) (hr : isR c j = true) (w : Cond.fieldLinkNest own i C (T j).2.1 (T j).2.2.1 host ∈ NL) (hd : (T j).1 = C)
    (d : decode cc pc = .ok (.getfield i, 3)) (h : Snd Z nL (pc + 3) k) : Snd Z nL pc (i_getR c j k) := by
  intro l st X hk ad H locs ls cells slots hw hl
  obtain ⟨h1, h2, h3, h4, -, -⟩ := hc
  unfold i_getR at hk
  split at hk
  · next a r =>
    obtain ⟨ha, hka, hk⟩ := hk
    split at hk
    · next b e =>
      exact va_getN g.hx g.hb g.hG h2 g.hown g.hK hw.P a (fs := vfld c ad (xm X a) (xr X a)) (by rw [wl_get ha, cnt_obj hka h4]) h1 j hj (va_Nw.use rfl (g.hN _ w)) (fun x hx => by rw [hd] at hx; exact hx)
        (v := .ref (ad b)) (by rw [vfld_at (by rw [h3]; exact hj), hr, e]; rfl) d (h _ _ _ hk ad H locs ls cells slots hw hl)
    · exact hk.elim
  · exact hk.elim
theorem wl_sm {cy : Nat → ClassId} {ad : Nat → Nat} {X : Mm} {a c j : Nat} {v : Int32} (hka : xk X a = c) (hc : c < 10) (hj : j < nf c) (hr : isR c j = false) : (wl cy ad X).set a (ad a, .inr (c, (vfld c ad (xm X a) (xr X a)).set j (.int v))) = wl cy ad (xsm X a j v) := by
  refine wl_set (X := X) (X' := xsm X a j v) rfl ?_ cnt_sm
  rw [cnt_obj (show xk (xsm X a j v) a = c from hka) hc, vfld_setI hj hr]
  have e : xm (xsm X a j v) a = upd (xm X a) j v := by show (if a = a then upd (xm X a) j v else xm X a) = _; rw [if_pos rfl]
  rw [e]
  rfl
theorem s_putI (g : Good Z cc nL own lv) {c j i : Nat} {C : String} {T : u_T} {N : Nat} {ty0 : Nat → FieldType} (hc : clsOk c C T N ty0) (hj : j < N) (hr : isR c j = false) (hfin : (T j).2.2.2 = false) (hty : (T j).2.2.1 = "I") (w : Cond.fieldLink own i C (T j).2.1 (T j).2.2.1 ∈ GL) (hd : (T j).1 = C)
    (d : decode cc pc = .ok (.putfield i, 3)) (h : Snd Z nL (pc + 3) k) : Snd Z nL pc (i_putI c j k) := by
  intro l st X hk ad H locs ls cells slots hw hl
  obtain ⟨h1, h2, h3, h4, h5, h6⟩ := hc
  unfold i_putI at hk
  split at hk
  · next v a r =>
    obtain ⟨ha, hka, hk⟩ := hk
    refine va_put g.hx g.hb g.hG h2 ty0 h5 h6 g.hown g.hK hw.P hw.D hw.S a (fs := vfld c ad (xm X a) (xr X a)) (by rw [wl_get ha, cnt_obj hka h4]) h1 j hj (g.hG _ w) (fun x hx => by rw [hd] at hx; exact hx) hfin (ty := .int) (v := .int v) (by rw [hty]; rfl) rfl rfl (by rw [vfld_len, h3]; exact hj) d ?_
    intro H1 locs1 hP hD hS
    rw [wl_sm hka h4 (by rw [h3]; exact hj) hr] at hP hD
    exact h _ _ _ hk ad H1 locs1 ls cells slots (hw.sm hP hD hS) hl
  · exact hk.elim
theorem s_putIN (g : Good Z cc nL own lv) {c j i : Nat} {C host : String} {T : u_T} {N : Nat} {ty0 : Nat → FieldType} (hc : clsOk c C T N ty0) (hj : j < N) (hr : isR c j = false) (hfin : (T j).2.2.2 = false) (hty : (T j).2.2.1 = "I") (w : Cond.fieldLinkNest own i C (T j).2.1 (T j).2.2.1 host ∈ NL) (hd : (T j).1 = C)
    (d : decode cc pc = .ok (.putfield i, 3)) (h : Snd Z nL (pc + 3) k) : Snd Z nL pc (i_putI c j k) := by
  intro l st X hk ad H locs ls cells slots hw hl
  obtain ⟨h1, h2, h3, h4, h5, h6⟩ := hc
  unfold i_putI at hk
  split at hk
  · next v a r =>
    obtain ⟨ha, hka, hk⟩ := hk
    refine va_putN g.hx g.hb g.hG h2 ty0 h5 h6 g.hown g.hK hw.P hw.D hw.S a (fs := vfld c ad (xm X a) (xr X a)) (by rw [wl_get ha, cnt_obj hka h4]) h1 j hj (va_Nw.use rfl (g.hN _ w)) (fun x hx => by rw [hd] at hx; exact hx) hfin (ty := .int) (v := .int v) (by rw [hty]; rfl) rfl rfl (by rw [vfld_len, h3]; exact hj) d ?_
    intro H1 locs1 hP hD hS
    rw [wl_sm hka h4 (by rw [h3]; exact hj) hr] at hP hD
    exact h _ _ _ hk ad H1 locs1 ls cells slots (hw.sm hP hD hS) hl
  · exact hk.elim
theorem s_putZ (g : Good Z cc nL own lv) {c j i : Nat} {C : String} {T : u_T} {N : Nat} {ty0 : Nat → FieldType} (hc : clsOk c C T N ty0) (hj : j < N) (hr : isR c j = false) (hfin : (T j).2.2.2 = false) (hty : (T j).2.2.1 = "Z") (w : Cond.fieldLink own i C (T j).2.1 (T j).2.2.1 ∈ GL) (hd : (T j).1 = C)
    (d : decode cc pc = .ok (.putfield i, 3)) (h : Snd Z nL (pc + 3) k) : Snd Z nL pc (i_putZ c j k) := by
  intro l st X hk ad H locs ls cells slots hw hl
  obtain ⟨h1, h2, h3, h4, h5, h6⟩ := hc
  unfold i_putZ at hk
  split at hk
  · next v a r =>
    obtain ⟨ha, hka, hv, hk⟩ := hk
    refine va_put g.hx g.hb g.hG h2 ty0 h5 h6 g.hown g.hK hw.P hw.D hw.S a (fs := vfld c ad (xm X a) (xr X a)) (by rw [wl_get ha, cnt_obj hka h4]) h1 j hj (g.hG _ w) (fun x hx => by rw [hd] at hx; exact hx) hfin (ty := .boolean) (v := .int v) (by rw [hty]; rfl) (by rcases hv with rfl | rfl <;> rfl) (by rcases hv with rfl | rfl <;> rfl) (by rw [vfld_len, h3]; exact hj) d ?_
    intro H1 locs1 hP hD hS
    rw [wl_sm hka h4 (by rw [h3]; exact hj) hr] at hP hD
    exact h _ _ _ hk ad H1 locs1 ls cells slots (hw.sm hP hD hS) hl
  · exact hk.elim
theorem s_putZN (g : Good Z cc nL own lv) {c j i : Nat} {C host : String} {T : u_T} {N : Nat} {ty0 : Nat → FieldType} (hc : clsOk c C T N ty0) (hj : j < N) (hr : isR c j = false) (hfin : (T j).2.2.2 = false) (hty : (T j).2.2.1 = "Z") (w : Cond.fieldLinkNest own i C (T j).2.1 (T j).2.2.1 host ∈ NL) (hd : (T j).1 = C)
    (d : decode cc pc = .ok (.putfield i, 3)) (h : Snd Z nL (pc + 3) k) : Snd Z nL pc (i_putZ c j k) := by
  intro l st X hk ad H locs ls cells slots hw hl
  obtain ⟨h1, h2, h3, h4, h5, h6⟩ := hc
  unfold i_putZ at hk
  split at hk
  · next v a r =>
    obtain ⟨ha, hka, hv, hk⟩ := hk
    refine va_putN g.hx g.hb g.hG h2 ty0 h5 h6 g.hown g.hK hw.P hw.D hw.S a (fs := vfld c ad (xm X a) (xr X a)) (by rw [wl_get ha, cnt_obj hka h4]) h1 j hj (va_Nw.use rfl (g.hN _ w)) (fun x hx => by rw [hd] at hx; exact hx) hfin (ty := .boolean) (v := .int v) (by rw [hty]; rfl) (by rcases hv with rfl | rfl <;> rfl) (by rcases hv with rfl | rfl <;> rfl) (by rw [vfld_len, h3]; exact hj) d ?_
    intro H1 locs1 hP hD hS
    rw [wl_sm hka h4 (by rw [h3]; exact hj) hr] at hP hD
    exact h _ _ _ hk ad H1 locs1 ls cells slots (hw.sm hP hD hS) hl
  · exact hk.elim
-- arrays
theorem wl_sa {cy : Nat → ClassId} {ad : Nat → Nat} {X : Mm} {a i : Nat} {v : Int32} (hka : xk X a = 10) : (wl cy ad X).set a (ad a, .inl (cy 0, xl X a, .inl (upd (xm X a) i v))) = wl cy ad (xsm X a i v) := by
  refine wl_set (X := X) (X' := xsm X a i v) rfl ?_ cnt_sm
  have e : xm (xsm X a i v) a = upd (xm X a) i v := by show (if a = a then upd (xm X a) i v else xm X a) = _; rw [if_pos rfl]
  unfold cnt
  rw [e, show xk (xsm X a i v) a = 10 from hka, if_pos rfl]
  rfl
theorem wl_sz {cy : Nat → ClassId} {ad : Nat → Nat} {X : Mm} {a i : Nat} {v : Int32} (hka : xk X a = 11) : (wl cy ad X).set a (ad a, .inl (cy 1, xl X a, .inl (upd (xm X a) i v))) = wl cy ad (xsm X a i v) := by
  refine wl_set (X := X) (X' := xsm X a i v) rfl ?_ cnt_sm
  have e : xm (xsm X a i v) a = upd (xm X a) i v := by show (if a = a then upd (xm X a) i v else xm X a) = _; rw [if_pos rfl]
  unfold cnt
  rw [e, show xk (xsm X a i v) a = 11 from hka, if_neg (by decide), if_pos rfl]
  rfl
theorem cnt_10 {cy : Nat → ClassId} {ad : Nat → Nat} {X : Mm} {a : Nat} (hka : xk X a = 10) : cnt cy ad X a = .inl (cy 0, xl X a, .inl (xm X a)) := by unfold cnt; rw [hka, if_pos rfl]
theorem cnt_11 {cy : Nat → ClassId} {ad : Nat → Nat} {X : Mm} {a : Nat} (hka : xk X a = 11) : cnt cy ad X a = .inl (cy 1, xl X a, .inl (xm X a)) := by unfold cnt; rw [hka, if_neg (by decide), if_pos rfl]
theorem cnt_12 {cy : Nat → ClassId} {ad : Nat → Nat} {X : Mm} {a : Nat} (hka : xk X a = 12) : cnt cy ad X a = .inl (cy 2, xl X a, .inr (.inr (.inr (.inr (fun j => (xr X a j).map ad))))) := by unfold cnt; rw [hka, if_neg (by decide), if_neg (by decide), if_pos rfl]
theorem cnt_13 {cy : Nat → ClassId} {ad : Nat → Nat} {X : Mm} {a : Nat} (hka : xk X a = 13) : cnt cy ad X a = .inl (cy 3, xl X a, .inr (.inr (.inr (.inr (fun j => (xr X a j).map ad))))) := by unfold cnt; rw [hka, if_neg (by decide), if_neg (by decide), if_neg (by decide), if_pos rfl]
theorem s_iald (g : Good Z cc nL own lv) (d : decode cc pc = .ok (.iaload, 1)) (h : Snd Z nL (pc + 1) k) : Snd Z nL pc (i_ald 10 k) := by
  intro l st X hk ad H locs ls cells slots hw hl
  unfold i_ald at hk
  split at hk
  · next i a r =>
    obtain ⟨ha, hka, hi, hk⟩ := hk
    exact va_iald g.hx g.hb g.hK hw.P a 0 (n := xl X a) (f := xm X a) (by rw [wl_get ha, cnt_10 hka]) rfl hi d (h _ _ _ hk ad H locs ls cells slots hw hl)
  · exact hk.elim
theorem s_zald (g : Good Z cc nL own lv) (d : decode cc pc = .ok (.baload, 1)) (h : Snd Z nL (pc + 1) k) : Snd Z nL pc (i_ald 11 k) := by
  intro l st X hk ad H locs ls cells slots hw hl
  unfold i_ald at hk
  split at hk
  · next i a r =>
    obtain ⟨ha, hka, hi, hk⟩ := hk
    exact va_zald g.hx g.hb g.hK hw.P a 1 (n := xl X a) (f := xm X a) (by rw [wl_get ha, cnt_11 hka]) rfl hi d (h _ _ _ hk ad H locs ls cells slots hw hl)
  · exact hk.elim
theorem s_iast (g : Good Z cc nL own lv) (d : decode cc pc = .ok (.iastore, 1)) (h : Snd Z nL (pc + 1) k) : Snd Z nL pc (i_ast k) := by
  intro l st X hk ad H locs ls cells slots hw hl
  unfold i_ast at hk
  split at hk
  · next v i a r =>
    obtain ⟨ha, hka, hi, hk⟩ := hk
    refine va_iast g.hx g.hb g.hK hw.P hw.D hw.S a 0 (n := xl X a) (f := xm X a) (by rw [wl_get ha, cnt_10 hka]) rfl hi d ?_
    intro H1 locs1 hP hD hS
    rw [wl_sa hka] at hP hD
    exact h _ _ _ hk ad H1 locs1 ls cells slots (hw.sm hP hD hS) hl
  · exact hk.elim
theorem nar_z {v : Int32} (h : v = 0 ∨ v = 1) : vp_nar .boolean v = v := by rcases h with rfl | rfl <;> rfl
theorem s_zast (g : Good Z cc nL own lv) (d : decode cc pc = .ok (.bastore, 1)) (h : Snd Z nL (pc + 1) k) : Snd Z nL pc (i_zst k) := by
  intro l st X hk ad H locs ls cells slots hw hl
  unfold i_zst at hk
  split at hk
  · next v i a r =>
    obtain ⟨ha, hka, hi, hv, hk⟩ := hk
    refine va_zast g.hx g.hb g.hK hw.P hw.D hw.S a 1 (n := xl X a) (f := xm X a) (by rw [wl_get ha, cnt_11 hka]) rfl hi d ?_
    intro H1 locs1 hP hD hS
    rw [nar_z hv, wl_sz hka] at hP hD
    exact h _ _ _ hk ad H1 locs1 ls cells slots (hw.sm hP hD hS) hl
  · exact hk.elim
theorem s_aald12 (g : Good Z cc nL own lv) (d : decode cc pc = .ok (.aaload, 1)) (h : Snd Z nL (pc + 1) k) : Snd Z nL pc (i_aald 12 k) := by
  intro l st X hk ad H locs ls cells slots hw hl
  unfold i_aald at hk
  split at hk
  · next i a r =>
    obtain ⟨ha, hka, hi, hk⟩ := hk
    split at hk
    · next b e =>
      refine va_aldq g.hx g.hb g.hK hw.P a 2 (n := xl X a) (f := fun j => (xr X a j).map ad) (by rw [wl_get ha, cnt_12 hka]) rfl hi d ?_
      rw [e]
      exact h _ _ _ hk ad H locs ls cells slots hw hl
    · exact hk.elim
  · exact hk.elim
theorem s_aald13 (g : Good Z cc nL own lv) (d : decode cc pc = .ok (.aaload, 1)) (h : Snd Z nL (pc + 1) k) : Snd Z nL pc (i_aald 13 k) := by
  intro l st X hk ad H locs ls cells slots hw hl
  unfold i_aald at hk
  split at hk
  · next i a r =>
    obtain ⟨ha, hka, hi, hk⟩ := hk
    split at hk
    · next b e =>
      refine va_aldq g.hx g.hb g.hK hw.P a 3 (n := xl X a) (f := fun j => (xr X a j).map ad) (by rw [wl_get ha, cnt_13 hka]) rfl hi d ?_
      rw [e]
      exact h _ _ _ hk ad H locs ls cells slots hw hl
    · exact hk.elim
  · exact hk.elim
theorem s_alen (g : Good Z cc nL own lv) (d : decode cc pc = .ok (.arraylength, 1)) (h : Snd Z nL (pc + 1) k) : Snd Z nL pc (i_alen k) := by
  intro l st X hk ad H locs ls cells slots hw hl
  unfold i_alen at hk
  split at hk
  · next a r =>
    obtain ⟨ha, hka, hk⟩ := hk
    exact va_alen g.hx g.hb g.hK hw.P a 0 (x := (xl X a, .inl (xm X a))) (by rw [wl_get ha, cnt_10 hka]) rfl rfl d (h _ _ _ hk ad H locs ls cells slots hw hl)
  · exact hk.elim
-- loops
def i_loop (ks : List Nat) (F : Kk → Kk) : Kk := fun l st X => ∃ I : Nat → Kk, (∃ n, I n (pickl ks l) st X) ∧ ∀ n l st X, I n l st X → F (fun l st X => ∃ j, j < n ∧ I j (pickl ks l) st X) l st X
theorem s_pick {ks : List Nat} (h : Snd Z nL pc k) : Snd Z nL pc (fun l st X => k (pickl ks l) st X) :=
  fun l st X hk ad H locs ls cells slots hw hl => h _ _ _ hk ad H locs ls cells slots hw (pickl_has ks hl)
theorem s_loop {ks : List Nat} {F : Kk → Kk} (h : ∀ k, Snd Z nL pc k → Snd Z nL pc (F k)) : Snd Z nL pc (i_loop ks F) := by
  intro l st X ⟨I, ⟨n, h0⟩, hs⟩
  have key : ∀ n, Snd Z nL pc (I n) := by
    intro n
    induction n using Nat.strongRecOn with
    | ind n ih =>
      intro l st X hI
      refine h _ ?_ l st X (hs n l st X hI)
      intro l1 st1 X1 ⟨j, hj, hI1⟩
      intro ad H locs ls cells slots hw hl
      exact ih j hj _ _ _ hI1 ad H locs ls cells slots hw (pickl_has ks hl)
  intro ad H locs ls cells slots hw hl
  exact key n _ _ _ h0 ad H locs ls cells slots hw (pickl_has ks hl)
end HeapRows
end
section
/-! From here to the end of this part: the task's own printed laws of exceptions (claim/NAMES.whole.lean.txt), names of the library's Bundle written out. -/
/-! ===== BEGIN exceptions that leave a method, and their catching by the caller (launches without stack traces) ===== -/
section VXA
/-! The laws vx_back, vx_callV, vx_callS, vx_callSW, vx_throw0, vx_throwS follow proofs of the library, with one case more: JvmDerived/Free/Laws.lean (Back.of_free), Shelf42/LK1.lean (callV, callS), Shelf/KitTraced.lean (throwNew0V, throwNewS). -/
/-- where a method has thrown q: the class by its name, the cell, what was written, the world -/
def vx_T (XC : String → State → State → Prop) (st : State) (q : Addr) (t : State) (mc ms : Nat) (free : Addr → Prop) : Prop :=
  ∃ (E : String) (ce : Cell) (L : List Loc), XC E st t ∧ t.heap[q]? = some ce ∧ ce.vm = .none ∧ st.vm.findClass E = some ce.cls ∧ st.WarmedH t.vm ∧ st.sameButNew ({ t with vm := st.vm } : State) L mc ms ∧ ∀ z ∈ L, free z.base
def vx_Q (Qc : Array Value → State → Outcome → State → Prop) (XC : String → State → State → Prop) (mc ms : Nat) (free : Addr → Prop) : Array Value → State → Outcome → State → Prop := fun a st o t =>
  (Qc a st o t ∧ ∃ L, FrameEnd st o t L mc ms ∧ ∀ q ∈ L, free q.base) ∨ ∃ q, o = .threw q ∧ vx_T XC st q t mc ms free
/-- a callee that returns or throws -/
def vx_Met (l : Launch) (y : MethodName) (ws : List Cond) (rm : Room) (Pc : Array Value → State → Prop) (Qc : Array Value → State → Outcome → State → Prop) (XC : String → State → State → Prop) (mc ms : Nat) (free : Addr → Prop) : Prop :=
  MetFree l y (headSpec ws rm) Pc (fun _ _ _ _ _ => True) (vx_Q Qc XC mc ms free)
def vx_Post (XC : String → State → State → Prop) (mc ms : Nat) (free : Addr → Prop) : Pt → Array Value → Addr → Pt → Prop := fun A a q B =>
  ∃ (g : JFrame) (mk : MethodId) (t : State) (L : List Loc) (E : String) (ce : Cell), B.U.heap = t.heap ∧ B.U.vm = t.vm ∧ XC E (A.U.calling g mk a) t ∧ t.heap[q]? = some ce ∧ ce.vm = .none ∧ A.U.vm.findClass E = some ce.cls ∧ B.locs = A.locs ++ L ∧ (∀ z ∈ L, free z.base) ∧ B.cells = A.cells + mc ∧ B.slots = A.slots + ms
def vx_Back (l : Launch) (R : Room) (p : Program) (e : Env) (below : List Frame) (s : State) (sargs : Array Value) (y : MethodName) (len W9 : Nat)
    (Pre : Pt → Array Value → Prop) (Post : Pt → Array Value → Option Value → Pt → Prop) (PostX : Pt → Array Value → Addr → Pt → Prop) : Prop :=
  ∀ (m : MethodId) (meth : Method) (c : Code) (A : Pt) (g : JFrame) (ig : Instr) (mk : MethodId) (a : Array Value),
    Stand p l e R s m sargs below meth c A.U A.locs A.cells A.slots → g.method = m → g.locals.size = c.maxLocals → decode c.code g.pc = .ok (ig, len) →
    2 * g.monitorRoom + (g.stack.map fun v => v.category).sum ≤ W9 → A.U.methodNamed? y = some mk → Pre A a →
    (∃ (v : Option Value) (B : Pt), Stand p l e R s m sargs below meth c B.U B.locs B.cells B.slots ∧ Post A a v B ∧
      Steps p.tables e below (doInvoke e (A.U.setTop g) [] mk a).1 (B.U.setTop { g with pc := g.pc + len, stack := v.toList ++ g.stack })) ∨
    (∃ (q : Addr) (B : Pt), Stand p l e R s m sargs below meth c B.U B.locs B.cells B.slots ∧ PostX A a q B ∧
      Steps p.tables e below (doInvoke e (A.U.setTop g) [] mk a).1 ((B.U.setTop g).pushFrame (.throwing q)))
section Payer
variable {l : Launch} {R : Room} {p : Program} {e : Env} {below : List Frame} {s : State} {sargs : Array Value} {y : MethodName} {len W9 : Nat}
theorem vx_back {ws : List Cond} {rm : Room} {Pc : Array Value → State → Prop} {Qc : Array Value → State → Outcome → State → Prop} {XC : String → State → State → Prop} {mc ms : Nat} {free : Addr → Prop} {bytes : ByteArray} {maxL : Nat} {ret : Option FieldType}
    (hM : vx_Met l y ws rm Pc Qc XC mc ms free) (hblind : FrameBlind Pc) (hrc : rm.cells = mc) (hrs : rm.slots = ms)
    (hframes : rm.frames + 1 ≤ R.frames) (hlocals : W9 + (maxL + 11) + rm.locals ≤ R.locals)
    (hws : ∀ w ∈ ws, ∀ a' U, s.WarmedH U.vm → w.before a' U = true) (hcode : Cond.code y bytes maxL ret ∈ ws) (hinit : ∀ a' U, s.WarmedH U.vm → (Cond.initialized y.cls).before a' U = true) :
    vx_Back l R p e below s sargs y len W9 (PreOf R mc ms Pc) (PostOf Qc mc ms free) (vx_Post XC mc ms free) := by
  intro m meth c A g ig mk a X hg hsize hdg hW hn hp
  have h1 : (headSpec ws rm).pre.before a A.U = true := atoms_intro fun w hw => hws w hw _ _ X.warmed
  have h2 : (Cond.code y bytes maxL ret).before a A.U = true := hws _ hcode _ _ X.warmed
  have h3 : (Cond.initialized y.cls).before a A.U = true := hinit _ _ X.warmed
  have h4 : A.cells + (headSpec ws rm).room.cells ≤ R.cells := by rw [show (headSpec ws rm).room.cells = mc from hrc]; exact hp.1
  have h5 : A.slots + (headSpec ws rm).room.slots ≤ R.slots := by rw [show (headSpec ws rm).room.slots = ms from hrs]; exact hp.2.1
  have hPc : Pc a (A.U.calling g mk a) := hblind _ _ _ _ hp.2.2
  obtain ⟨U, Ls, c0, s0⟩ := A
  dsimp only [Pt.U, Pt.locs, Pt.cells, Pt.slots] at h1 h2 h3 h4 h5 X hn hPc ⊢
  obtain ⟨methY, cY, hmY, hcY, -, hlY, -, -, -, -⟩ := Cond.code_spec hn h2
  obtain ⟨kY, hkY, -⟩ := className_of_methodNamed hn
  have hinitY : kY.init = .initialized := Cond.initialized_spec (findClass_of_methodNamed hn) hkY h3
  have h : At U g.method c below := by rw [hg]; exact X.here
  have hlocals9 : W9 + (maxL + 11) + (headSpec ws rm).room.locals ≤ R.locals := hlocals
  have happ : (headSpec ws rm).appliesLoose y e.platform (U.calling g mk a) = true :=
    Spec.appliesLoose_calling (g := g) h hdg hn hkY hinitY
      (X.room_calling (g := g) (R' := (headSpec ws rm).room) hsize hmY hcY hframes (by rw [hlY]; omega) h4 h5) h1
  obtain ⟨mid, hmid⟩ := h.above
  have hfr : (U.setTop g).frames = (.java g :: mid) ++ below := by rw [State.frames_setTop' g h.top, hmid]; rfl
  obtain ⟨o, s₂, hsteps, -, hend, hq⟩ := Steps.callFree hM p X.admits X.cas X.clock (acts := []) hfr happ hPc trivial
  have hq' : vx_Q Qc XC mc ms free a (U.calling g mk a) o s₂ := hq
  rw [State.frames_setTop' g h.top] at hend
  obtain ⟨g₀, hg0⟩ := Option.isSome_iff_exists.mp h.top
  obtain ⟨r, hr⟩ := State.topJava?_eq_some.mp hg0
  have hr' : (({ U with heap := s₂.heap, slotsUsed := s₂.slotsUsed } : State).setVm s₂.vm).frames = .java g₀ :: r := hr
  rcases hq' with ⟨hqc, L, hfe, hL⟩ | ⟨q, rfl, E, ce, L, hx, hce, hcv, hcl, hW₂, hsm, hL⟩
  · obtain ⟨⟨v, rfl⟩, hW₂, e2, q2, q3, q4, q5, q6⟩ := id hfe
    have e3 : s₂ = ({ (U.calling g mk a).setFrames s₂.frames with heap := s₂.heap, slotsUsed := s₂.slotsUsed } : State).setVm s₂.vm := by
      have : s₂ = ({ s₂ with vm := (U.calling g mk a).vm } : State).setVm s₂.vm := rfl
      rw [e2] at this
      exact this
    obtain ⟨c₂, i₂, len₂, hc₂, hd₂, hf₂⟩ := hend
    have hW' : U.WarmedH s₂.vm := hW₂
    have hcc : c₂ = c := by
      have h1 : s₂.code? g.method = U.code? g.method := by
        rw [State.code?_eq, State.code?_eq, hW'.alike.method?]
      exact Option.some.inj (hc₂.symm.trans (h1.trans h.code))
    subst hcc
    have hlen : len₂ = len := by rw [hdg] at hd₂; cases hd₂; rfl
    subst hlen
    have hs₂ : s₂ = (({ U with heap := s₂.heap, slotsUsed := s₂.slotsUsed } : State).setVm s₂.vm).setTop { g with pc := g.pc + len₂, stack := v.toList ++ g.stack } := by
      refine e3.trans ?_
      rw [hf₂, State.calling_eq h.top, State.setFrames_setFrames, State.setTop_of_frames _ hr', hr]
      rfl
    have hsame : U.sameButNew ({ U with heap := s₂.heap, slotsUsed := s₂.slotsUsed } : State) L mc ms := by
      refine ⟨?_, q2, q3, q4, q5, q6⟩
      obtain ⟨t, ht, -⟩ := State.frames_cons hr
      show ({ U with heap := s₂.heap, slotsUsed := s₂.slotsUsed } : State) = { U.setFrames U.frames with heap := s₂.heap, slotsUsed := s₂.slotsUsed }
      rw [State.setFrames_self ht]
    subst hg
    refine Or.inl ⟨v, ⟨(({ U with heap := s₂.heap, slotsUsed := s₂.slotsUsed } : State).setVm s₂.vm), Ls ++ L, c0 + mc, s0 + ms⟩,
      ⟨X.admits, X.cas, X.clock, X.frames, X.room, X.hears, X.method, X.code, (X.here.setHeapUsed s₂.heap s₂.slotsUsed).setVm hW'.alike, X.tail, State.WarmedH.trans X.warmed hW', X.limits, X.bytes, X.same.trans (hsame.setVm s.vm)⟩,
      ⟨g, mk, s₂, L, rfl, rfl, hqc, rfl, hL, rfl, rfl⟩, ?_⟩
    show Steps p.tables e below _ ((({ U with heap := s₂.heap, slotsUsed := s₂.slotsUsed } : State).setVm s₂.vm).setTop { g with pc := g.pc + len₂, stack := v.toList ++ g.stack })
    rw [← hs₂]
    exact hsteps
  · obtain ⟨e2, q2, q3, q4, q5, q6⟩ := id hsm
    have e3 : s₂ = ({ (U.calling g mk a).setFrames s₂.frames with heap := s₂.heap, slotsUsed := s₂.slotsUsed } : State).setVm s₂.vm := by
      have : s₂ = ({ s₂ with vm := (U.calling g mk a).vm } : State).setVm s₂.vm := rfl
      rw [e2] at this
      exact this
    have hf₂ : s₂.frames = .throwing q :: .java g :: U.frames.tail := hend
    have hW' : U.WarmedH s₂.vm := hW₂
    have hs₂ : s₂ = ((({ U with heap := s₂.heap, slotsUsed := s₂.slotsUsed } : State).setVm s₂.vm).setTop g).pushFrame (.throwing q) := by
      refine e3.trans ?_
      rw [hf₂, State.calling_eq h.top, State.setFrames_setFrames, State.pushFrame, State.frames_setTop _ hr', State.setTop_of_frames _ hr', State.setFrames_setFrames, hr]
      rfl
    have hsame : U.sameButNew ({ U with heap := s₂.heap, slotsUsed := s₂.slotsUsed } : State) L mc ms := by
      refine ⟨?_, q2, q3, q4, q5, q6⟩
      obtain ⟨t, ht, -⟩ := State.frames_cons hr
      show ({ U with heap := s₂.heap, slotsUsed := s₂.slotsUsed } : State) = { U.setFrames U.frames with heap := s₂.heap, slotsUsed := s₂.slotsUsed }
      rw [State.setFrames_self ht]
    subst hg
    refine Or.inr ⟨q, ⟨(({ U with heap := s₂.heap, slotsUsed := s₂.slotsUsed } : State).setVm s₂.vm), Ls ++ L, c0 + mc, s0 + ms⟩,
      ⟨X.admits, X.cas, X.clock, X.frames, X.room, X.hears, X.method, X.code, (X.here.setHeapUsed s₂.heap s₂.slotsUsed).setVm hW'.alike, X.tail, State.WarmedH.trans X.warmed hW', X.limits, X.bytes, X.same.trans (hsame.setVm s.vm)⟩,
      ⟨g, mk, s₂, L, E, ce, rfl, rfl, hx, hce, hcv, hcl, rfl, hL, rfl, rfl⟩, ?_⟩
    show Steps p.tables e below _ (((({ U with heap := s₂.heap, slotsUsed := s₂.slotsUsed } : State).setVm s₂.vm).setTop g).pushFrame (.throwing q))
    rw [← hs₂]
    exact hsteps
end Payer
section Calls
variable {p : Program} {l : Launch} {e : Env} {R : Room} {s : State} {m : MethodId} {args : Array Value} {below : List Frame} {meth : Method} {c : Code} {T : State} {locs : List Loc} {cells slots : Nat}
theorem vx_callV (X : Stand p l e R s m args below meth c T locs cells slots) (hexec : p.tables.exec = Jvm.exec) {own C : String} {index : Nat} {y : MethodName} {bytes : ByteArray} {maxL : Nat} {ret : Option FieldType}
    (hown : s.vm.findClass own = some m.cls) (hlink : (Cond.methodLink own index y).before args s = true) (hinst : (Cond.instanceMethod y).before args s = true) (hsel : (Cond.selects C y y).before args s = true)
    (hcode : (Cond.code y bytes maxL ret).before args s = true) (hy : y.cls ≠ "java/lang/invoke/MethodHandle" ∧ y.cls ≠ "java/lang/invoke/VarHandle")
    {W9 : Nat} {Pre : Pt → Array Value → Prop} {Post : Pt → Array Value → Option Value → Pt → Prop} {PostX : Pt → Array Value → Addr → Pt → Prop} (hK : vx_Back l R p e below s args y 3 W9 Pre Post PostX)
    {b : Addr} {cellB : Cell} (hcell : T.heap[b]? = some cellB) (hobj : cellB.vm.isStatics = false) (hcls : s.vm.findClass C = some cellB.cls)
    {g : JFrame} (hg : g.method = m) (hsize : g.locals.size = c.maxLocals) {argsL rest : List Value} (hlen : ∀ sig, parseMethodDescriptor y.desc = some sig → argsL.length = sig.parameters.length)
    (hstack : g.stack = argsL.reverse ++ .ref b :: rest) (hW : 2 * g.monitorRoom + (rest.map fun v => v.category).sum ≤ W9) (hdg : decode c.code g.pc = .ok (.invokevirtual index, 3))
    (hpre : ∀ vm₁, s.WarmedH vm₁ → Pre ⟨T.setVm vm₁, locs, cells, slots⟩ (Value.ref b :: argsL).toArray) :
    (∃ (v : Option Value) (vm₁ : Vm) (B : Pt), s.WarmedH vm₁ ∧ Stand p l e R s m args below meth c B.U B.locs B.cells B.slots ∧ Post ⟨T.setVm vm₁, locs, cells, slots⟩ (Value.ref b :: argsL).toArray v B ∧
      ∀ target, Steps p.tables e below (B.U.setTop { g with pc := g.pc + 3, stack := v.toList ++ rest }) target → Steps p.tables e below (T.setTop g) target) ∨
    (∃ (q : Addr) (vm₁ : Vm) (B : Pt), s.WarmedH vm₁ ∧ Stand p l e R s m args below meth c B.U B.locs B.cells B.slots ∧ PostX ⟨T.setVm vm₁, locs, cells, slots⟩ (Value.ref b :: argsL).toArray q B ∧
      Steps p.tables e below (T.setTop g) ((B.U.setTop { g with stack := rest }).pushFrame (.throwing q))) := by
  obtain ⟨mk, methM, hnamed, hmethM, hstM, habM⟩ := Cond.instanceMethod_spec hinst
  obtain ⟨methM', cM, hmethM', -, -, -, -, -, -, hsigM⟩ := Cond.code_spec hnamed hcode
  cases hmethM.symm.trans hmethM'
  obtain ⟨c2, r2, m2, q1, q2, q3, q4, kP, hkP, hkPi⟩ := Cond.selects_spec hsel
  cases hcls.symm.trans q1
  cases (State.methodFound?_of_named hnamed hy).symm.trans q2
  cases hnamed.symm.trans q3
  have hselP : selectMethod e.platform s.vm cellB.cls mk = .method mk := by rw [Launch.admits_selectMethod X.admits]; exact q4
  obtain ⟨vm₁, X₁, hstep₁⟩ := X.invokevirtual hexec hown hlink hnamed hmethM hstM hkP hkPi hy (a := b) (cell := cellB) hcell
    (fun z h => by rw [h] at hobj; cases hobj) hselP hmethM habM hkP hkPi (g := g) hg (argsL := argsL) (rest := rest) (hlen _ hsigM) hstack hdg
  rcases hK m meth c ⟨T.setVm vm₁, locs, cells, slots⟩ { g with stack := rest } (.invokevirtual index) mk (Value.ref b :: argsL).toArray X₁ hg hsize hdg hW (X₁.named hnamed) (hpre vm₁ X₁.warmed) with ⟨v, B, X', hpost, hsteps⟩ | ⟨q, B, X', hpost, hsteps⟩
  · exact Or.inl ⟨v, vm₁, B, X₁.warmed, X', hpost, fun target h => hstep₁ _ fun acts => by rw [doInvoke_state]; exact hsteps.trans h⟩
  · exact Or.inr ⟨q, vm₁, B, X₁.warmed, X', hpost, hstep₁ _ fun acts => by rw [doInvoke_state]; exact hsteps⟩
theorem vx_callS (X : Stand p l e R s m args below meth c T locs cells slots) (hexec : p.tables.exec = Jvm.exec) {own : String} {index : Nat} {y : MethodName} {bytes : ByteArray} {maxL : Nat} {ret : Option FieldType}
    (hown : s.vm.findClass own = some m.cls) (hlink : (Cond.methodLink own index y).before args s = true) (hstat : (Cond.static y).before args s = true) (hinit : (Cond.initialized y.cls).before args s = true)
    (hcode : (Cond.code y bytes maxL ret).before args s = true) (hy : y.cls ≠ "java/lang/invoke/MethodHandle" ∧ y.cls ≠ "java/lang/invoke/VarHandle")
    {W9 : Nat} {Pre : Pt → Array Value → Prop} {Post : Pt → Array Value → Option Value → Pt → Prop} {PostX : Pt → Array Value → Addr → Pt → Prop} (hK : vx_Back l R p e below s args y 3 W9 Pre Post PostX)
    {g : JFrame} (hg : g.method = m) (hsize : g.locals.size = c.maxLocals) {argsL rest : List Value} (hlen : ∀ sig, parseMethodDescriptor y.desc = some sig → argsL.length = sig.parameters.length)
    (hstack : g.stack = argsL.reverse ++ rest) (hW : 2 * g.monitorRoom + (rest.map fun v => v.category).sum ≤ W9) (hdg : decode c.code g.pc = .ok (.invokestatic index, 3))
    (hpre : ∀ vm₁, s.WarmedH vm₁ → Pre ⟨T.setVm vm₁, locs, cells, slots⟩ argsL.toArray) :
    (∃ (v : Option Value) (vm₁ : Vm) (B : Pt), s.WarmedH vm₁ ∧ Stand p l e R s m args below meth c B.U B.locs B.cells B.slots ∧ Post ⟨T.setVm vm₁, locs, cells, slots⟩ argsL.toArray v B ∧
      ∀ target, Steps p.tables e below (B.U.setTop { g with pc := g.pc + 3, stack := v.toList ++ rest }) target → Steps p.tables e below (T.setTop g) target) ∨
    (∃ (q : Addr) (vm₁ : Vm) (B : Pt), s.WarmedH vm₁ ∧ Stand p l e R s m args below meth c B.U B.locs B.cells B.slots ∧ PostX ⟨T.setVm vm₁, locs, cells, slots⟩ argsL.toArray q B ∧
      Steps p.tables e below (T.setTop g) ((B.U.setTop { g with stack := rest }).pushFrame (.throwing q))) := by
  obtain ⟨mk, hnamed⟩ := Cond.code_named hcode
  obtain ⟨methM, cM, hmethM, -, -, -, -, -, -, hsigM⟩ := Cond.code_spec hnamed hcode
  have hstatic : methM.isStatic = true := Cond.static_spec hnamed hmethM hstat
  obtain ⟨kP, hkP, -⟩ := className_of_methodNamed hnamed
  have hinitP : kP.init = .initialized := Cond.initialized_spec (findClass_of_methodNamed hnamed) hkP hinit
  obtain ⟨vm₁, X₁, hstep₁⟩ := X.invokestatic hexec hown hlink hnamed hmethM hstatic hkP hinitP hy (g := g) hg (argsL := argsL) (rest := rest) (hlen _ hsigM) hstack hdg
  rcases hK m meth c ⟨T.setVm vm₁, locs, cells, slots⟩ { g with stack := rest } (.invokestatic index) mk argsL.toArray X₁ hg hsize hdg hW (X₁.named hnamed) (hpre vm₁ X₁.warmed) with ⟨v, B, X', hpost, hsteps⟩ | ⟨q, B, X', hpost, hsteps⟩
  · exact Or.inl ⟨v, vm₁, B, X₁.warmed, X', hpost, fun target h => hstep₁ _ fun acts => by rw [doInvoke_state]; exact hsteps.trans h⟩
  · exact Or.inr ⟨q, vm₁, B, X₁.warmed, X', hpost, hstep₁ _ fun acts => by rw [doInvoke_state]; exact hsteps⟩
end Calls
theorem vx_cls {s : State} {T : State} {vm₁ : Vm} {E : String} {k : ClassId} (hW : s.WarmedH vm₁) (h : (T.setVm vm₁).vm.findClass E = some k) : s.vm.findClass E = some k := by
  have h1 : vm₁.findClass E = some k := h
  rw [hW.alike.findClass] at h1
  exact h1
/-- the method's frame g, with q thrown over it -/
def vx_W (p : Program) (l : Launch) (e : Env) (R : Room) (s : State) (m : MethodId) (args : Array Value) (below : List Frame) (meth : Method) (c : Code) (H : Heap) (locs : List Loc) (cells slots : Nat) (Q : State → Prop) (g : JFrame) (q : Addr) : Prop :=
  ∀ T : State, T.heap = H → Stand p l e R s m args below meth c T locs cells slots → ∃ t, Steps p.tables e below ((T.setTop g).pushFrame (.throwing q)) t ∧ Q t
def vx_Run (p : Program) (l : Launch) (e : Env) (R : Room) (s : State) (m : MethodId) (args : Array Value) (below : List Frame) (meth : Method) (c : Code) (H : Heap) (locs : List Loc) (cells slots mc ms : Nat) (g : JFrame) (rest : List Value) (Qa : State → Outcome → State → Prop) (XC : String → State → State → Prop) (free : Addr → Prop) : Prop :=
  ∀ T : State, T.heap = H → Stand p l e R s m args below meth c T locs cells slots →
    (∃ (v : Option Value) (st₀ t T' : State) (L : List Loc), st₀.heap = H ∧ Stand p l e R s m args below meth c T' (locs ++ L) (cells + mc) (slots + ms) ∧ (∀ q ∈ L, free q.base) ∧ T'.heap = t.heap ∧ T'.vm = t.vm ∧ Qa st₀ (.returned v) t ∧
      Goes p e below T g T' { g with pc := g.pc + 3, stack := v.toList ++ rest }) ∨
    (∃ (q : Addr) (st₀ t T' : State) (L : List Loc) (E : String) (ce : Cell), st₀.heap = H ∧ Stand p l e R s m args below meth c T' (locs ++ L) (cells + mc) (slots + ms) ∧ (∀ z ∈ L, free z.base) ∧ T'.heap = t.heap ∧ T'.vm = t.vm ∧ XC E st₀ t ∧ t.heap[q]? = some ce ∧ ce.vm = .none ∧ s.vm.findClass E = some ce.cls ∧
      Steps p.tables e below (T.setTop g) ((T'.setTop { g with stack := rest }).pushFrame (.throwing q)))
def vx_X {S : Type} (px : S → Prop) (B : String → S → State → Prop) (A : Nat → Prop) : String → State → State → Prop := fun E st t => ∃ u : S, px u ∧ B E u t ∧ va_F A st t
section Runs
variable {p : Program} {l : Launch} {e : Env} {R : Room} {s : State} {m : MethodId} {args : Array Value} {below : List Frame} {meth : Method} {c : Code} {H : Heap} {locs : List Loc} {cells slots : Nat}
variable {y : MethodName} {bytes cc : ByteArray} {maxL nL mc ms n index : Nat} {ret : Option FieldType} {ws : List Cond} {rm : Room} {Pc : Array Value → State → Prop} {Qc : Array Value → State → Outcome → State → Prop} {XC : String → State → State → Prop} {free : Addr → Prop} {Ts : List Cond} {own C : String} {b : Addr} {As rest : List Value} {g : JFrame}
theorem vx_callBack (cb : CallB R s args own index y bytes maxL ret ws rm mc ms n) (hM : vx_Met l y ws rm Pc Qc XC mc ms free) (hbl : FrameBlind Pc) : vx_Back l R p e below s args y 3 8 (PreOf R mc ms Pc) (PostOf Qc mc ms free) (vx_Post XC mc ms free) := by
  obtain ⟨hrc, hrs, hfr, hlo, hws, hcw, -, hini, -⟩ := cb
  exact vx_back (bytes := bytes) (maxL := maxL) (ret := ret) hM hbl hrc hrs hfr hlo hws hcw (fun a' U hW => word_at hW (Or.inl (by first | rfl | simp [Cond.onTables, Cond.keeps, Cond.steady])) hini)
theorem vx_runV (S : CallFix p m c cc nL s args Ts own) (hM : vx_Met l y ws rm Pc Qc XC mc ms free) (cw : CallW R s args own C index y bytes maxL ret ws rm mc ms n) (hp : PreV s H C b Pc As)
    (hg : g.method = m) (hn : As.length = n) (hsize : g.locals.size = nL) (hstack : g.stack = As.reverse ++ .ref b :: rest) (hW : 2 * g.monitorRoom + (rest.map fun v => v.category).sum ≤ 8) (hdg : decode cc g.pc = .ok (.invokevirtual index, 3)) (hf : cells + mc ≤ R.cells ∧ slots + ms ≤ R.slots) :
    vx_Run p l e R s m args below meth c H locs cells slots mc ms g rest (Qc (Value.ref b :: As).toArray) XC free := by
  have hK : vx_Back l R p e below s args y 3 8 (PreOf R mc ms Pc) (PostOf Qc mc ms free) (vx_Post XC mc ms free) := vx_callBack cw.1 hM hp.1
  obtain ⟨⟨-, -, -, -, -, -, hcode, -, hy, hlen, hl⟩, hin, hse⟩ := cw
  obtain ⟨hx, hb, hml, ho, -⟩ := S
  obtain ⟨-, ⟨cellB, hcB, hoB, hclB⟩, hPc⟩ := hp
  intro T hT X
  rcases vx_callV X hx (C := C) (bytes := bytes) (maxL := maxL) (ret := ret) ho hl hin hse hcode hy hK (by rw [hT]; exact hcB) hoB hclB hg (hsize.trans hml.symm) (argsL := As) (rest := rest) (fun sig h => hn.trans (hlen sig h)) hstack hW (by rw [hb]; exact hdg)
    (fun vm₁ hW₁ => ⟨hf.1, hf.2, hPc (T.setVm vm₁) hT hW₁⟩) with ⟨v, vm₁, ⟨U', l2, c2, s2⟩, hW₁, X', ⟨g', mk, t, L, e1, e2, hq, h1, hL, h2, h3⟩, st⟩ | ⟨q, vm₁, ⟨U', l2, c2, s2⟩, hW₁, X', ⟨g', mk, t, L, E, ce, e1, e2, hq, hce, hcv, hcl, h1, hL, h2, h3⟩, st⟩
  · dsimp only [Pt.U, Pt.locs, Pt.cells, Pt.slots] at X' e1 e2 h1 h2 h3 st
    subst h1; subst h2; subst h3
    exact Or.inl ⟨v, (T.setVm vm₁).calling g' mk (Value.ref b :: As).toArray, t, U', L, hT, X', hL, e1, e2, hq, st⟩
  · dsimp only [Pt.U, Pt.locs, Pt.cells, Pt.slots] at X' e1 e2 h1 h2 h3 st hcl
    subst h1; subst h2; subst h3
    exact Or.inr ⟨q, (T.setVm vm₁).calling g' mk (Value.ref b :: As).toArray, t, U', L, E, ce, hT, X', hL, e1, e2, hq, hce, hcv, vx_cls hW₁ hcl, st⟩
theorem vx_runS (S : CallFix p m c cc nL s args Ts own) (hM : vx_Met l y ws rm Pc Qc XC mc ms free) (cw : CallB R s args own index y bytes maxL ret ws rm mc ms n ∧ (Cond.static y).before args s = true) (hp : PreS s H Pc As)
    (hg : g.method = m) (hn : As.length = n) (hsize : g.locals.size = nL) (hstack : g.stack = As.reverse ++ rest) (hW : 2 * g.monitorRoom + (rest.map fun v => v.category).sum ≤ 8) (hdg : decode cc g.pc = .ok (.invokestatic index, 3)) (hf : cells + mc ≤ R.cells ∧ slots + ms ≤ R.slots) :
    vx_Run p l e R s m args below meth c H locs cells slots mc ms g rest (Qc As.toArray) XC free := by
  have hK : vx_Back l R p e below s args y 3 8 (PreOf R mc ms Pc) (PostOf Qc mc ms free) (vx_Post XC mc ms free) := vx_callBack cw.1 hM hp.1
  obtain ⟨⟨-, -, -, -, -, -, hcode, hini, hy, hlen, hl⟩, hstt⟩ := cw
  obtain ⟨hx, hb, hml, ho, -⟩ := S
  intro T hT X
  rcases vx_callS X hx (bytes := bytes) (maxL := maxL) (ret := ret) ho hl hstt hini hcode hy hK hg (hsize.trans hml.symm) (argsL := As) (rest := rest) (fun sig h => hn.trans (hlen sig h)) hstack hW (by rw [hb]; exact hdg)
    (fun vm₁ hW₁ => ⟨hf.1, hf.2, hp.2 (T.setVm vm₁) hT hW₁⟩) with ⟨v, vm₁, ⟨U', l2, c2, s2⟩, hW₁, X', ⟨g', mk, t, L, e1, e2, hq, h1, hL, h2, h3⟩, st⟩ | ⟨q, vm₁, ⟨U', l2, c2, s2⟩, hW₁, X', ⟨g', mk, t, L, E, ce, e1, e2, hq, hce, hcv, hcl, h1, hL, h2, h3⟩, st⟩
  · dsimp only [Pt.U, Pt.locs, Pt.cells, Pt.slots] at X' e1 e2 h1 h2 h3 st
    subst h1; subst h2; subst h3
    exact Or.inl ⟨v, (T.setVm vm₁).calling g' mk As.toArray, t, U', L, hT, X', hL, e1, e2, hq, st⟩
  · dsimp only [Pt.U, Pt.locs, Pt.cells, Pt.slots] at X' e1 e2 h1 h2 h3 st hcl
    subst h1; subst h2; subst h3
    exact Or.inr ⟨q, (T.setVm vm₁).calling g' mk As.toArray, t, U', L, E, ce, hT, X', hL, e1, e2, hq, hce, hcv, vx_cls hW₁ hcl, st⟩
end Runs
section Rows
variable {p : Program} {l : Launch} {e : Env} {R : Room} {s : State} {m : MethodId} {args : Array Value} {below : List Frame} {meth : Method} {c : Code} {H : Heap} {locs : List Loc} {cells slots : Nat} {Q : State → Prop}
variable {mc ms : Nat} {free : Addr → Prop} {A0 A1 : Nat → Prop} {H0 : Heap} {a : Array Value} {pc : Nat} {ls : Array Slot} {st0 rest : List Value}
theorem vx_keep {st₀ t T' : State} {L : List Loc} (h0 : st₀.heap = H) (e1 : T'.heap = t.heap) (hS : va_S A0 H0 H locs) (hA : ∀ q, q < H.size → A1 q → A0 q) (hf : ∀ q, free q → A0 q) (hL : ∀ q ∈ L, free q.base) (hF : va_F A1 st₀ t) :
    H.size ≤ T'.heap.size ∧ (∀ q : Nat, q < H.size → ¬ A1 q → T'.heap[q]? = H[q]?) ∧ va_S A0 H0 T'.heap (locs ++ L) := by
  obtain ⟨hz, hk⟩ := hF
  rw [h0] at hz hk
  exact ⟨by rw [e1]; exact hz, fun q h1 h2 => by rw [e1]; exact hk q h1 h2,
    ⟨Nat.le_trans hS.1 (by rw [e1]; exact hz), fun q h1 h2 => by rw [e1, hk q (Nat.lt_of_lt_of_le h1 hS.1) (fun z => h2 (hA q (Nat.lt_of_lt_of_le h1 hS.1) z))]; exact hS.2.1 q h1 h2, fun q hq => by
      rcases List.mem_append.mp hq with h | h
      · exact hS.2.2 q h
      · exact hf _ (hL q h)⟩⟩
theorem vx_calli {S SX : Type} {post : Int32 → S → Prop} {px : SX → Prop} {B : S → State → Prop} {BX : String → SX → State → Prop} {AX : Nat → Prop} (hr : vx_Run p l e R s m args below meth c H locs cells slots mc ms (F0 m pc ls st0) rest (va_Qi post B A1 a) (vx_X px BX AX) free) (hS : va_S A0 H0 H locs) (hA : ∀ q, q < H.size → A1 q → A0 q) (hf : ∀ q, free q → A0 q) (hAX : ∀ q, q < H.size → AX q → A0 q)
    (kx : ∀ (E : String) (ce : Cell) (q9 : Addr) (u : SX) (t : State) (H1 : Heap) (locs1 : List Loc), t.heap = H1 → s.vm.Alike t.vm → px u → BX E u t → H.size ≤ H1.size → (∀ q : Nat, q < H.size → ¬ AX q → H1[q]? = H[q]?) → va_S A0 H0 H1 locs1 → H1[q9]? = some ce → ce.vm = .none → s.vm.findClass E = some ce.cls → vx_W p l e R s m args below meth c H1 locs1 (cells + mc) (slots + ms) Q (F0 m pc ls rest) q9)
    (kk : ∀ (r : Int32) (u : S) (t : State) (H1 : Heap) (locs1 : List Loc), t.heap = H1 → s.vm.Alike t.vm → post r u → B u t → H.size ≤ H1.size → (∀ q : Nat, q < H.size → ¬ A1 q → H1[q]? = H[q]?) → va_S A0 H0 H1 locs1 → W p l e R s m args below meth c H1 locs1 (cells + mc) (slots + ms) Q (F0 m (pc + 3) ls (.int r :: rest))) : W p l e R s m args below meth c H locs cells slots Q (F0 m pc ls st0) := by
  intro T hT X
  rcases hr T hT X with ⟨v, st₀, t, T', L, h0, X', hL, e1, e2, ⟨⟨r, u, hv, hp, hb⟩, hF⟩, st⟩ | ⟨q, st₀, t, T', L, E, ce, h0, X', hL, e1, e2, ⟨u, hp, hb, hF⟩, hce, hcv, hcl, st⟩
  · cases hv
    obtain ⟨k1, k2, k3⟩ := vx_keep h0 e1 hS hA hf hL hF
    obtain ⟨t2, a1, b1⟩ := kk r u t T'.heap (locs ++ L) e1.symm (by rw [← e2]; exact X'.warmed.alike) hp hb k1 k2 k3 T' rfl X'
    exact ⟨t2, st t2 a1, b1⟩
  · obtain ⟨k1, k2, k3⟩ := vx_keep h0 e1 hS hAX hf hL hF
    obtain ⟨t2, a1, b1⟩ := kx E ce q u t T'.heap (locs ++ L) e1.symm (by rw [← e2]; exact X'.warmed.alike) hp hb k1 k2 k3 (by rw [e1]; exact hce) hcv hcl T' rfl X'
    exact ⟨t2, st.trans a1, b1⟩
theorem vx_calll {S SX : Type} {post : Int64 → S → Prop} {px : SX → Prop} {B : S → State → Prop} {BX : String → SX → State → Prop} {AX : Nat → Prop} (hr : vx_Run p l e R s m args below meth c H locs cells slots mc ms (F0 m pc ls st0) rest (va_Ql post B A1 a) (vx_X px BX AX) free) (hS : va_S A0 H0 H locs) (hA : ∀ q, q < H.size → A1 q → A0 q) (hf : ∀ q, free q → A0 q) (hAX : ∀ q, q < H.size → AX q → A0 q)
    (kx : ∀ (E : String) (ce : Cell) (q9 : Addr) (u : SX) (t : State) (H1 : Heap) (locs1 : List Loc), t.heap = H1 → s.vm.Alike t.vm → px u → BX E u t → H.size ≤ H1.size → (∀ q : Nat, q < H.size → ¬ AX q → H1[q]? = H[q]?) → va_S A0 H0 H1 locs1 → H1[q9]? = some ce → ce.vm = .none → s.vm.findClass E = some ce.cls → vx_W p l e R s m args below meth c H1 locs1 (cells + mc) (slots + ms) Q (F0 m pc ls rest) q9)
    (kk : ∀ (r : Int64) (u : S) (t : State) (H1 : Heap) (locs1 : List Loc), t.heap = H1 → s.vm.Alike t.vm → post r u → B u t → H.size ≤ H1.size → (∀ q : Nat, q < H.size → ¬ A1 q → H1[q]? = H[q]?) → va_S A0 H0 H1 locs1 → W p l e R s m args below meth c H1 locs1 (cells + mc) (slots + ms) Q (F0 m (pc + 3) ls (.long r :: rest))) : W p l e R s m args below meth c H locs cells slots Q (F0 m pc ls st0) := by
  intro T hT X
  rcases hr T hT X with ⟨v, st₀, t, T', L, h0, X', hL, e1, e2, ⟨⟨r, u, hv, hp, hb⟩, hF⟩, st⟩ | ⟨q, st₀, t, T', L, E, ce, h0, X', hL, e1, e2, ⟨u, hp, hb, hF⟩, hce, hcv, hcl, st⟩
  · cases hv
    obtain ⟨k1, k2, k3⟩ := vx_keep h0 e1 hS hA hf hL hF
    obtain ⟨t2, a1, b1⟩ := kk r u t T'.heap (locs ++ L) e1.symm (by rw [← e2]; exact X'.warmed.alike) hp hb k1 k2 k3 T' rfl X'
    exact ⟨t2, st t2 a1, b1⟩
  · obtain ⟨k1, k2, k3⟩ := vx_keep h0 e1 hS hAX hf hL hF
    obtain ⟨t2, a1, b1⟩ := kx E ce q u t T'.heap (locs ++ L) e1.symm (by rw [← e2]; exact X'.warmed.alike) hp hb k1 k2 k3 (by rw [e1]; exact hce) hcv hcl T' rfl X'
    exact ⟨t2, st.trans a1, b1⟩
theorem vx_callf {S SX : Type} {post : UInt32 → S → Prop} {px : SX → Prop} {B : S → State → Prop} {BX : String → SX → State → Prop} {AX : Nat → Prop} (hr : vx_Run p l e R s m args below meth c H locs cells slots mc ms (F0 m pc ls st0) rest (va_Qf post B A1 a) (vx_X px BX AX) free) (hS : va_S A0 H0 H locs) (hA : ∀ q, q < H.size → A1 q → A0 q) (hf : ∀ q, free q → A0 q) (hAX : ∀ q, q < H.size → AX q → A0 q)
    (kx : ∀ (E : String) (ce : Cell) (q9 : Addr) (u : SX) (t : State) (H1 : Heap) (locs1 : List Loc), t.heap = H1 → s.vm.Alike t.vm → px u → BX E u t → H.size ≤ H1.size → (∀ q : Nat, q < H.size → ¬ AX q → H1[q]? = H[q]?) → va_S A0 H0 H1 locs1 → H1[q9]? = some ce → ce.vm = .none → s.vm.findClass E = some ce.cls → vx_W p l e R s m args below meth c H1 locs1 (cells + mc) (slots + ms) Q (F0 m pc ls rest) q9)
    (kk : ∀ (r : UInt32) (u : S) (t : State) (H1 : Heap) (locs1 : List Loc), t.heap = H1 → s.vm.Alike t.vm → post r u → B u t → H.size ≤ H1.size → (∀ q : Nat, q < H.size → ¬ A1 q → H1[q]? = H[q]?) → va_S A0 H0 H1 locs1 → W p l e R s m args below meth c H1 locs1 (cells + mc) (slots + ms) Q (F0 m (pc + 3) ls (.float r :: rest))) : W p l e R s m args below meth c H locs cells slots Q (F0 m pc ls st0) := by
  intro T hT X
  rcases hr T hT X with ⟨v, st₀, t, T', L, h0, X', hL, e1, e2, ⟨⟨r, u, hv, hp, hb⟩, hF⟩, st⟩ | ⟨q, st₀, t, T', L, E, ce, h0, X', hL, e1, e2, ⟨u, hp, hb, hF⟩, hce, hcv, hcl, st⟩
  · cases hv
    obtain ⟨k1, k2, k3⟩ := vx_keep h0 e1 hS hA hf hL hF
    obtain ⟨t2, a1, b1⟩ := kk r u t T'.heap (locs ++ L) e1.symm (by rw [← e2]; exact X'.warmed.alike) hp hb k1 k2 k3 T' rfl X'
    exact ⟨t2, st t2 a1, b1⟩
  · obtain ⟨k1, k2, k3⟩ := vx_keep h0 e1 hS hAX hf hL hF
    obtain ⟨t2, a1, b1⟩ := kx E ce q u t T'.heap (locs ++ L) e1.symm (by rw [← e2]; exact X'.warmed.alike) hp hb k1 k2 k3 (by rw [e1]; exact hce) hcv hcl T' rfl X'
    exact ⟨t2, st.trans a1, b1⟩
theorem vx_calld {S SX : Type} {post : UInt64 → S → Prop} {px : SX → Prop} {B : S → State → Prop} {BX : String → SX → State → Prop} {AX : Nat → Prop} (hr : vx_Run p l e R s m args below meth c H locs cells slots mc ms (F0 m pc ls st0) rest (va_Qd post B A1 a) (vx_X px BX AX) free) (hS : va_S A0 H0 H locs) (hA : ∀ q, q < H.size → A1 q → A0 q) (hf : ∀ q, free q → A0 q) (hAX : ∀ q, q < H.size → AX q → A0 q)
    (kx : ∀ (E : String) (ce : Cell) (q9 : Addr) (u : SX) (t : State) (H1 : Heap) (locs1 : List Loc), t.heap = H1 → s.vm.Alike t.vm → px u → BX E u t → H.size ≤ H1.size → (∀ q : Nat, q < H.size → ¬ AX q → H1[q]? = H[q]?) → va_S A0 H0 H1 locs1 → H1[q9]? = some ce → ce.vm = .none → s.vm.findClass E = some ce.cls → vx_W p l e R s m args below meth c H1 locs1 (cells + mc) (slots + ms) Q (F0 m pc ls rest) q9)
    (kk : ∀ (r : UInt64) (u : S) (t : State) (H1 : Heap) (locs1 : List Loc), t.heap = H1 → s.vm.Alike t.vm → post r u → B u t → H.size ≤ H1.size → (∀ q : Nat, q < H.size → ¬ A1 q → H1[q]? = H[q]?) → va_S A0 H0 H1 locs1 → W p l e R s m args below meth c H1 locs1 (cells + mc) (slots + ms) Q (F0 m (pc + 3) ls (.double r :: rest))) : W p l e R s m args below meth c H locs cells slots Q (F0 m pc ls st0) := by
  intro T hT X
  rcases hr T hT X with ⟨v, st₀, t, T', L, h0, X', hL, e1, e2, ⟨⟨r, u, hv, hp, hb⟩, hF⟩, st⟩ | ⟨q, st₀, t, T', L, E, ce, h0, X', hL, e1, e2, ⟨u, hp, hb, hF⟩, hce, hcv, hcl, st⟩
  · cases hv
    obtain ⟨k1, k2, k3⟩ := vx_keep h0 e1 hS hA hf hL hF
    obtain ⟨t2, a1, b1⟩ := kk r u t T'.heap (locs ++ L) e1.symm (by rw [← e2]; exact X'.warmed.alike) hp hb k1 k2 k3 T' rfl X'
    exact ⟨t2, st t2 a1, b1⟩
  · obtain ⟨k1, k2, k3⟩ := vx_keep h0 e1 hS hAX hf hL hF
    obtain ⟨t2, a1, b1⟩ := kx E ce q u t T'.heap (locs ++ L) e1.symm (by rw [← e2]; exact X'.warmed.alike) hp hb k1 k2 k3 (by rw [e1]; exact hce) hcv hcl T' rfl X'
    exact ⟨t2, st.trans a1, b1⟩
theorem vx_callv {S SX : Type} {post : S → Prop} {px : SX → Prop} {B : S → State → Prop} {BX : String → SX → State → Prop} {AX : Nat → Prop} (hr : vx_Run p l e R s m args below meth c H locs cells slots mc ms (F0 m pc ls st0) rest (va_Qv post B A1 a) (vx_X px BX AX) free) (hS : va_S A0 H0 H locs) (hA : ∀ q, q < H.size → A1 q → A0 q) (hf : ∀ q, free q → A0 q) (hAX : ∀ q, q < H.size → AX q → A0 q)
    (kx : ∀ (E : String) (ce : Cell) (q9 : Addr) (u : SX) (t : State) (H1 : Heap) (locs1 : List Loc), t.heap = H1 → s.vm.Alike t.vm → px u → BX E u t → H.size ≤ H1.size → (∀ q : Nat, q < H.size → ¬ AX q → H1[q]? = H[q]?) → va_S A0 H0 H1 locs1 → H1[q9]? = some ce → ce.vm = .none → s.vm.findClass E = some ce.cls → vx_W p l e R s m args below meth c H1 locs1 (cells + mc) (slots + ms) Q (F0 m pc ls rest) q9)
    (kk : ∀ (u : S) (t : State) (H1 : Heap) (locs1 : List Loc), t.heap = H1 → s.vm.Alike t.vm → post u → B u t → H.size ≤ H1.size → (∀ q : Nat, q < H.size → ¬ A1 q → H1[q]? = H[q]?) → va_S A0 H0 H1 locs1 → W p l e R s m args below meth c H1 locs1 (cells + mc) (slots + ms) Q (F0 m (pc + 3) ls (rest))) : W p l e R s m args below meth c H locs cells slots Q (F0 m pc ls st0) := by
  intro T hT X
  rcases hr T hT X with ⟨v, st₀, t, T', L, h0, X', hL, e1, e2, ⟨⟨u, hv, hp, hb⟩, hF⟩, st⟩ | ⟨q, st₀, t, T', L, E, ce, h0, X', hL, e1, e2, ⟨u, hp, hb, hF⟩, hce, hcv, hcl, st⟩
  · cases hv
    obtain ⟨k1, k2, k3⟩ := vx_keep h0 e1 hS hA hf hL hF
    obtain ⟨t2, a1, b1⟩ := kk u t T'.heap (locs ++ L) e1.symm (by rw [← e2]; exact X'.warmed.alike) hp hb k1 k2 k3 T' rfl X'
    exact ⟨t2, st t2 a1, b1⟩
  · obtain ⟨k1, k2, k3⟩ := vx_keep h0 e1 hS hAX hf hL hF
    obtain ⟨t2, a1, b1⟩ := kx E ce q u t T'.heap (locs ++ L) e1.symm (by rw [← e2]; exact X'.warmed.alike) hp hb k1 k2 k3 (by rw [e1]; exact hce) hcv hcl T' rfl X'
    exact ⟨t2, st.trans a1, b1⟩
/-- caught by the row x of this method's table; the rows ahead don't take it -/
theorem vx_catch {own name : String} {E : String} {ce : Cell} {q : Addr} (hown : s.vm.findClass own = some m.cls) (pre : List ExceptionTableEntry) (x : ExceptionTableEntry) (suf : List ExceptionTableEntry) (hsplit : c.exceptionTable.toList = pre ++ x :: suf)
    (hpass : ∀ z ∈ pre, covers z pc = false ∨ (z.catchType ≠ 0 ∧ ∃ nm : String, (Cond.classLink own z.catchType nm).before args s = true ∧ va_Nc E nm s)) (hx : covers x pc = true) (h0 : x.catchType ≠ 0)
    (hlink : (Cond.classLink own x.catchType name).before args s = true) (hcast : (Cond.castable E name).before args s = true) (hcell : H[q]? = some ce) (hv : ce.vm = .none) (hcl : s.vm.findClass E = some ce.cls)
    (kk : W p l e R s m args below meth c H locs cells slots Q (F0 m x.handlerPc ls [.ref q])) : vx_W p l e R s m args below meth c H locs cells slots Q (F0 m pc ls rest) q := by
  intro T hT X
  have hpl : e.platform.magicAccessors = ({} : Platform).magicAccessors := by rw [X.admits.platform]
  obtain ⟨c3, c4, hc3, hc4, hasg⟩ := Cond.castable_spec hcast
  cases Option.some.inj (hc3.symm.trans hcl)
  obtain ⟨c5, hc5, hcl5⟩ := Cond.classLink_spec hown hlink e.platform hpl
  cases Option.some.inj (hc4.symm.trans hc5)
  obtain ⟨vm', X', st⟩ := X.thenCaughtThrough q (g := F0 m pc ls rest) rfl (Steps.refl _) (by rw [hT]; exact hcell) (by rw [hv]; rfl) (by obtain ⟨k9, h9, -⟩ := Vm.findClass_spec hcl; exact ⟨k9, h9⟩) pre x suf hsplit
    (fun z hz => by
      rcases hpass z hz with h | ⟨hz0, nm, hl1, hn1⟩
      · exact Or.inl h
      · obtain ⟨c6, hc6, hcl6⟩ := Cond.classLink_spec hown hl1 e.platform hpl
        obtain ⟨a8, b8, h1, h2, h3⟩ := hn1
        cases Option.some.inj (h1.symm.trans hcl)
        cases Option.some.inj (h2.symm.trans hc6)
        exact Or.inr ⟨hz0, _, hcl6, h3⟩) hx (Or.inr ⟨h0, c4, hcl5, hasg⟩)
  obtain ⟨t, a1, b1⟩ := kk (T.setVm vm') hT X'
  exact ⟨t, st.trans a1, b1⟩
end Rows
section Ends
variable {p : Program} {l : Launch} {e : Env} {R : Room} {s : State} {m : MethodId} {args : Array Value} {below : List Frame} {meth : Method} {c : Code} {H : Heap} {locs : List Loc} {cells slots : Nat} {Q : State → Prop}
variable {mc ms : Nat} {free : Addr → Prop} {A0 A1 : Nat → Prop} {H0 : Heap} {a : Array Value} {ls : Array Slot} {st0 rest : List Value}
variable {Qc : Array Value → State → Outcome → State → Prop} {XC : String → State → State → Prop}
/-- what a body that may throw owes at its end -/
def vx_MQ (below : List Frame) (Qc : Array Value → State → Outcome → State → Prop) (XC : String → State → State → Prop) (a : Array Value) (s : State) (mc ms : Nat) (free : Addr → Prop) : State → Prop := fun t =>
  ∃ o, t.status = .running ∧ Ended t below o ∧ vx_Q Qc XC mc ms free a s o t
theorem vx_ret {g : JFrame} {mc ms : Nat} (k : W p l e R s m args below meth c H locs cells slots (MQ below Qc args s mc ms free) g) : W p l e R s m args below meth c H locs cells slots (vx_MQ below Qc XC args s mc ms free) g := by
  intro T hT X
  obtain ⟨t, a1, o, b1, b2, b3, b4⟩ := k T hT X
  exact ⟨t, a1, o, b1, b2, Or.inl ⟨b3, b4⟩⟩
/-- not caught here: it goes on to the caller -/
theorem vx_widen {g : JFrame} {q : Addr} {k n : Nat} (h1 : cells ≤ k) (h2 : slots ≤ n) (kk : vx_W p l e R s m args below meth c H locs k n Q g q) : vx_W p l e R s m args below meth c H locs cells slots Q g q := fun T hT X => kk T hT (stand_widen X h1 h2)
theorem vx_out {pc : Nat} {E : String} {ce : Cell} {q : Addr} {mc ms : Nat} (hout : ∀ x ∈ c.exceptionTable.toList, covers x pc = false) (hlocks : meth.locks = false) (hcell : H[q]? = some ce) (hv : ce.vm = .none) (hcl : s.vm.findClass E = some ce.cls)
    (hx : ∀ t : State, t.heap = H → s.vm.Alike t.vm → XC E s t) (hf : ∀ z ∈ locs, free z.base) (hc : cells ≤ mc) (hs : slots ≤ ms) :
    vx_W p l e R s m args below meth c H locs cells slots (vx_MQ below Qc XC args s mc ms free) (F0 m pc ls rest) q := by
  intro T hT X
  obtain ⟨st1, hrun, hend, hW, hsm⟩ := X.leaveThrown q (g := F0 m pc ls rest) rfl rfl rfl hout hlocks
  have hcell9 : (T.setFrames (.throwing q :: below)).heap[q]? = some ce := by
    show T.heap[q]? = some ce
    rw [hT]; exact hcell
  exact ⟨_, st1, .threw q, hrun, hend, Or.inr ⟨q, rfl, E, ce, locs, hx _ hT hW.alike, hcell9, hv, hcl, hW, hsm.mono hc hs, hf⟩⟩
theorem vx_frame {U : State} {k n : Nat} (h : s.sameButNew ({ U with vm := s.vm } : State) locs k n) : s.heap.size ≤ U.heap.size ∧ ∀ q : Nat, q < s.heap.size → (∀ z ∈ locs, z.base ≠ q) → U.heap[q]? = s.heap[q]? := by
  obtain ⟨-, h2, -, -, -, h6⟩ := h
  refine ⟨h2, fun q hq hz => ?_⟩
  obtain ⟨c9, e1, e2, e3, e4⟩ := h6 q _ (Array.getElem?_eq_getElem hq)
  have hs : c9.slots = (s.heap[q]).slots := Array.ext_getElem? fun i => e4 i fun hm => hz _ hm rfl
  have h9 : c9 = s.heap[q] := by
    rw [hs] at e2
    exact e2
  have e5 : U.heap[q]? = some c9 := e1
  rw [e5, h9, Array.getElem?_eq_getElem hq]
/-- the words of a throw but the four that speak of the heap -/
def vx_no (w : Cond) : Bool := decide (w ≠ .isRef (.static Bundle.tN "UNASSIGNED_STACK" Bundle.steD)) && decide (w ≠ .isRef (.static Bundle.tN "SUPPRESSED_SENTINEL" Bundle.listD)) && decide (w ≠ .laysStatic Bundle.tN "UNASSIGNED_STACK" Bundle.steD) && decide (w ≠ .laysStatic Bundle.tN "SUPPRESSED_SENTINEL" Bundle.listD)
def vx_at0 (own : String) (ic : Nat) (X : String) (names : List String) : List Cond := (Bundle.ownAtoms0 own ic X names).filter vx_no
def vx_atS (own : String) (ic : Nat) (X : String) (names : List String) : List Cond := (Bundle.ownAtoms own ic X names).filter vx_no
/-- a word that the tables alone decide, or a good one -/
def vx_ot (w : Cond) : Bool := w.onTables || goodWord w
theorem vx_ot_at {args a' : Array Value} {s U : State} {w : Cond} (hW : s.WarmedH U.vm) (hvm : s.vm = U.vm) (hg : vx_ot w = true) (h : w.before args s = true) : w.before a' U = true := by
  simp only [vx_ot, Bool.or_eq_true] at hg
  rcases hg with hg | hg
  · exact va_tabs hg hvm h
  · exact word_at hW (good_of_word hg) h
/-- a list's words: the good ones out of the method's own list, the others by premises of their own -/
theorem vx_hat {args : Array Value} {s : State} {L B : List Cond} (h1 : ∀ w ∈ L.filter goodWord, w.before args s = true) (h2 : ∀ w ∈ L.filter (fun w => !goodWord w), w ∈ B) (h3 : ∀ w ∈ B, w.before args s = true) : ∀ w ∈ L, w.before args s = true := by
  intro w hw
  by_cases g : goodWord w = true
  · exact h1 w (List.mem_filter.mpr ⟨hw, g⟩)
  · refine h3 w (h2 w (List.mem_filter.mpr ⟨hw, ?_⟩))
    show (!goodWord w) = true
    cases hgw : goodWord w
    · rfl
    · exact absurd hgw g
theorem vx_c {args : Array Value} {s : State} {w : Cond} {B : List Cond} (h : w.before args s = true) (t : ∀ w ∈ B, w.before args s = true) : ∀ w' ∈ w :: B, w'.before args s = true := fun w' h' => (List.mem_cons.mp h').elim (fun e => by rw [e]; exact h) (t w')
theorem vx_n {args : Array Value} {s : State} : ∀ w ∈ ([] : List Cond), w.before args s = true := fun _ h => nomatch h
theorem vx_own {args : Array Value} {s : State} {L : List Cond} (h1 : ∀ w ∈ L.filter vx_no, w.before args s = true)
    (hU : (Cond.isRef (.static Bundle.tN "UNASSIGNED_STACK" Bundle.steD)).before args s = true) (hN : (Cond.isRef (.static Bundle.tN "SUPPRESSED_SENTINEL" Bundle.listD)).before args s = true)
    (lU : (Cond.laysStatic Bundle.tN "UNASSIGNED_STACK" Bundle.steD).before args s = true) (lN : (Cond.laysStatic Bundle.tN "SUPPRESSED_SENTINEL" Bundle.listD).before args s = true) : ∀ w ∈ L, w.before args s = true := by
  intro w hw
  by_cases e1 : w = .isRef (.static Bundle.tN "UNASSIGNED_STACK" Bundle.steD)
  · rw [e1]; exact hU
  · by_cases e2 : w = .isRef (.static Bundle.tN "SUPPRESSED_SENTINEL" Bundle.listD)
    · rw [e2]; exact hN
    · by_cases e3 : w = .laysStatic Bundle.tN "UNASSIGNED_STACK" Bundle.steD
      · rw [e3]; exact lU
      · by_cases e4 : w = .laysStatic Bundle.tN "SUPPRESSED_SENTINEL" Bundle.listD
        · rw [e4]; exact lN
        · exact h1 w (List.mem_filter.mpr ⟨hw, by unfold vx_no; rw [decide_eq_true e1, decide_eq_true e2, decide_eq_true e3, decide_eq_true e4]; rfl⟩)
/-- where a static field lies, its class's statics cell in H -/
def vx_L (C n d : String) (A : Nat → Prop) (U : State) (H : Heap) : Prop := ∃ (c : ClassId) (k : Class) (i : Nat) (f : Field) (a : Nat) (cell : Cell), U.vm.findClass C = some c ∧ U.fieldFound? C n d = some (c, k, i, f) ∧ f.isStatic = true ∧ k.statics = some a ∧ H[a]? = some cell ∧ cell.vm.isStatics = true ∧ cell.cls = c ∧ f.slot < cell.slots.size ∧ k.staticTypes[f.slot]? = some f.type ∧ ¬ A a
theorem vx_L.moved {C n d : String} {A : Nat → Prop} {u U : State} {H : Heap} (hvm : u.vm.Alike U.vm) (h : vx_L C n d A u H) : vx_L C n d A U H := by
  obtain ⟨c, k, i, f, a, cell, h1, h2, h3, h4, h5, h6, h7, h8, h9, h10⟩ := h
  obtain ⟨k', hi', he⟩ := State.fieldFound?_setVm hvm h2
  exact ⟨c, k', i, f, a, cell, by rw [hvm.findClass]; exact h1, hi', h3, by rw [he]; exact h4, h5, h6, h7, h8, by rw [he]; exact h9, h10⟩
theorem vx_L.kept {C n d : String} {A : Nat → Prop} {U : State} {H H1 : Heap} (h : vx_L C n d A U H) (hq : ∀ a : Nat, a < H.size → ¬ A a → H1[a]? = H[a]?) : vx_L C n d A U H1 := by
  obtain ⟨c, k, i, f, a, cell, h1, h2, h3, h4, h5, h6, h7, h8, h9, h10⟩ := h
  exact ⟨c, k, i, f, a, cell, h1, h2, h3, h4, by rw [hq a (Array.getElem?_eq_some_iff.mp h5).1 h10]; exact h5, h6, h7, h8, h9, h10⟩
theorem vx_L.narrow {C n d : String} {A B : Nat → Prop} {U : State} {H : Heap} (h : vx_L C n d A U H) (hAB : ∀ q, B q → A q) : vx_L C n d B U H := by
  obtain ⟨c, k, i, f, a, cell, h1, h2, h3, h4, h5, h6, h7, h8, h9, h10⟩ := h
  exact ⟨c, k, i, f, a, cell, h1, h2, h3, h4, h5, h6, h7, h8, h9, fun z => h10 (hAB _ z)⟩
theorem vx_L.word {C n d : String} {A : Nat → Prop} {s : State} {args : Array Value} (h : vx_L C n d A s s.heap) : (Cond.laysStatic C n d).before args s = true := by
  obtain ⟨c, k, i, f, a, cell, h1, h2, h3, h4, h5, h6, h7, h8, h9, -⟩ := h
  show (Cond.laysStatic C n d).holds args s none s [] = true
  exact Cond.laysStatic_of h1 h2 h3 h4 h5 h6 h7 h8 h9
/-- .. and what it holds: null or some reference -/
def vx_Zq (C n d : String) (A : Nat → Prop) (U : State) (H : Heap) : Prop := va_Zq C n d A U H ∧ vx_L C n d A U H
theorem vx_Zq.moved {C n d : String} {A : Nat → Prop} {u U : State} {H : Heap} (hvm : u.vm.Alike U.vm) (h : vx_Zq C n d A u H) : vx_Zq C n d A U H := ⟨va_Zq.moved hvm h.1, vx_L.moved hvm h.2⟩
theorem vx_Zq.kept {C n d : String} {A : Nat → Prop} {U : State} {H H1 : Heap} (h : vx_Zq C n d A U H) (hq : ∀ a : Nat, a < H.size → ¬ A a → H1[a]? = H[a]?) : vx_Zq C n d A U H1 := ⟨va_Zq.kept h.1 hq, vx_L.kept h.2 hq⟩
theorem vx_Zq.narrow {C n d : String} {A B : Nat → Prop} {U : State} {H : Heap} (h : vx_Zq C n d A U H) (hAB : ∀ q, B q → A q) : vx_Zq C n d B U H := ⟨va_Zq.narrow h.1 hAB, vx_L.narrow h.2 hAB⟩
theorem vx_Zqof {args : Array Value} {s : State} {C n d : String} {A : Nat → Prop} (hl : (Cond.laysStatic C n d).before args s = true) (hini : (Cond.initialized C).before args s = true) (h : (Cond.isRef (.static C n d)).before args s = true) (hA : ∀ a : Nat, a < s.heap.size → ¬ A a) : vx_Zq C n d A s s.heap := by
  refine ⟨va_Zqof hl hini h hA, ?_⟩
  obtain ⟨c, k, i, f, a, cell, h1, h2, h3, h4, h5, h6, h7, h8, h9⟩ := Cond.laysStatic_spec hl
  exact ⟨c, k, i, f, a, cell, h1, h2, h3, h4, h5, h6, h7, h8, h9, hA a (Array.getElem?_eq_some_iff.mp h5).1⟩
theorem vx_isRef {C n d : String} {v : Value} {A : Nat → Prop} {s : State} {args : Array Value} (h : va_Z C n d v A s s.heap) (hv : v.isRef = true) : (Cond.isRef (.static C n d)).before args s = true := by
  obtain ⟨cf, kf, fi, f, a, cell, h1, h2, h3, h4, h5, h6, h7, -⟩ := h
  have he : (Term.static C n d).eval args s none [] s = some v := by
    simp [Term.eval, State.fieldNamed?, h1, h2, h4, h5, h6, h7]
  simp only [Cond.before, Cond.holds, Cond.value, he]
  cases v <;> simp_all [Value.isRef]
theorem vx_isRefq {C n d : String} {A : Nat → Prop} {s : State} {args : Array Value} (h : va_Zq C n d A s s.heap) : (Cond.isRef (.static C n d)).before args s = true := by
  rcases h with h | ⟨t, h⟩
  · exact vx_isRef h rfl
  · exact vx_isRef h rfl
/-- the same frame, seen from here: as if the method were called anew in this heap -/
theorem vx_rebase {T : State} (X : Stand p l e R s m args below meth c T locs cells slots) {R' : Room} (hf : R'.frames ≤ R.frames) (hl : R'.locals ≤ R.locals) (hc : cells + R'.cells ≤ R.cells) (hs : slots + R'.slots ≤ R.slots) :
    Stand p l e R' ((T.setVm s.vm).setFrames (.invoking m args :: below)) m args below meth c T [] 0 0 := by
  have htop : (T.setVm s.vm).topJava?.isSome := X.here.top
  have hF : ((T.setVm s.vm).setFrames (.invoking m args :: below)).frames = .invoking m args :: below := State.frames_setFrames _ (State.cur_lt_of_top htop)
  obtain ⟨g₀, hg0⟩ := Option.isSome_iff_exists.mp htop
  obtain ⟨r, hr⟩ := State.topJava?_eq_some.mp hg0
  have hl9 : e.platform.stackLimits (T.setVm s.vm).me = e.platform.stackLimits s.me := X.limits
  have hb9 : (T.setVm s.vm).me.stackBytes = s.me.stackBytes := X.bytes
  refine ⟨X.admits, X.cas, X.clock, hF, ?_, X.hears, X.method, X.code, X.here, X.tail, X.warmed, ?_, ?_, ?_⟩
  · have h := X.room
    have hU : ((T.setVm s.vm).setFrames (.invoking m args :: below)).localsInUse = s.localsInUse := by
      rw [State.localsInUse_invoking hF (meth := meth) (c := c) X.method X.code, State.localsInUse_invoking X.frames X.method X.code]
    simp only [State.hasRoom, Bool.and_eq_true, decide_eq_true_eq] at h ⊢
    obtain ⟨⟨⟨⟨h1, h2, h3, h4, h5, h6⟩, h7⟩, h8⟩, h9⟩ := h
    rw [X.frames, List.length_cons] at h2 h3
    have q1 := X.heapSize
    have q2 := X.used
    simp only [hF, hU, List.length_cons, State.stackLimits_setFrames, State.stackBytes_setFrames, hl9, hb9]
    refine ⟨⟨⟨⟨by omega, by omega, by omega, by omega, by omega, h6⟩, ?_⟩, ?_⟩, X.book⟩
    · show T.heap.size + R'.cells ≤ e.platform.maxCells
      omega
    · show T.slotsUsed + R'.slots ≤ e.platform.maxSlots
      omega
  · rw [State.stackLimits_setFrames]; rfl
  · rw [State.stackBytes_setFrames]; rfl
  · refine ⟨?_, Nat.le_refl _, Nat.le_refl _, ?_, ?_, fun a c9 h9 => ⟨c9, h9, rfl, rfl, fun _ _ => rfl⟩⟩
    · obtain ⟨t, ht, -⟩ := State.frames_cons hr
      show T.setVm s.vm = { ((T.setVm s.vm).setFrames (.invoking m args :: below)).setFrames (T.setVm s.vm).frames with heap := T.heap, slotsUsed := T.slotsUsed }
      rw [State.setFrames_setFrames, State.setFrames_self ht]
      rfl
    · show T.slotsUsed = T.slotsUsed + ((T.heap.toList.drop T.heap.size).map (·.slots.size)).sum
      rw [List.drop_eq_nil_of_le (Nat.le_of_eq Array.length_toList)]
      rfl
    · show ((T.heap.toList.drop T.heap.size).map (·.slots.size)).sum ≤ 0
      rw [List.drop_eq_nil_of_le (Nat.le_of_eq Array.length_toList)]
      exact Nat.le_refl _
/-- 'throw new E()': new; dup; invokespecial; athrow -/
theorem vx_throw0 {cc : ByteArray} {pc : Nat} (hexec : p.tables.exec = Jvm.exec) (hb : c.code = cc) (hl : l.stackTraces = false) {own cls : String} {names : List String} {ik ic mc ms : Nat} {A : Nat → Prop}
    (hown : s.vm.findClass own = some m.cls) (hcls : Bundle.fit cls = true) (hnames : ∀ n ∈ names, Bundle.fit n = true)
    (hk : (Cond.classLink own ik cls).before args s = true) (hini : (Cond.initialized cls).before args s = true) (hat : ∀ w ∈ vx_at0 own ic cls names, w.before args s = true)
    (hgood : ∀ w ∈ Cond.classLink own ik cls :: Cond.initialized cls :: vx_at0 own ic cls names, vx_ot w = true)
    (hU : vx_Zq Bundle.tN "UNASSIGNED_STACK" Bundle.steD A s s.heap) (hN : vx_Zq Bundle.tN "SUPPRESSED_SENTINEL" Bundle.listD A s s.heap) (hS : va_S A s.heap H locs) (hsize : ls.size = c.maxLocals)
    (d0 : decode cc pc = .ok (.new ik, 3)) (d3 : decode cc (pc + 3) = .ok (.dup, 1)) (d4 : decode cc (pc + 4) = .ok (.invokespecial ic, 3)) (d7 : decode cc (pc + 7) = .ok (.athrow, 1))
    (hout : ∀ x ∈ c.exceptionTable.toList, covers x (pc + 7) = false)
    (hRframes : names.length + 3 < R.frames) (hRlocals : (rest.map fun v => v.category).sum + (13 * (names.length + 1) + 42) ≤ R.locals) (hRcells : cells + 1 ≤ R.cells) (hRslots : slots + 6 ≤ R.slots) (hlocks : meth.locks = false)
    (hx : ∀ t : State, s.vm.Alike t.vm → H.size ≤ t.heap.size → (∀ q : Nat, q < H.size → t.heap[q]? = H[q]?) → XC cls s t)
    (hf : ∀ z ∈ locs, free z.base) (hc : cells + 1 ≤ mc) (hs : slots + 6 ≤ ms) :
    W p l e R s m args below meth c H locs cells slots (vx_MQ below Qc XC args s mc ms free) (F0 m pc ls rest) := by
  intro T hT X
  have htr : e.platform.stackTraces = false := (show e.platform.stackTraces = l.stackTraces by rw [X.admits.platform]).trans hl
  have Y := vx_rebase X (R' := { frames := R.frames, locals := R.locals, cells := 1, slots := 6 }) (Nat.le_refl _) (Nat.le_refl _) hRcells hRslots
  obtain ⟨s', hA⟩ : ∃ z, z = (T.setVm s.vm).setFrames (.invoking m args :: below) := ⟨_, rfl⟩
  rw [← hA] at Y
  have hvm : s'.vm = s.vm := by rw [hA]; rfl
  have hhp : s'.heap = H := by rw [hA]; exact hT
  have hW0 : s.WarmedH s'.vm := by rw [hvm]; exact State.WarmedH.refl s
  have hat' : ∀ w ∈ vx_at0 own ic cls names, w.before args s' = true := fun w hw => vx_ot_at hW0 hvm.symm (hgood w (List.mem_cons_of_mem _ (List.mem_cons_of_mem _ hw))) (hat w hw)
  have hk' : (Cond.classLink own ik cls).before args s' = true := vx_ot_at hW0 hvm.symm (hgood _ List.mem_cons_self) hk
  have hini' : (Cond.initialized cls).before args s' = true := vx_ot_at hW0 hvm.symm (hgood _ (List.mem_cons_of_mem _ List.mem_cons_self)) hini
  have hU' : vx_Zq Bundle.tN "UNASSIGNED_STACK" Bundle.steD A s' s'.heap := by rw [hhp]; exact vx_Zq.moved hW0.alike (hU.kept hS.2.1)
  have hN' : vx_Zq Bundle.tN "SUPPRESSED_SENTINEL" Bundle.listD A s' s'.heap := by rw [hhp]; exact vx_Zq.moved hW0.alike (hN.kept hS.2.1)
  have h : ∀ w ∈ Bundle.ownAtoms0 own ic cls names, w.before args s' = true := vx_own hat' (vx_isRefq hU'.1) (vx_isRefq hN'.1) hU'.2.word hN'.2.word
  have hown' : s'.vm.findClass own = some m.cls := by rw [hvm]; exact hown
  have hins : (Cond.instantiable cls 6).before args s' = true := h _ (by simp [Bundle.ownAtoms0])
  obtain ⟨vm₁, cX, kX, hfX, hkX, -, -, X₁, st1⟩ := Y.newCold hexec (own := own) (C := cls) (index := ik) (n := 6) hown' hk' hins hini'
    (g := F0 m pc ls rest) rfl (by rw [hb]; exact d0) (Nat.le_refl _) (Nat.le_refl _)
  generalize hT1 : (T.setVm vm₁).pushCell { cls := cX, slots := kX.instanceTypes.map defaultValue, vm := .none } = T1 at X₁ st1
  have hcat : (Value.ref T.heap.size).category = 1 := rfl
  have hcellA : T1.heap[T.heap.size]? = some (freshCell cX kX) := by rw [← hT1]; exact State.heap_pushCell_size _ _
  have d3' : decode c.code (pc + 3) = .ok (.dup, 1) := by rw [hb]; exact d3
  obtain ⟨U, hsteps, hrun, hend, hW, hsame, ce, hce, hO⟩ := X₁.ctorThrow0 hexec htr (own := own) (cls := cls) (names := names) (ic := ic) hown' hcls hnames h (fun x hx => nomatch hx) hfX hkX hcellA (by rw [hhp, hT]; exact Nat.le_refl _)
    (g := { method := m, pc := pc + 4, locals := ls, stack := .ref T.heap.size :: .ref T.heap.size :: rest, locked := none }) rfl hsize rfl rfl (rest := rest) rfl
    (by rw [hb]; exact d4) (by rw [hb]; exact d7) hout hRframes (by simp only [List.map_cons, List.sum_cons, hcat]; omega) hlocks
  obtain ⟨f1, f2⟩ := vx_frame hsame
  rw [hhp] at f1 f2
  have hWs : s.WarmedH U.vm := State.WarmedH.trans hW0 hW
  have hcl : s.vm.findClass cls = some ce.cls := by
    have h9 := hO.cls
    rw [hvm] at h9
    exact h9
  have hall : s.sameButNew ({ U with vm := s.vm } : State) locs mc ms := by
    subst hA
    obtain ⟨e1, e2⟩ := hsame
    rw [State.setFrames_setFrames] at e1
    have h2 : (T.setVm s.vm).sameButNew ({ U with vm := s.vm } : State) [] (0 + 1) (0 + 6) := ⟨e1, e2⟩
    have h3 := X.same.trans h2
    rw [List.append_nil] at h3
    exact h3.mono hc hs
  refine ⟨U, ?_, .threw T.heap.size, hrun, hend, Or.inr ⟨T.heap.size, rfl, cls, ce, locs, hx U hWs.alike f1 (fun q hq => f2 q hq (fun z hz => nomatch hz)), hce, hO.vm, hcl, hWs, hall, hf⟩⟩
  refine st1 _ ?_
  show Steps p.tables e below (T1.setTop { method := m, pc := pc + 3, locals := ls, stack := .ref T.heap.size :: rest, locked := none }) _
  jvm_step X₁.here [X₁.here.top, hexec, d3', Value.category]
  exact hsteps
/-- 'throw new E("text")': new; dup; ldc; invokespecial; athrow -/
theorem vx_throwS {cc : ByteArray} {pc : Nat} (hexec : p.tables.exec = Jvm.exec) (hb : c.code = cc) (hl : l.stackTraces = false) {own cls text : String} {names : List String} {ik is ic mc ms sa : Nat} {A : Nat → Prop}
    (hown : s.vm.findClass own = some m.cls) (hcls : Bundle.fit cls = true) (hnames : ∀ n ∈ names, Bundle.fit n = true)
    (hk : (Cond.classLink own ik cls).before args s = true) (hini : (Cond.initialized cls).before args s = true) (hstr : vk_R own is text sa s) (hat : ∀ w ∈ vx_atS own ic cls names, w.before args s = true)
    (hgood : ∀ w ∈ Cond.classLink own ik cls :: Cond.initialized cls :: vx_atS own ic cls names, vx_ot w = true)
    (hU : vx_Zq Bundle.tN "UNASSIGNED_STACK" Bundle.steD A s s.heap) (hN : vx_Zq Bundle.tN "SUPPRESSED_SENTINEL" Bundle.listD A s s.heap) (hS : va_S A s.heap H locs) (hsize : ls.size = c.maxLocals)
    (d0 : decode cc pc = .ok (.new ik, 3)) (d3 : decode cc (pc + 3) = .ok (.dup, 1)) (d4 : decode cc (pc + 4) = .ok (.ldc is, 2)) (d6 : decode cc (pc + 6) = .ok (.invokespecial ic, 3)) (d9 : decode cc (pc + 9) = .ok (.athrow, 1))
    (hout : ∀ x ∈ c.exceptionTable.toList, covers x (pc + 9) = false)
    (hRframes : names.length + 3 < R.frames) (hRlocals : (rest.map fun v => v.category).sum + (13 * (names.length + 1) + 43) ≤ R.locals) (hRcells : cells + 1 ≤ R.cells) (hRslots : slots + 6 ≤ R.slots) (hlocks : meth.locks = false)
    (hx : ∀ t : State, s.vm.Alike t.vm → H.size ≤ t.heap.size → (∀ q : Nat, q < H.size → t.heap[q]? = H[q]?) → XC cls s t)
    (hf : ∀ z ∈ locs, free z.base) (hc : cells + 1 ≤ mc) (hs : slots + 6 ≤ ms) :
    W p l e R s m args below meth c H locs cells slots (vx_MQ below Qc XC args s mc ms free) (F0 m pc ls rest) := by
  intro T hT X
  have htr : e.platform.stackTraces = false := (show e.platform.stackTraces = l.stackTraces by rw [X.admits.platform]).trans hl
  have Y := vx_rebase X (R' := { frames := R.frames, locals := R.locals, cells := 1, slots := 6 }) (Nat.le_refl _) (Nat.le_refl _) hRcells hRslots
  obtain ⟨s', hA⟩ : ∃ z, z = (T.setVm s.vm).setFrames (.invoking m args :: below) := ⟨_, rfl⟩
  rw [← hA] at Y
  have hvm : s'.vm = s.vm := by rw [hA]; rfl
  have hhp : s'.heap = H := by rw [hA]; exact hT
  have hW0 : s.WarmedH s'.vm := by rw [hvm]; exact State.WarmedH.refl s
  have hat' : ∀ w ∈ vx_atS own ic cls names, w.before args s' = true := fun w hw => vx_ot_at hW0 hvm.symm (hgood w (List.mem_cons_of_mem _ (List.mem_cons_of_mem _ hw))) (hat w hw)
  have hk' : (Cond.classLink own ik cls).before args s' = true := vx_ot_at hW0 hvm.symm (hgood _ List.mem_cons_self) hk
  have hini' : (Cond.initialized cls).before args s' = true := vx_ot_at hW0 hvm.symm (hgood _ (List.mem_cons_of_mem _ List.mem_cons_self)) hini
  have hU' : vx_Zq Bundle.tN "UNASSIGNED_STACK" Bundle.steD A s' s'.heap := by rw [hhp]; exact vx_Zq.moved hW0.alike (hU.kept hS.2.1)
  have hN' : vx_Zq Bundle.tN "SUPPRESSED_SENTINEL" Bundle.listD A s' s'.heap := by rw [hhp]; exact vx_Zq.moved hW0.alike (hN.kept hS.2.1)
  have h : ∀ w ∈ Bundle.ownAtoms own ic cls names, w.before args s' = true := vx_own hat' (vx_isRefq hU'.1) (vx_isRefq hN'.1) hU'.2.word hN'.2.word
  have hown' : s'.vm.findClass own = some m.cls := by rw [hvm]; exact hown
  have hins : (Cond.instantiable cls 6).before args s' = true := h _ (by simp [Bundle.ownAtoms])
  obtain ⟨vm₁, cX, kX, hfX, hkX, -, -, X₁, st1⟩ := Y.newCold hexec (own := own) (C := cls) (index := ik) (n := 6) hown' hk' hins hini'
    (g := F0 m pc ls rest) rfl (by rw [hb]; exact d0) (Nat.le_refl _) (Nat.le_refl _)
  generalize hT1 : (T.setVm vm₁).pushCell { cls := cX, slots := kX.instanceTypes.map defaultValue, vm := .none } = T1 at X₁ st1
  have hcat : (Value.ref T.heap.size).category = 1 := rfl
  have hcellA : T1.heap[T.heap.size]? = some (freshCell cX kX) := by rw [← hT1]; exact State.heap_pushCell_size _ _
  have d3' : decode c.code (pc + 3) = .ok (.dup, 1) := by rw [hb]; exact d3
  have d4' : decode c.code (pc + 4) = .ok (.ldc is, 2) := by rw [hb]; exact d4
  have hstr' : vk_R own is text sa s' := vk_R.warm hW0 hstr
  obtain ⟨U, hsteps, hrun, hend, hW, hsame, ce, hce, hO⟩ := X₁.ctorThrowS hexec htr (own := own) (cls := cls) (names := names) (ic := ic) hown' hcls hnames h (fun x hx => nomatch hx) hfX hkX hcellA (by rw [hhp, hT]; exact Nat.le_refl _) (msg := .ref sa) rfl
    (g := { method := m, pc := pc + 6, locals := ls, stack := .ref sa :: .ref T.heap.size :: .ref T.heap.size :: rest, locked := none }) rfl hsize rfl rfl (rest := rest) rfl
    (by rw [hb]; exact d6) (by rw [hb]; exact d9) hout hRframes (by simp only [List.map_cons, List.sum_cons, hcat]; omega) hlocks
  obtain ⟨f1, f2⟩ := vx_frame hsame
  rw [hhp] at f1 f2
  have hWs : s.WarmedH U.vm := State.WarmedH.trans hW0 hW
  have hcl : s.vm.findClass cls = some ce.cls := by
    have h9 := hO.cls
    rw [hvm] at h9
    exact h9
  have hall : s.sameButNew ({ U with vm := s.vm } : State) locs mc ms := by
    subst hA
    obtain ⟨e1, e2⟩ := hsame
    rw [State.setFrames_setFrames] at e1
    have h2 : (T.setVm s.vm).sameButNew ({ U with vm := s.vm } : State) [] (0 + 1) (0 + 6) := ⟨e1, e2⟩
    have h3 := X.same.trans h2
    rw [List.append_nil] at h3
    exact h3.mono hc hs
  refine ⟨U, ?_, .threw T.heap.size, hrun, hend, Or.inr ⟨T.heap.size, rfl, cls, ce, locs, hx U hWs.alike f1 (fun q hq => f2 q hq (fun z hz => nomatch hz)), hce, hO.vm, hcl, hWs, hall, hf⟩⟩
  refine st1 _ ?_
  show Steps p.tables e below (T1.setTop { method := m, pc := pc + 3, locals := ls, stack := .ref T.heap.size :: rest, locked := none }) _
  jvm_step X₁.here [X₁.here.top, hexec, d3', Value.category]
  exact X₁.ldcString hexec (own := own) (text := text) (index := is) (a := sa) hown' hstr'.1 hstr'.2
    (g := { method := m, pc := pc + 4, locals := ls, stack := .ref T.heap.size :: .ref T.heap.size :: rest, locked := none }) rfl d4' _ hsteps
/-- 'throw new E("text")', the text by a wide index -/
theorem vx_throwSW {cc : ByteArray} {pc : Nat} (hexec : p.tables.exec = Jvm.exec) (hb : c.code = cc) (hl : l.stackTraces = false) {own cls text : String} {names : List String} {ik is ic mc ms sa : Nat} {A : Nat → Prop}
    (hown : s.vm.findClass own = some m.cls) (hcls : Bundle.fit cls = true) (hnames : ∀ n ∈ names, Bundle.fit n = true)
    (hk : (Cond.classLink own ik cls).before args s = true) (hini : (Cond.initialized cls).before args s = true) (hstr : vk_R own is text sa s) (hat : ∀ w ∈ vx_atS own ic cls names, w.before args s = true)
    (hgood : ∀ w ∈ Cond.classLink own ik cls :: Cond.initialized cls :: vx_atS own ic cls names, vx_ot w = true)
    (hU : vx_Zq Bundle.tN "UNASSIGNED_STACK" Bundle.steD A s s.heap) (hN : vx_Zq Bundle.tN "SUPPRESSED_SENTINEL" Bundle.listD A s s.heap) (hS : va_S A s.heap H locs) (hsize : ls.size = c.maxLocals)
    (d0 : decode cc pc = .ok (.new ik, 3)) (d3 : decode cc (pc + 3) = .ok (.dup, 1)) (d4 : decode cc (pc + 4) = .ok (.ldc_w is, 3)) (d7 : decode cc (pc + 7) = .ok (.invokespecial ic, 3)) (d10 : decode cc (pc + 10) = .ok (.athrow, 1))
    (hout : ∀ x ∈ c.exceptionTable.toList, covers x (pc + 10) = false)
    (hRframes : names.length + 3 < R.frames) (hRlocals : (rest.map fun v => v.category).sum + (13 * (names.length + 1) + 43) ≤ R.locals) (hRcells : cells + 1 ≤ R.cells) (hRslots : slots + 6 ≤ R.slots) (hlocks : meth.locks = false)
    (hx : ∀ t : State, s.vm.Alike t.vm → H.size ≤ t.heap.size → (∀ q : Nat, q < H.size → t.heap[q]? = H[q]?) → XC cls s t)
    (hf : ∀ z ∈ locs, free z.base) (hc : cells + 1 ≤ mc) (hs : slots + 6 ≤ ms) :
    W p l e R s m args below meth c H locs cells slots (vx_MQ below Qc XC args s mc ms free) (F0 m pc ls rest) := by
  intro T hT X
  have htr : e.platform.stackTraces = false := (show e.platform.stackTraces = l.stackTraces by rw [X.admits.platform]).trans hl
  have Y := vx_rebase X (R' := { frames := R.frames, locals := R.locals, cells := 1, slots := 6 }) (Nat.le_refl _) (Nat.le_refl _) hRcells hRslots
  obtain ⟨s', hA⟩ : ∃ z, z = (T.setVm s.vm).setFrames (.invoking m args :: below) := ⟨_, rfl⟩
  rw [← hA] at Y
  have hvm : s'.vm = s.vm := by rw [hA]; rfl
  have hhp : s'.heap = H := by rw [hA]; exact hT
  have hW0 : s.WarmedH s'.vm := by rw [hvm]; exact State.WarmedH.refl s
  have hat' : ∀ w ∈ vx_atS own ic cls names, w.before args s' = true := fun w hw => vx_ot_at hW0 hvm.symm (hgood w (List.mem_cons_of_mem _ (List.mem_cons_of_mem _ hw))) (hat w hw)
  have hk' : (Cond.classLink own ik cls).before args s' = true := vx_ot_at hW0 hvm.symm (hgood _ List.mem_cons_self) hk
  have hini' : (Cond.initialized cls).before args s' = true := vx_ot_at hW0 hvm.symm (hgood _ (List.mem_cons_of_mem _ List.mem_cons_self)) hini
  have hU' : vx_Zq Bundle.tN "UNASSIGNED_STACK" Bundle.steD A s' s'.heap := by rw [hhp]; exact vx_Zq.moved hW0.alike (hU.kept hS.2.1)
  have hN' : vx_Zq Bundle.tN "SUPPRESSED_SENTINEL" Bundle.listD A s' s'.heap := by rw [hhp]; exact vx_Zq.moved hW0.alike (hN.kept hS.2.1)
  have h : ∀ w ∈ Bundle.ownAtoms own ic cls names, w.before args s' = true := vx_own hat' (vx_isRefq hU'.1) (vx_isRefq hN'.1) hU'.2.word hN'.2.word
  have hown' : s'.vm.findClass own = some m.cls := by rw [hvm]; exact hown
  have hins : (Cond.instantiable cls 6).before args s' = true := h _ (by simp [Bundle.ownAtoms])
  obtain ⟨vm₁, cX, kX, hfX, hkX, -, -, X₁, st1⟩ := Y.newCold hexec (own := own) (C := cls) (index := ik) (n := 6) hown' hk' hins hini'
    (g := F0 m pc ls rest) rfl (by rw [hb]; exact d0) (Nat.le_refl _) (Nat.le_refl _)
  generalize hT1 : (T.setVm vm₁).pushCell { cls := cX, slots := kX.instanceTypes.map defaultValue, vm := .none } = T1 at X₁ st1
  have hcat : (Value.ref T.heap.size).category = 1 := rfl
  have hcellA : T1.heap[T.heap.size]? = some (freshCell cX kX) := by rw [← hT1]; exact State.heap_pushCell_size _ _
  have d3' : decode c.code (pc + 3) = .ok (.dup, 1) := by rw [hb]; exact d3
  have d4' : decode c.code (pc + 4) = .ok (.ldc_w is, 3) := by rw [hb]; exact d4
  have hstr' : vk_R own is text sa s' := vk_R.warm hW0 hstr
  obtain ⟨U, hsteps, hrun, hend, hW, hsame, ce, hce, hO⟩ := X₁.ctorThrowS hexec htr (own := own) (cls := cls) (names := names) (ic := ic) hown' hcls hnames h (fun x hx => nomatch hx) hfX hkX hcellA (by rw [hhp, hT]; exact Nat.le_refl _) (msg := .ref sa) rfl
    (g := { method := m, pc := pc + 7, locals := ls, stack := .ref sa :: .ref T.heap.size :: .ref T.heap.size :: rest, locked := none }) rfl hsize rfl rfl (rest := rest) rfl
    (by rw [hb]; exact d7) (by rw [hb]; exact d10) hout hRframes (by simp only [List.map_cons, List.sum_cons, hcat]; omega) hlocks
  obtain ⟨f1, f2⟩ := vx_frame hsame
  rw [hhp] at f1 f2
  have hWs : s.WarmedH U.vm := State.WarmedH.trans hW0 hW
  have hcl : s.vm.findClass cls = some ce.cls := by
    have h9 := hO.cls
    rw [hvm] at h9
    exact h9
  have hall : s.sameButNew ({ U with vm := s.vm } : State) locs mc ms := by
    subst hA
    obtain ⟨e1, e2⟩ := hsame
    rw [State.setFrames_setFrames] at e1
    have h2 : (T.setVm s.vm).sameButNew ({ U with vm := s.vm } : State) [] (0 + 1) (0 + 6) := ⟨e1, e2⟩
    have h3 := X.same.trans h2
    rw [List.append_nil] at h3
    exact h3.mono hc hs
  refine ⟨U, ?_, .threw T.heap.size, hrun, hend, Or.inr ⟨T.heap.size, rfl, cls, ce, locs, hx U hWs.alike f1 (fun q hq => f2 q hq (fun z hz => nomatch hz)), hce, hO.vm, hcl, hWs, hall, hf⟩⟩
  refine st1 _ ?_
  show Steps p.tables e below (T1.setTop { method := m, pc := pc + 3, locals := ls, stack := .ref T.heap.size :: rest, locked := none }) _
  jvm_step X₁.here [X₁.here.top, hexec, d3', Value.category]
  exact X₁.ldcStringW hexec (own := own) (text := text) (index := is) (a := sa) hown' hstr'.1 hstr'.2
    (g := { method := m, pc := pc + 4, locals := ls, stack := .ref T.heap.size :: .ref T.heap.size :: rest, locked := none }) rfl d4' _ hsteps
end Ends
section Bodies
variable {l : Launch}
theorem vx_ofW {y : MethodName} {ws ws' : List Cond} {rm : Room} {Pc : Array Value → State → Prop} {Qc : Array Value → State → Outcome → State → Prop} {XC : String → State → State → Prop} {mc ms : Nat} {free : Addr → Prop} {cc : ByteArray} {maxL : Nat} {ret : Option FieldType}
    (hy : plainName y.cls = true) (hw : ws = Cond.code y cc maxL ret :: ws')
    (body : ∀ p e s m args below meth c s₁, BodyLoose p l y (headSpec ws rm) cc maxL ret e s m args below meth c s₁ → c.maxLocals = maxL → (∀ x ∈ c.exceptionTable.toList, False) → Pc args s →
      W p l e (headSpec ws rm).room s m args below meth c s.heap [] 0 0 (vx_MQ below Qc XC args s mc ms free) (entryFrame m args maxL)) : vx_Met l y ws rm Pc Qc XC mc ms free := by
  refine MetFree.of_bodyS (code := cc) (maxLocals := maxL) (ret := ret) hy ?_ ?_
  · intro args s m h hn
    obtain ⟨meth, c, h1, h2, h3, h4, h5, h6, -, -⟩ := Cond.code_spec hn (atoms_spec (ws := ws) h _ (by rw [hw]; exact List.mem_cons_self))
    exact ⟨meth, c, h1, h2, h3, h4, h5, h6⟩
  · intro p e s m args below meth c s₁ B hml hP _
    have hh0 : s₁.heap = s.heap := by rw [B.state]; rfl
    have ht : ∀ x ∈ c.exceptionTable.toList, False := by
      obtain ⟨meth9, c9, h1, h2, -, -, -, -, h7, -⟩ := Cond.code_spec B.named (atoms_spec (ws := ws) B.pre _ (by rw [hw]; exact List.mem_cons_self))
      cases Option.some.inj (h1.symm.trans B.method)
      cases Option.some.inj (h2.symm.trans (Stand.of_body B).code)
      intro x hx
      rw [Array.isEmpty_iff.mp h7] at hx
      cases hx
    obtain ⟨t, a1, o, b1, b2, b3⟩ := body p e s m args below meth c s₁ B hml ht hP s₁ hh0 (Stand.of_body B)
    exact ⟨t, o, a1, b1, b2, b3⟩
/-- the table of a body with handlers -/
theorem vx_table {p : Program} {x y : MethodName} {S : Spec} {cc bytes : ByteArray} {maxL maxL' : Nat} {ret ret' : Option FieldType} {e : Env} {s s₁ : State} {m : MethodId} {args : Array Value} {below : List Frame} {meth : Method} {c : Code} {hh : List (Nat × Nat × Nat × Nat)}
    (B : BodyLoose p l y S cc maxL ret e s m args below meth c s₁) (h : (Cond.codeWith y bytes maxL' ret' hh).before args s = true) : c.exceptionTable.toList = tableOf hh := by
  obtain ⟨m9, meth9, c9, hn9, h1, h2, -, -, h6, -⟩ := Cond.codeWith_spec h
  cases Option.some.inj (hn9.symm.trans B.named)
  cases Option.some.inj (h1.symm.trans B.method)
  cases Option.some.inj (h2.symm.trans (Stand.of_body B).code)
  rw [← h6, table_eq]
end Bodies
end VXA
/-! ===== END ===== -/
/-! ===== BEGIN a static call of a method with an exception table ===== -/
section VXS
variable {p : Program} {l : Launch} {e : Env} {R : Room} {s : State} {m : MethodId} {args : Array Value} {below : List Frame} {meth : Method} {c : Code} {T : State} {H : Heap} {locs : List Loc} {cells slots : Nat}
abbrev vx_CSW (R : Room) (s : State) (args : Array Value) (own : String) (index : Nat) (y : MethodName) (bytes : ByteArray) (maxL : Nat) (ret : Option FieldType) (hh : List (Nat × Nat × Nat × Nat)) (ws : List Cond) (rm : Room) (mc ms n : Nat) : Prop :=
  (rm.cells = mc ∧ rm.slots = ms ∧ rm.frames + 1 ≤ R.frames ∧ 8 + (maxL + 11) + rm.locals ≤ R.locals ∧ (∀ w ∈ ws, ∀ (a' : Array Value) (U : State), s.WarmedH U.vm → w.before a' U = true) ∧ Cond.codeWith y bytes maxL ret hh ∈ ws) ∧
  (Cond.codeWith y bytes maxL ret hh).before args s = true ∧ (Cond.initialized y.cls).before args s = true ∧ (y.cls ≠ "java/lang/invoke/MethodHandle" ∧ y.cls ≠ "java/lang/invoke/VarHandle") ∧
  (∀ sig, parseMethodDescriptor y.desc = some sig → n = sig.parameters.length) ∧ (Cond.methodLink own index y).before args s = true ∧ (Cond.static y).before args s = true
theorem vx_cwSW {own : String} {index maxL mc ms : Nat} {y : MethodName} {bytes : ByteArray} {ret : Option FieldType} {hh : List (Nat × Nat × Nat × Nat)} {Ts ws ws' : List Cond} {rm : Room} (n : Nat) (ht : ∀ w ∈ Ts, w.before args s = true) (hT : GoodIn Ts (va_wsS own index y ws)) (hw : ws = Cond.codeWith y bytes maxL ret hh :: ws') (hrc : rm.cells = mc) (hrs : rm.slots = ms)
    (hd : y.cls ≠ "java/lang/invoke/MethodHandle" ∧ y.cls ≠ "java/lang/invoke/VarHandle" ∧ (parseMethodDescriptor y.desc).map (fun d => d.parameters.length) = some n) (hR : rm.frames + 1 ≤ R.frames ∧ 8 + (maxL + 11) + rm.locals ≤ R.locals) :
    vx_CSW R s args own index y bytes maxL ret hh ws rm mc ms n := by
  have ok : ∀ w ∈ va_wsS own index y ws, w.before args s = true := fun w h => ht w (hT w h).1
  have hG : GoodIn Ts ws := fun w h => hT w (by unfold va_wsS; exact List.mem_append_right _ h)
  have hc : Cond.codeWith y bytes maxL ret hh ∈ ws := by rw [hw]; exact List.mem_cons_self
  refine ⟨⟨hrc, hrs, hR.1, hR.2, pay_in ht hG, hc⟩, ht _ (hG _ hc).1, ok _ (by simp [va_wsS]), ⟨hd.1, hd.2.1⟩, fun sig h => ?_, ok _ (by simp [va_wsS]), ok _ (by simp [va_wsS])⟩
  have h2 := hd.2.2
  rw [h] at h2
  exact (Option.some.inj h2).symm
theorem vx_callSW (X : Stand p l e R s m args below meth c T locs cells slots) (hexec : p.tables.exec = Jvm.exec) {own : String} {index : Nat} {y : MethodName} {bytes : ByteArray} {maxL : Nat} {ret : Option FieldType} {hh : List (Nat × Nat × Nat × Nat)}
    (hown : s.vm.findClass own = some m.cls) (hlink : (Cond.methodLink own index y).before args s = true) (hstat : (Cond.static y).before args s = true) (hinit : (Cond.initialized y.cls).before args s = true)
    (hcode : (Cond.codeWith y bytes maxL ret hh).before args s = true) (hy : y.cls ≠ "java/lang/invoke/MethodHandle" ∧ y.cls ≠ "java/lang/invoke/VarHandle")
    {W9 : Nat} {Pre : Pt → Array Value → Prop} {Post : Pt → Array Value → Option Value → Pt → Prop} (hK : Back l R p e below s args y 3 W9 Pre Post)
    {g : JFrame} (hg : g.method = m) (hsize : g.locals.size = c.maxLocals) {argsL rest : List Value} (hlen : ∀ sig, parseMethodDescriptor y.desc = some sig → argsL.length = sig.parameters.length)
    (hstack : g.stack = argsL.reverse ++ rest) (hW : 2 * g.monitorRoom + (rest.map fun v => v.category).sum ≤ W9) (hdg : decode c.code g.pc = .ok (.invokestatic index, 3))
    (hpre : ∀ vm₁, s.WarmedH vm₁ → Pre ⟨T.setVm vm₁, locs, cells, slots⟩ argsL.toArray) :
    ∃ (v : Option Value) (vm₁ : Vm) (B : Pt), s.WarmedH vm₁ ∧ Stand p l e R s m args below meth c B.U B.locs B.cells B.slots ∧ Post ⟨T.setVm vm₁, locs, cells, slots⟩ argsL.toArray v B ∧
      ∀ target, Steps p.tables e below (B.U.setTop { g with pc := g.pc + 3, stack := v.toList ++ rest }) target → Steps p.tables e below (T.setTop g) target := by
  obtain ⟨mk, methM, cM, hnamed, hmethM, -, -, -, -, -, -, hsigM⟩ := Cond.codeWith_spec hcode
  have hstatic : methM.isStatic = true := Cond.static_spec hnamed hmethM hstat
  obtain ⟨kP, hkP, -⟩ := className_of_methodNamed hnamed
  have hinitP : kP.init = .initialized := Cond.initialized_spec (findClass_of_methodNamed hnamed) hkP hinit
  obtain ⟨vm₁, X₁, hstep₁⟩ := X.invokestatic hexec hown hlink hnamed hmethM hstatic hkP hinitP hy (g := g) hg (argsL := argsL) (rest := rest) (hlen _ hsigM) hstack hdg
  obtain ⟨v, B, X', hpost, hsteps⟩ := hK m meth c ⟨T.setVm vm₁, locs, cells, slots⟩ { g with stack := rest } (.invokestatic index) mk argsL.toArray X₁ hg hsize hdg hW (X₁.named hnamed) (hpre vm₁ X₁.warmed)
  exact ⟨v, vm₁, B, X₁.warmed, X', hpost, fun target h => hstep₁ _ fun acts => by rw [doInvoke_state]; exact hsteps.trans h⟩
theorem vx_runSW {y : MethodName} {bytes cc : ByteArray} {maxL nL mc ms n index : Nat} {ret : Option FieldType} {hh : List (Nat × Nat × Nat × Nat)} {ws : List Cond} {rm : Room} {Pc : Array Value → State → Prop} {Qc : Array Value → State → Outcome → State → Prop} {free : Addr → Prop} {Ts : List Cond} {own : String} {As rest : List Value} {g : JFrame}
    (S : CallFix p m c cc nL s args Ts own) (hM : Met l y ws rm Pc Qc mc ms free) (cw : vx_CSW R s args own index y bytes maxL ret hh ws rm mc ms n) (hp : PreS s H Pc As)
    (hg : g.method = m) (hn : As.length = n) (hsize : g.locals.size = nL) (hstack : g.stack = As.reverse ++ rest) (hW : 2 * g.monitorRoom + (rest.map fun v => v.category).sum ≤ 8) (hdg : decode cc g.pc = .ok (.invokestatic index, 3)) (hf : cells + mc ≤ R.cells ∧ slots + ms ≤ R.slots) :
    va_Run p l e R s m args below meth c H locs cells slots mc ms g rest (Qc As.toArray) (free) := by
  obtain ⟨⟨hrc, hrs, hfr, hlo, hws, hcw⟩, hcode, hini, hy, hlen, hl, hstt⟩ := cw
  have hK : Back l R p e below s args y 3 8 (PreOf R mc ms Pc) (PostOf Qc mc ms free) := va_backW (hh := hh) (bytes := bytes) (maxL := maxL) (ret := ret) hM hp.1 hrc hrs hfr hlo hws hcw (fun a' U hW => word_at hW (Or.inl (by first | rfl | simp [Cond.onTables, Cond.keeps, Cond.steady])) hini)
  obtain ⟨hx, hb, hml, ho, -⟩ := S
  intro T hT X
  obtain ⟨v, vm₁, ⟨U', l2, c2, s2⟩, hW₁, X', ⟨g', mk, t, L, e1, e2, hq, h1, hL, h2, h3⟩, st⟩ := vx_callSW X hx (hh := hh) (bytes := bytes) (maxL := maxL) (ret := ret) ho hl hstt hini hcode hy hK hg (hsize.trans hml.symm) (argsL := As) (rest := rest) (fun sig h => hn.trans (hlen sig h)) hstack hW (by rw [hb]; exact hdg)
    (fun vm₁ hW₁ => ⟨hf.1, hf.2, hp.2 (T.setVm vm₁) hT hW₁⟩)
  dsimp only [Pt.U, Pt.locs, Pt.cells, Pt.slots] at X' e1 e2 h1 h2 h3 st
  subst h1; subst h2; subst h3
  exact ⟨v, (T.setVm vm₁).calling g' mk As.toArray, t, U', L, hT, X', hL, e1, e2, hq, st⟩
/-- not caught here, past rows that name other classes: it goes on to the caller -/
theorem vx_outP {p : Program} {l : Launch} {e : Env} {R : Room} {s : State} {m : MethodId} {args : Array Value} {below : List Frame} {meth : Method} {c : Code} {H : Heap} {locs : List Loc} {cells slots : Nat} {free : Addr → Prop} {ls : Array Slot} {rest : List Value} {Qc : Array Value → State → Outcome → State → Prop} {XC : String → State → State → Prop}
    {pc : Nat} {own E : String} {ce : Cell} {q : Addr} {mc ms : Nat} (hown : s.vm.findClass own = some m.cls) (hlocks : meth.locks = false)
    (hpass : ∀ z ∈ c.exceptionTable.toList, covers z pc = false ∨ (z.catchType ≠ 0 ∧ ∃ nm : String, (Cond.classLink own z.catchType nm).before args s = true ∧ va_Nc E nm s)) (hcell : H[q]? = some ce) (hv : ce.vm = .none) (hcl : s.vm.findClass E = some ce.cls)
    (hx : ∀ t : State, t.heap = H → s.vm.Alike t.vm → XC E s t) (hf : ∀ z ∈ locs, free z.base) (hc : cells ≤ mc) (hs : slots ≤ ms) :
    vx_W p l e R s m args below meth c H locs cells slots (vx_MQ below Qc XC args s mc ms free) (F0 m pc ls rest) q := by
  intro T hT X
  have hpl : e.platform.magicAccessors = ({} : Platform).magicAccessors := by rw [X.admits.platform]
  obtain ⟨vm', hW', X', st⟩ := X.outThrough hlocks q (g := F0 m pc ls rest) rfl rfl rfl (cell := ce) (by rw [hT]; exact hcell) (by rw [hv]; rfl)
    (by obtain ⟨k9, h9, -⟩ := Vm.findClass_spec hcl; exact ⟨k9, h9⟩) (fun z hz => by
      rcases hpass z hz with h | ⟨hz0, nm, hl1, hn1⟩
      · exact Or.inl h
      · obtain ⟨c6, hc6, hcl6⟩ := Cond.classLink_spec hown hl1 e.platform hpl
        obtain ⟨a8, b8, h1, h2, h3⟩ := hn1
        cases Option.some.inj (h1.symm.trans hcl)
        cases Option.some.inj (h2.symm.trans hc6)
        exact Or.inr ⟨hz0, _, hcl6, h3⟩)
  obtain ⟨g₀, hfr⟩ := X'.frames_eq
  have hcell9 : ((T.setVm vm').setFrames (.throwing q :: below)).heap[q]? = some ce := by
    show T.heap[q]? = some ce
    rw [hT]; exact hcell
  have hend : Ended ((T.setVm vm').setFrames (.throwing q :: below)) below (.threw q) := State.frames_setFrames _ (State.cur_lt_of_frames hfr)
  refine ⟨(T.setVm vm').setFrames (.throwing q :: below), ?_, .threw q, X'.here.running, hend, Or.inr ⟨q, rfl, E, ce, locs, hx _ hT (X'.ends _).1.alike, hcell9, hv, hcl, (X'.ends _).1, (X'.ends _).2.mono hc hs, hf⟩⟩
  rw [X.pushThrowing_eq]
  exact st
/-- a thing of a world lies in the heap -/
theorem vx_lt {D : va_G} {cl : List vw_C} {ws : va_W} {H1 : Heap} (h : va_P D cl ws H1) {k : Nat} {q : Nat × va_E} (hk : ws[k]? = some q) : q.1 < H1.size := (h k q hk).lt
end VXS
/-! ===== END ===== -/
/-! ===== BEGIN methods with a table of their own: called by a name, returning or throwing ===== -/
section VXH
/-! vx_backW, vx_callVX, vx_callSX, vx_callVW, vx_runVW, vx_runVX, vx_runSX, vx_ofWH follow the same proofs as their sisters above (Free/Laws.lean, Shelf42/LK1.lean); vx_outP calls Shelf42/NT130.lean (outThrough). -/
section
variable {l : Launch} {R : Room} {p : Program} {e : Env} {below : List Frame} {s : State} {sargs : Array Value} {y : MethodName} {len W9 : Nat}
theorem vx_backW {ws : List Cond} {rm : Room} {Pc : Array Value → State → Prop} {Qc : Array Value → State → Outcome → State → Prop} {XC : String → State → State → Prop} {mc ms : Nat} {free : Addr → Prop} {bytes : ByteArray} {maxL : Nat} {ret : Option FieldType} {hh : List (Nat × Nat × Nat × Nat)}
    (hM : vx_Met l y ws rm Pc Qc XC mc ms free) (hblind : FrameBlind Pc) (hrc : rm.cells = mc) (hrs : rm.slots = ms)
    (hframes : rm.frames + 1 ≤ R.frames) (hlocals : W9 + (maxL + 11) + rm.locals ≤ R.locals)
    (hws : ∀ w ∈ ws, ∀ a' U, s.WarmedH U.vm → w.before a' U = true) (hcode : Cond.codeWith y bytes maxL ret hh ∈ ws) (hinit : ∀ a' U, s.WarmedH U.vm → (Cond.initialized y.cls).before a' U = true) :
    vx_Back l R p e below s sargs y len W9 (PreOf R mc ms Pc) (PostOf Qc mc ms free) (vx_Post XC mc ms free) := by
  intro m meth c A g ig mk a X hg hsize hdg hW hn hp
  have h1 : (headSpec ws rm).pre.before a A.U = true := atoms_intro fun w hw => hws w hw _ _ X.warmed
  have h2 : (Cond.codeWith y bytes maxL ret hh).before a A.U = true := hws _ hcode _ _ X.warmed
  have h3 : (Cond.initialized y.cls).before a A.U = true := hinit _ _ X.warmed
  have h4 : A.cells + (headSpec ws rm).room.cells ≤ R.cells := by rw [show (headSpec ws rm).room.cells = mc from hrc]; exact hp.1
  have h5 : A.slots + (headSpec ws rm).room.slots ≤ R.slots := by rw [show (headSpec ws rm).room.slots = ms from hrs]; exact hp.2.1
  have hPc : Pc a (A.U.calling g mk a) := hblind _ _ _ _ hp.2.2
  obtain ⟨U, Ls, c0, s0⟩ := A
  dsimp only [Pt.U, Pt.locs, Pt.cells, Pt.slots] at h1 h2 h3 h4 h5 X hn hPc ⊢
  obtain ⟨m9, methY, cY, hn9, hmY, hcY, -, hlY, -⟩ := Cond.codeWith_spec h2
  cases Option.some.inj (hn9.symm.trans hn)
  obtain ⟨kY, hkY, -⟩ := className_of_methodNamed hn
  have hinitY : kY.init = .initialized := Cond.initialized_spec (findClass_of_methodNamed hn) hkY h3
  have h : At U g.method c below := by rw [hg]; exact X.here
  have hlocals9 : W9 + (maxL + 11) + (headSpec ws rm).room.locals ≤ R.locals := hlocals
  have happ : (headSpec ws rm).appliesLoose y e.platform (U.calling g mk a) = true :=
    Spec.appliesLoose_calling (g := g) h hdg hn hkY hinitY
      (X.room_calling (g := g) (R' := (headSpec ws rm).room) hsize hmY hcY hframes (by rw [hlY]; omega) h4 h5) h1
  obtain ⟨mid, hmid⟩ := h.above
  have hfr : (U.setTop g).frames = (.java g :: mid) ++ below := by rw [State.frames_setTop' g h.top, hmid]; rfl
  obtain ⟨o, s₂, hsteps, -, hend, hq⟩ := Steps.callFree hM p X.admits X.cas X.clock (acts := []) hfr happ hPc trivial
  have hq' : vx_Q Qc XC mc ms free a (U.calling g mk a) o s₂ := hq
  rw [State.frames_setTop' g h.top] at hend
  obtain ⟨g₀, hg0⟩ := Option.isSome_iff_exists.mp h.top
  obtain ⟨r, hr⟩ := State.topJava?_eq_some.mp hg0
  have hr' : (({ U with heap := s₂.heap, slotsUsed := s₂.slotsUsed } : State).setVm s₂.vm).frames = .java g₀ :: r := hr
  rcases hq' with ⟨hqc, L, hfe, hL⟩ | ⟨q, rfl, E, ce, L, hx, hce, hcv, hcl, hW₂, hsm, hL⟩
  · obtain ⟨⟨v, rfl⟩, hW₂, e2, q2, q3, q4, q5, q6⟩ := id hfe
    have e3 : s₂ = ({ (U.calling g mk a).setFrames s₂.frames with heap := s₂.heap, slotsUsed := s₂.slotsUsed } : State).setVm s₂.vm := by
      have : s₂ = ({ s₂ with vm := (U.calling g mk a).vm } : State).setVm s₂.vm := rfl
      rw [e2] at this
      exact this
    obtain ⟨c₂, i₂, len₂, hc₂, hd₂, hf₂⟩ := hend
    have hW' : U.WarmedH s₂.vm := hW₂
    have hcc : c₂ = c := by
      have h1 : s₂.code? g.method = U.code? g.method := by
        rw [State.code?_eq, State.code?_eq, hW'.alike.method?]
      exact Option.some.inj (hc₂.symm.trans (h1.trans h.code))
    subst hcc
    have hlen : len₂ = len := by rw [hdg] at hd₂; cases hd₂; rfl
    subst hlen
    have hs₂ : s₂ = (({ U with heap := s₂.heap, slotsUsed := s₂.slotsUsed } : State).setVm s₂.vm).setTop { g with pc := g.pc + len₂, stack := v.toList ++ g.stack } := by
      refine e3.trans ?_
      rw [hf₂, State.calling_eq h.top, State.setFrames_setFrames, State.setTop_of_frames _ hr', hr]
      rfl
    have hsame : U.sameButNew ({ U with heap := s₂.heap, slotsUsed := s₂.slotsUsed } : State) L mc ms := by
      refine ⟨?_, q2, q3, q4, q5, q6⟩
      obtain ⟨t, ht, -⟩ := State.frames_cons hr
      show ({ U with heap := s₂.heap, slotsUsed := s₂.slotsUsed } : State) = { U.setFrames U.frames with heap := s₂.heap, slotsUsed := s₂.slotsUsed }
      rw [State.setFrames_self ht]
    subst hg
    refine Or.inl ⟨v, ⟨(({ U with heap := s₂.heap, slotsUsed := s₂.slotsUsed } : State).setVm s₂.vm), Ls ++ L, c0 + mc, s0 + ms⟩,
      ⟨X.admits, X.cas, X.clock, X.frames, X.room, X.hears, X.method, X.code, (X.here.setHeapUsed s₂.heap s₂.slotsUsed).setVm hW'.alike, X.tail, State.WarmedH.trans X.warmed hW', X.limits, X.bytes, X.same.trans (hsame.setVm s.vm)⟩,
      ⟨g, mk, s₂, L, rfl, rfl, hqc, rfl, hL, rfl, rfl⟩, ?_⟩
    show Steps p.tables e below _ ((({ U with heap := s₂.heap, slotsUsed := s₂.slotsUsed } : State).setVm s₂.vm).setTop { g with pc := g.pc + len₂, stack := v.toList ++ g.stack })
    rw [← hs₂]
    exact hsteps
  · obtain ⟨e2, q2, q3, q4, q5, q6⟩ := id hsm
    have e3 : s₂ = ({ (U.calling g mk a).setFrames s₂.frames with heap := s₂.heap, slotsUsed := s₂.slotsUsed } : State).setVm s₂.vm := by
      have : s₂ = ({ s₂ with vm := (U.calling g mk a).vm } : State).setVm s₂.vm := rfl
      rw [e2] at this
      exact this
    have hf₂ : s₂.frames = .throwing q :: .java g :: U.frames.tail := hend
    have hW' : U.WarmedH s₂.vm := hW₂
    have hs₂ : s₂ = ((({ U with heap := s₂.heap, slotsUsed := s₂.slotsUsed } : State).setVm s₂.vm).setTop g).pushFrame (.throwing q) := by
      refine e3.trans ?_
      rw [hf₂, State.calling_eq h.top, State.setFrames_setFrames, State.pushFrame, State.frames_setTop _ hr', State.setTop_of_frames _ hr', State.setFrames_setFrames, hr]
      rfl
    have hsame : U.sameButNew ({ U with heap := s₂.heap, slotsUsed := s₂.slotsUsed } : State) L mc ms := by
      refine ⟨?_, q2, q3, q4, q5, q6⟩
      obtain ⟨t, ht, -⟩ := State.frames_cons hr
      show ({ U with heap := s₂.heap, slotsUsed := s₂.slotsUsed } : State) = { U.setFrames U.frames with heap := s₂.heap, slotsUsed := s₂.slotsUsed }
      rw [State.setFrames_self ht]
    subst hg
    refine Or.inr ⟨q, ⟨(({ U with heap := s₂.heap, slotsUsed := s₂.slotsUsed } : State).setVm s₂.vm), Ls ++ L, c0 + mc, s0 + ms⟩,
      ⟨X.admits, X.cas, X.clock, X.frames, X.room, X.hears, X.method, X.code, (X.here.setHeapUsed s₂.heap s₂.slotsUsed).setVm hW'.alike, X.tail, State.WarmedH.trans X.warmed hW', X.limits, X.bytes, X.same.trans (hsame.setVm s.vm)⟩,
      ⟨g, mk, s₂, L, E, ce, rfl, rfl, hx, hce, hcv, hcl, rfl, hL, rfl, rfl⟩, ?_⟩
    show Steps p.tables e below _ (((({ U with heap := s₂.heap, slotsUsed := s₂.slotsUsed } : State).setVm s₂.vm).setTop g).pushFrame (.throwing q))
    rw [← hs₂]
    exact hsteps
end
variable {p : Program} {l : Launch} {e : Env} {R : Room} {s : State} {m : MethodId} {args : Array Value} {below : List Frame} {meth : Method} {c : Code} {T : State} {H : Heap} {locs : List Loc} {cells slots : Nat}
theorem vx_callVX (X : Stand p l e R s m args below meth c T locs cells slots) (hexec : p.tables.exec = Jvm.exec) {own C : String} {index : Nat} {y : MethodName} {bytes : ByteArray} {maxL : Nat} {ret : Option FieldType} {hh : List (Nat × Nat × Nat × Nat)}
    (hown : s.vm.findClass own = some m.cls) (hlink : (Cond.methodLink own index y).before args s = true) (hinst : (Cond.instanceMethod y).before args s = true) (hsel : (Cond.selects C y y).before args s = true)
    (hcode : (Cond.codeWith y bytes maxL ret hh).before args s = true) (hy : y.cls ≠ "java/lang/invoke/MethodHandle" ∧ y.cls ≠ "java/lang/invoke/VarHandle")
    {W9 : Nat} {Pre : Pt → Array Value → Prop} {Post : Pt → Array Value → Option Value → Pt → Prop} {PostX : Pt → Array Value → Addr → Pt → Prop} (hK : vx_Back l R p e below s args y 3 W9 Pre Post PostX)
    {b : Addr} {cellB : Cell} (hcell : T.heap[b]? = some cellB) (hobj : cellB.vm.isStatics = false) (hcls : s.vm.findClass C = some cellB.cls)
    {g : JFrame} (hg : g.method = m) (hsize : g.locals.size = c.maxLocals) {argsL rest : List Value} (hlen : ∀ sig, parseMethodDescriptor y.desc = some sig → argsL.length = sig.parameters.length)
    (hstack : g.stack = argsL.reverse ++ .ref b :: rest) (hW : 2 * g.monitorRoom + (rest.map fun v => v.category).sum ≤ W9) (hdg : decode c.code g.pc = .ok (.invokevirtual index, 3))
    (hpre : ∀ vm₁, s.WarmedH vm₁ → Pre ⟨T.setVm vm₁, locs, cells, slots⟩ (Value.ref b :: argsL).toArray) :
    (∃ (v : Option Value) (vm₁ : Vm) (B : Pt), s.WarmedH vm₁ ∧ Stand p l e R s m args below meth c B.U B.locs B.cells B.slots ∧ Post ⟨T.setVm vm₁, locs, cells, slots⟩ (Value.ref b :: argsL).toArray v B ∧
      ∀ target, Steps p.tables e below (B.U.setTop { g with pc := g.pc + 3, stack := v.toList ++ rest }) target → Steps p.tables e below (T.setTop g) target) ∨
    (∃ (q : Addr) (vm₁ : Vm) (B : Pt), s.WarmedH vm₁ ∧ Stand p l e R s m args below meth c B.U B.locs B.cells B.slots ∧ PostX ⟨T.setVm vm₁, locs, cells, slots⟩ (Value.ref b :: argsL).toArray q B ∧
      Steps p.tables e below (T.setTop g) ((B.U.setTop { g with stack := rest }).pushFrame (.throwing q))) := by
  obtain ⟨mk, methM, hnamed, hmethM, hstM, habM⟩ := Cond.instanceMethod_spec hinst
  obtain ⟨m8, methM', cM, hn8, hmethM', -, -, -, -, -, -, hsigM⟩ := Cond.codeWith_spec hcode
  cases Option.some.inj (hn8.symm.trans hnamed)
  cases hmethM.symm.trans hmethM'
  obtain ⟨c2, r2, m2, q1, q2, q3, q4, kP, hkP, hkPi⟩ := Cond.selects_spec hsel
  cases hcls.symm.trans q1
  cases (State.methodFound?_of_named hnamed hy).symm.trans q2
  cases hnamed.symm.trans q3
  have hselP : selectMethod e.platform s.vm cellB.cls mk = .method mk := by rw [Launch.admits_selectMethod X.admits]; exact q4
  obtain ⟨vm₁, X₁, hstep₁⟩ := X.invokevirtual hexec hown hlink hnamed hmethM hstM hkP hkPi hy (a := b) (cell := cellB) hcell
    (fun z h => by rw [h] at hobj; cases hobj) hselP hmethM habM hkP hkPi (g := g) hg (argsL := argsL) (rest := rest) (hlen _ hsigM) hstack hdg
  rcases hK m meth c ⟨T.setVm vm₁, locs, cells, slots⟩ { g with stack := rest } (.invokevirtual index) mk (Value.ref b :: argsL).toArray X₁ hg hsize hdg hW (X₁.named hnamed) (hpre vm₁ X₁.warmed) with ⟨v, B, X', hpost, hsteps⟩ | ⟨q, B, X', hpost, hsteps⟩
  · exact Or.inl ⟨v, vm₁, B, X₁.warmed, X', hpost, fun target h => hstep₁ _ fun acts => by rw [doInvoke_state]; exact hsteps.trans h⟩
  · exact Or.inr ⟨q, vm₁, B, X₁.warmed, X', hpost, hstep₁ _ fun acts => by rw [doInvoke_state]; exact hsteps⟩
theorem vx_callSX (X : Stand p l e R s m args below meth c T locs cells slots) (hexec : p.tables.exec = Jvm.exec) {own : String} {index : Nat} {y : MethodName} {bytes : ByteArray} {maxL : Nat} {ret : Option FieldType} {hh : List (Nat × Nat × Nat × Nat)}
    (hown : s.vm.findClass own = some m.cls) (hlink : (Cond.methodLink own index y).before args s = true) (hstat : (Cond.static y).before args s = true) (hinit : (Cond.initialized y.cls).before args s = true)
    (hcode : (Cond.codeWith y bytes maxL ret hh).before args s = true) (hy : y.cls ≠ "java/lang/invoke/MethodHandle" ∧ y.cls ≠ "java/lang/invoke/VarHandle")
    {W9 : Nat} {Pre : Pt → Array Value → Prop} {Post : Pt → Array Value → Option Value → Pt → Prop} {PostX : Pt → Array Value → Addr → Pt → Prop} (hK : vx_Back l R p e below s args y 3 W9 Pre Post PostX)
    {g : JFrame} (hg : g.method = m) (hsize : g.locals.size = c.maxLocals) {argsL rest : List Value} (hlen : ∀ sig, parseMethodDescriptor y.desc = some sig → argsL.length = sig.parameters.length)
    (hstack : g.stack = argsL.reverse ++ rest) (hW : 2 * g.monitorRoom + (rest.map fun v => v.category).sum ≤ W9) (hdg : decode c.code g.pc = .ok (.invokestatic index, 3))
    (hpre : ∀ vm₁, s.WarmedH vm₁ → Pre ⟨T.setVm vm₁, locs, cells, slots⟩ argsL.toArray) :
    (∃ (v : Option Value) (vm₁ : Vm) (B : Pt), s.WarmedH vm₁ ∧ Stand p l e R s m args below meth c B.U B.locs B.cells B.slots ∧ Post ⟨T.setVm vm₁, locs, cells, slots⟩ argsL.toArray v B ∧
      ∀ target, Steps p.tables e below (B.U.setTop { g with pc := g.pc + 3, stack := v.toList ++ rest }) target → Steps p.tables e below (T.setTop g) target) ∨
    (∃ (q : Addr) (vm₁ : Vm) (B : Pt), s.WarmedH vm₁ ∧ Stand p l e R s m args below meth c B.U B.locs B.cells B.slots ∧ PostX ⟨T.setVm vm₁, locs, cells, slots⟩ argsL.toArray q B ∧
      Steps p.tables e below (T.setTop g) ((B.U.setTop { g with stack := rest }).pushFrame (.throwing q))) := by
  obtain ⟨mk, methM, cM, hnamed, hmethM, -, -, -, -, -, -, hsigM⟩ := Cond.codeWith_spec hcode
  have hstatic : methM.isStatic = true := Cond.static_spec hnamed hmethM hstat
  obtain ⟨kP, hkP, -⟩ := className_of_methodNamed hnamed
  have hinitP : kP.init = .initialized := Cond.initialized_spec (findClass_of_methodNamed hnamed) hkP hinit
  obtain ⟨vm₁, X₁, hstep₁⟩ := X.invokestatic hexec hown hlink hnamed hmethM hstatic hkP hinitP hy (g := g) hg (argsL := argsL) (rest := rest) (hlen _ hsigM) hstack hdg
  rcases hK m meth c ⟨T.setVm vm₁, locs, cells, slots⟩ { g with stack := rest } (.invokestatic index) mk argsL.toArray X₁ hg hsize hdg hW (X₁.named hnamed) (hpre vm₁ X₁.warmed) with ⟨v, B, X', hpost, hsteps⟩ | ⟨q, B, X', hpost, hsteps⟩
  · exact Or.inl ⟨v, vm₁, B, X₁.warmed, X', hpost, fun target h => hstep₁ _ fun acts => by rw [doInvoke_state]; exact hsteps.trans h⟩
  · exact Or.inr ⟨q, vm₁, B, X₁.warmed, X', hpost, hstep₁ _ fun acts => by rw [doInvoke_state]; exact hsteps⟩
theorem vx_callVW (X : Stand p l e R s m args below meth c T locs cells slots) (hexec : p.tables.exec = Jvm.exec) {own C : String} {index : Nat} {y : MethodName} {bytes : ByteArray} {maxL : Nat} {ret : Option FieldType} {hh : List (Nat × Nat × Nat × Nat)}
    (hown : s.vm.findClass own = some m.cls) (hlink : (Cond.methodLink own index y).before args s = true) (hinst : (Cond.instanceMethod y).before args s = true) (hsel : (Cond.selects C y y).before args s = true)
    (hcode : (Cond.codeWith y bytes maxL ret hh).before args s = true) (hy : y.cls ≠ "java/lang/invoke/MethodHandle" ∧ y.cls ≠ "java/lang/invoke/VarHandle")
    {W9 : Nat} {Pre : Pt → Array Value → Prop} {Post : Pt → Array Value → Option Value → Pt → Prop} (hK : Back l R p e below s args y 3 W9 Pre Post)
    {b : Addr} {cellB : Cell} (hcell : T.heap[b]? = some cellB) (hobj : cellB.vm.isStatics = false) (hcls : s.vm.findClass C = some cellB.cls)
    {g : JFrame} (hg : g.method = m) (hsize : g.locals.size = c.maxLocals) {argsL rest : List Value} (hlen : ∀ sig, parseMethodDescriptor y.desc = some sig → argsL.length = sig.parameters.length)
    (hstack : g.stack = argsL.reverse ++ .ref b :: rest) (hW : 2 * g.monitorRoom + (rest.map fun v => v.category).sum ≤ W9) (hdg : decode c.code g.pc = .ok (.invokevirtual index, 3))
    (hpre : ∀ vm₁, s.WarmedH vm₁ → Pre ⟨T.setVm vm₁, locs, cells, slots⟩ (Value.ref b :: argsL).toArray) :
    ∃ (v : Option Value) (vm₁ : Vm) (B : Pt), s.WarmedH vm₁ ∧ Stand p l e R s m args below meth c B.U B.locs B.cells B.slots ∧ Post ⟨T.setVm vm₁, locs, cells, slots⟩ (Value.ref b :: argsL).toArray v B ∧
      ∀ target, Steps p.tables e below (B.U.setTop { g with pc := g.pc + 3, stack := v.toList ++ rest }) target → Steps p.tables e below (T.setTop g) target := by
  obtain ⟨mk, methM, hnamed, hmethM, hstM, habM⟩ := Cond.instanceMethod_spec hinst
  obtain ⟨m8, methM', cM, hn8, hmethM', -, -, -, -, -, -, hsigM⟩ := Cond.codeWith_spec hcode
  cases Option.some.inj (hn8.symm.trans hnamed)
  cases hmethM.symm.trans hmethM'
  obtain ⟨c2, r2, m2, q1, q2, q3, q4, kP, hkP, hkPi⟩ := Cond.selects_spec hsel
  cases hcls.symm.trans q1
  cases (State.methodFound?_of_named hnamed hy).symm.trans q2
  cases hnamed.symm.trans q3
  have hselP : selectMethod e.platform s.vm cellB.cls mk = .method mk := by rw [Launch.admits_selectMethod X.admits]; exact q4
  obtain ⟨vm₁, X₁, hstep₁⟩ := X.invokevirtual hexec hown hlink hnamed hmethM hstM hkP hkPi hy (a := b) (cell := cellB) hcell
    (fun z h => by rw [h] at hobj; cases hobj) hselP hmethM habM hkP hkPi (g := g) hg (argsL := argsL) (rest := rest) (hlen _ hsigM) hstack hdg
  obtain ⟨v, B, X', hpost, hsteps⟩ := hK m meth c ⟨T.setVm vm₁, locs, cells, slots⟩ { g with stack := rest } (.invokevirtual index) mk (Value.ref b :: argsL).toArray X₁ hg hsize hdg hW (X₁.named hnamed) (hpre vm₁ X₁.warmed)
  exact ⟨v, vm₁, B, X₁.warmed, X', hpost, fun target h => hstep₁ _ fun acts => by rw [doInvoke_state]; exact hsteps.trans h⟩
abbrev vx_CVW (R : Room) (s : State) (args : Array Value) (own C : String) (index : Nat) (y : MethodName) (bytes : ByteArray) (maxL : Nat) (ret : Option FieldType) (hh : List (Nat × Nat × Nat × Nat)) (ws : List Cond) (rm : Room) (mc ms n : Nat) : Prop :=
  (rm.cells = mc ∧ rm.slots = ms ∧ rm.frames + 1 ≤ R.frames ∧ 8 + (maxL + 11) + rm.locals ≤ R.locals ∧ (∀ w ∈ ws, ∀ (a' : Array Value) (U : State), s.WarmedH U.vm → w.before a' U = true) ∧ Cond.codeWith y bytes maxL ret hh ∈ ws) ∧
  (Cond.codeWith y bytes maxL ret hh).before args s = true ∧ (Cond.initialized y.cls).before args s = true ∧ (y.cls ≠ "java/lang/invoke/MethodHandle" ∧ y.cls ≠ "java/lang/invoke/VarHandle") ∧
  (∀ sig, parseMethodDescriptor y.desc = some sig → n = sig.parameters.length) ∧ (Cond.methodLink own index y).before args s = true ∧ (Cond.instanceMethod y).before args s = true ∧ (Cond.selects C y y).before args s = true
theorem vx_cwVW {own C : String} {index maxL mc ms : Nat} {y : MethodName} {bytes : ByteArray} {ret : Option FieldType} {hh : List (Nat × Nat × Nat × Nat)} {Ts ws ws' : List Cond} {rm : Room} (n : Nat) (ht : ∀ w ∈ Ts, w.before args s = true) (hT : GoodIn Ts (wsV own index C y ws)) (hw : ws = Cond.codeWith y bytes maxL ret hh :: ws') (hrc : rm.cells = mc) (hrs : rm.slots = ms)
    (hd : y.cls = C ∧ y.cls ≠ "java/lang/invoke/MethodHandle" ∧ y.cls ≠ "java/lang/invoke/VarHandle" ∧ (parseMethodDescriptor y.desc).map (fun d => d.parameters.length) = some n) (hR : rm.frames + 1 ≤ R.frames ∧ 8 + (maxL + 11) + rm.locals ≤ R.locals) :
    vx_CVW R s args own C index y bytes maxL ret hh ws rm mc ms n := by
  obtain ⟨hC, hd⟩ := hd
  subst hC
  have ok : ∀ w ∈ wsV own index y.cls y ws, w.before args s = true := fun w h => ht w (hT w h).1
  have hG : GoodIn Ts ws := fun w h => hT w (by unfold wsV; exact List.mem_append_right _ h)
  have hc : Cond.codeWith y bytes maxL ret hh ∈ ws := by rw [hw]; exact List.mem_cons_self
  refine ⟨⟨hrc, hrs, hR.1, hR.2, pay_in ht hG, hc⟩, ht _ (hG _ hc).1, ok _ (by simp [wsV]), ⟨hd.1, hd.2.1⟩, fun sig h => ?_, ok _ (by simp [wsV]), ok _ (by simp [wsV]), ok _ (by simp [wsV])⟩
  have h2 := hd.2.2
  rw [h] at h2
  exact (Option.some.inj h2).symm
theorem vx_runVW {y : MethodName} {bytes cc : ByteArray} {maxL nL mc ms n index : Nat} {ret : Option FieldType} {hh : List (Nat × Nat × Nat × Nat)} {ws : List Cond} {rm : Room} {Pc : Array Value → State → Prop} {Qc : Array Value → State → Outcome → State → Prop} {free : Addr → Prop} {Ts : List Cond} {own C : String} {b : Addr} {As rest : List Value} {g : JFrame}
    (S : CallFix p m c cc nL s args Ts own) (hM : Met l y ws rm Pc Qc mc ms free) (cw : vx_CVW R s args own C index y bytes maxL ret hh ws rm mc ms n) (hp : PreV s H C b Pc As)
    (hg : g.method = m) (hn : As.length = n) (hsize : g.locals.size = nL) (hstack : g.stack = As.reverse ++ .ref b :: rest) (hW : 2 * g.monitorRoom + (rest.map fun v => v.category).sum ≤ 8) (hdg : decode cc g.pc = .ok (.invokevirtual index, 3)) (hf : cells + mc ≤ R.cells ∧ slots + ms ≤ R.slots) :
    va_Run p l e R s m args below meth c H locs cells slots mc ms g rest (Qc (Value.ref b :: As).toArray) free := by
  obtain ⟨⟨hrc, hrs, hfr, hlo, hws, hcw⟩, hcode, hini, hy, hlen, hl, hin, hse⟩ := cw
  have hK : Back l R p e below s args y 3 8 (PreOf R mc ms Pc) (PostOf Qc mc ms free) := va_backW (hh := hh) (bytes := bytes) (maxL := maxL) (ret := ret) hM hp.1 hrc hrs hfr hlo hws hcw (fun a' U hW => word_at hW (Or.inl (by first | rfl | simp [Cond.onTables, Cond.keeps, Cond.steady])) hini)
  obtain ⟨hx, hb, hml, ho, -⟩ := S
  obtain ⟨-, ⟨cellB, hcB, hoB, hclB⟩, hPc⟩ := hp
  intro T hT X
  obtain ⟨v, vm₁, ⟨U', l2, c2, s2⟩, hW₁, X', ⟨g', mk, t, L, e1, e2, hq, h1, hL, h2, h3⟩, st⟩ := vx_callVW X hx (C := C) (hh := hh) (bytes := bytes) (maxL := maxL) (ret := ret) ho hl hin hse hcode hy hK (by rw [hT]; exact hcB) hoB hclB hg (hsize.trans hml.symm) (argsL := As) (rest := rest) (fun sig h => hn.trans (hlen sig h)) hstack hW (by rw [hb]; exact hdg)
    (fun vm₁ hW₁ => ⟨hf.1, hf.2, hPc (T.setVm vm₁) hT hW₁⟩)
  dsimp only [Pt.U, Pt.locs, Pt.cells, Pt.slots] at X' e1 e2 h1 h2 h3 st
  subst h1; subst h2; subst h3
  exact ⟨v, (T.setVm vm₁).calling g' mk (Value.ref b :: As).toArray, t, U', L, hT, X', hL, e1, e2, hq, st⟩
section
variable {y : MethodName} {bytes cc : ByteArray} {maxL nL mc ms n index : Nat} {ret : Option FieldType} {ws : List Cond} {rm : Room} {Pc : Array Value → State → Prop} {Qc : Array Value → State → Outcome → State → Prop} {XC : String → State → State → Prop} {free : Addr → Prop} {Ts : List Cond} {own C : String} {b : Addr} {As rest : List Value} {g : JFrame}
theorem vx_runVX {hh : List (Nat × Nat × Nat × Nat)} (S : CallFix p m c cc nL s args Ts own) (hM : vx_Met l y ws rm Pc Qc XC mc ms free) (cw : vx_CVW R s args own C index y bytes maxL ret hh ws rm mc ms n) (hp : PreV s H C b Pc As)
    (hg : g.method = m) (hn : As.length = n) (hsize : g.locals.size = nL) (hstack : g.stack = As.reverse ++ .ref b :: rest) (hW : 2 * g.monitorRoom + (rest.map fun v => v.category).sum ≤ 8) (hdg : decode cc g.pc = .ok (.invokevirtual index, 3)) (hf : cells + mc ≤ R.cells ∧ slots + ms ≤ R.slots) :
    vx_Run p l e R s m args below meth c H locs cells slots mc ms g rest (Qc (Value.ref b :: As).toArray) XC free := by
  obtain ⟨⟨hrc, hrs, hfr, hlo, hws, hcw⟩, hcode, hini, hy, hlen, hl, hin, hse⟩ := cw
  have hK : vx_Back l R p e below s args y 3 8 (PreOf R mc ms Pc) (PostOf Qc mc ms free) (vx_Post XC mc ms free) := vx_backW (hh := hh) (bytes := bytes) (maxL := maxL) (ret := ret) hM hp.1 hrc hrs hfr hlo hws hcw (fun a' U hW => word_at hW (Or.inl (by first | rfl | simp [Cond.onTables, Cond.keeps, Cond.steady])) hini)
  obtain ⟨hx, hb, hml, ho, -⟩ := S
  obtain ⟨-, ⟨cellB, hcB, hoB, hclB⟩, hPc⟩ := hp
  intro T hT X
  rcases vx_callVX X hx (C := C) (hh := hh) (bytes := bytes) (maxL := maxL) (ret := ret) ho hl hin hse hcode hy hK (by rw [hT]; exact hcB) hoB hclB hg (hsize.trans hml.symm) (argsL := As) (rest := rest) (fun sig h => hn.trans (hlen sig h)) hstack hW (by rw [hb]; exact hdg)
    (fun vm₁ hW₁ => ⟨hf.1, hf.2, hPc (T.setVm vm₁) hT hW₁⟩) with ⟨v, vm₁, ⟨U', l2, c2, s2⟩, hW₁, X', ⟨g', mk, t, L, e1, e2, hq, h1, hL, h2, h3⟩, st⟩ | ⟨q, vm₁, ⟨U', l2, c2, s2⟩, hW₁, X', ⟨g', mk, t, L, E, ce, e1, e2, hq, hce, hcv, hcl, h1, hL, h2, h3⟩, st⟩
  · dsimp only [Pt.U, Pt.locs, Pt.cells, Pt.slots] at X' e1 e2 h1 h2 h3 st
    subst h1; subst h2; subst h3
    exact Or.inl ⟨v, (T.setVm vm₁).calling g' mk (Value.ref b :: As).toArray, t, U', L, hT, X', hL, e1, e2, hq, st⟩
  · dsimp only [Pt.U, Pt.locs, Pt.cells, Pt.slots] at X' e1 e2 h1 h2 h3 st hcl
    subst h1; subst h2; subst h3
    exact Or.inr ⟨q, (T.setVm vm₁).calling g' mk (Value.ref b :: As).toArray, t, U', L, E, ce, hT, X', hL, e1, e2, hq, hce, hcv, vx_cls hW₁ hcl, st⟩
theorem vx_runSX {hh : List (Nat × Nat × Nat × Nat)} (S : CallFix p m c cc nL s args Ts own) (hM : vx_Met l y ws rm Pc Qc XC mc ms free) (cw : vx_CSW R s args own index y bytes maxL ret hh ws rm mc ms n) (hp : PreS s H Pc As)
    (hg : g.method = m) (hn : As.length = n) (hsize : g.locals.size = nL) (hstack : g.stack = As.reverse ++ rest) (hW : 2 * g.monitorRoom + (rest.map fun v => v.category).sum ≤ 8) (hdg : decode cc g.pc = .ok (.invokestatic index, 3)) (hf : cells + mc ≤ R.cells ∧ slots + ms ≤ R.slots) :
    vx_Run p l e R s m args below meth c H locs cells slots mc ms g rest (Qc As.toArray) XC free := by
  obtain ⟨⟨hrc, hrs, hfr, hlo, hws, hcw⟩, hcode, hini, hy, hlen, hl, hstt⟩ := cw
  have hK : vx_Back l R p e below s args y 3 8 (PreOf R mc ms Pc) (PostOf Qc mc ms free) (vx_Post XC mc ms free) := vx_backW (hh := hh) (bytes := bytes) (maxL := maxL) (ret := ret) hM hp.1 hrc hrs hfr hlo hws hcw (fun a' U hW => word_at hW (Or.inl (by first | rfl | simp [Cond.onTables, Cond.keeps, Cond.steady])) hini)
  obtain ⟨hx, hb, hml, ho, -⟩ := S
  intro T hT X
  rcases vx_callSX X hx (hh := hh) (bytes := bytes) (maxL := maxL) (ret := ret) ho hl hstt hini hcode hy hK hg (hsize.trans hml.symm) (argsL := As) (rest := rest) (fun sig h => hn.trans (hlen sig h)) hstack hW (by rw [hb]; exact hdg)
    (fun vm₁ hW₁ => ⟨hf.1, hf.2, hp.2 (T.setVm vm₁) hT hW₁⟩) with ⟨v, vm₁, ⟨U', l2, c2, s2⟩, hW₁, X', ⟨g', mk, t, L, e1, e2, hq, h1, hL, h2, h3⟩, st⟩ | ⟨q, vm₁, ⟨U', l2, c2, s2⟩, hW₁, X', ⟨g', mk, t, L, E, ce, e1, e2, hq, hce, hcv, hcl, h1, hL, h2, h3⟩, st⟩
  · dsimp only [Pt.U, Pt.locs, Pt.cells, Pt.slots] at X' e1 e2 h1 h2 h3 st
    subst h1; subst h2; subst h3
    exact Or.inl ⟨v, (T.setVm vm₁).calling g' mk As.toArray, t, U', L, hT, X', hL, e1, e2, hq, st⟩
  · dsimp only [Pt.U, Pt.locs, Pt.cells, Pt.slots] at X' e1 e2 h1 h2 h3 st hcl
    subst h1; subst h2; subst h3
    exact Or.inr ⟨q, (T.setVm vm₁).calling g' mk As.toArray, t, U', L, E, ce, hT, X', hL, e1, e2, hq, hce, hcv, vx_cls hW₁ hcl, st⟩
end
end VXH
theorem vx_ofWH {l : Launch} {y : MethodName} {ws ws' : List Cond} {rm : Room} {Pc : Array Value → State → Prop} {Qc : Array Value → State → Outcome → State → Prop} {XC : String → State → State → Prop} {mc ms : Nat} {free : Addr → Prop} {cc : ByteArray} {maxL : Nat} {ret : Option FieldType} {hh : List (Nat × Nat × Nat × Nat)}
    (hy : plainName y.cls = true) (hw : ws = Cond.codeWith y cc maxL ret hh :: ws')
    (body : ∀ p e s m args below meth c s₁, BodyLoose p l y (headSpec ws rm) cc maxL ret e s m args below meth c s₁ → c.maxLocals = maxL → Pc args s →
      W p l e (headSpec ws rm).room s m args below meth c s.heap [] 0 0 (vx_MQ below Qc XC args s mc ms free) (entryFrame m args maxL)) : vx_Met l y ws rm Pc Qc XC mc ms free := by
  refine MetFree.of_bodyS (code := cc) (maxLocals := maxL) (ret := ret) hy ?_ ?_
  · intro args s m h hn
    obtain ⟨m9, meth, c, hn9, h1, h2, h3, h4, -, h5, h6, -⟩ := Cond.codeWith_spec (atoms_spec (ws := ws) h _ (by rw [hw]; exact List.mem_cons_self))
    cases hn.symm.trans hn9
    exact ⟨meth, c, h1, h2, h3, h4, h5, h6⟩
  · intro p e s m args below meth c s₁ B hml hP _
    have hh0 : s₁.heap = s.heap := by rw [B.state]; rfl
    obtain ⟨t, a1, o, b1, b2, b3⟩ := body p e s m args below meth c s₁ B hml hP s₁ hh0 (Stand.of_body B)
    exact ⟨t, o, a1, b1, b2, b3⟩
/-! ===== END ===== -/
end
section
/-! contracts, calls, returns -/
abbrev Wp : Type := List Value → Mm → (Option Value → Mm → Prop) → Prop
theorem nl_tab : ∀ w ∈ NL, w.onTables = true := by decide +kernel
theorem nl_eq {U V : State} (h : U.vm = V.vm) (hN : ∀ w ∈ NL, va_Nw w U) : ∀ w ∈ NL, va_Nw w V := fun w hw => va_tabs (nl_tab w hw) h (hN w hw)
def NO (U : State) : Prop := (∀ w ∈ NL, va_Nw w U) ∧ va_AO RX1 U ∧ va_AO RX2 U
def Pcx (E : va_G × (Nat → ClassId)) (ad : Nat → Nat) (sz : Nat) (X : Mm) (a : List Value) (pre : Prop) : Array Value → State → Prop :=
  va_Pc (a.map (conc ad)) (fun U => U.heap.size = sz ∧ pre ∧ WFx X ∧ va_P E.1 vcl (wl E.2 ad X) U.heap ∧ va_K E.1 vcl (vtys E.2) U ∧ va_D (fun _ => True) (wl E.2 ad X) ∧ ∀ w ∈ NL, va_Nw w U)
def Qcx (fl : Bool) (E : va_G × (Nat → ClassId)) (ad : Nat → Nat) (X : Mm) (mc ms : Nat) (A : Nat → Prop) (post : Option Value → Mm → Prop) : Array Value → State → Outcome → State → Prop := fun _ st o t =>
  ∃ (r : Option Value) (X' : Mm) (ad' : Nat → Nat), o = .returned (r.map (conc ad')) ∧ post r X' ∧ WFx X' ∧ xn X ≤ xn X' ∧ (∀ k, (k < xn X ∨ k = 999) → ad' k = ad k) ∧ (fl = true → xn X' = xn X ∧ ad' = ad) ∧ xc X' = xc X + mc ∧ xs X' = xs X + ms ∧ va_P E.1 vcl (wl E.2 ad' X') t.heap ∧ va_D A (wl E.2 ad' X') ∧ va_F A st t
abbrev rmx (lv mc ms : Nat) : Room := { frames := lv, cells := mc, slots := ms, locals := 36 * lv }
abbrev wsx (y : MethodName) (cc : ByteArray) (maxL : Nat) (ret : Option FieldType) : List Cond := Cond.code y cc maxL ret :: GL
def MetS (l : Launch) (y : MethodName) (cc : ByteArray) (maxL : Nat) (ret : Option FieldType) (fl : Bool) (lv mc ms : Nat) (w : Wp) : Prop :=
  ∀ (E : va_G × (Nat → ClassId)) (ad : Nat → Nat) (sz : Nat) (X : Mm) (a : List Value) (post : Option Value → Mm → Prop), Met l y (wsx y cc maxL ret) (rmx lv mc ms) (Pcx E ad sz X a (w a X post)) (Qcx fl E ad X mc ms (va_A (wl E.2 ad X) sz) post) mc ms (va_A (wl E.2 ad X) sz)
theorem pcx_blind {E : va_G × (Nat → ClassId)} {ad : Nat → Nat} {sz : Nat} {X : Mm} {a : List Value} {pre : Prop} : FrameBlind (Pcx E ad sz X a pre) := by
  intro b U g mk ⟨h0, h1, h2, h3, h4, h5, h6, h7⟩
  exact ⟨h0, h1, h2, h3, h4, va_K.moved (u := U) (U := U.calling g mk b) (Vm.Alike.refl U.vm) h5, h6, nl_eq (U := U) (V := U.calling g mk b) rfl h7⟩
def RetZ (Z : Zt) (fl : Bool) (X0 : Mm) (mc ms : Nat) (post : Option Value → Mm → Prop) : Prop :=
  zc0 Z = xc X0 ∧ zs0 Z = xs X0 ∧ zn0 Z = xn X0 ∧ zcm Z = xc X0 + mc ∧ zsm Z = xs X0 + ms ∧ zfl Z = fl ∧
  (zQ Z = MQ (zb Z) (Qcx fl (zE Z) (zad Z) X0 mc ms (zA Z) post) (za Z) (zs Z) mc ms (zA Z) ∨ ∃ XC, zQ Z = vx_MQ (zb Z) (Qcx fl (zE Z) (zad Z) X0 mc ms (zA Z) post) XC (za Z) (zs Z) mc ms (zA Z))
section CallRows
variable {Z : Zt} {cc : ByteArray} {nL lv : Nat} {own : String} {pc : Nat} {k : Kk} {fl : Bool} {X0 : Mm} {mc ms : Nat} {post : Option Value → Mm → Prop}
theorem wl_bump {cy : Nat → ClassId} {ad : Nat → Nat} {X : Mm} {c s : Nat} : wl cy ad (xbump X c s) = wl cy ad X := rfl
theorem q_of {X : Mm} {ad : Nat → Nat} {H : Heap} {locs : List Loc} {cells slots : Nat} (hw : Hw Z X ad H locs cells slots) (hq : RetZ Z fl X0 mc ms post) {r : Option Value} (hp : post r (xbump X (xc X0 + mc) (xs X0 + ms))) {t : State} (ht : t.heap = H) (a : Array Value) :
    Qcx fl (zE Z) (zad Z) X0 mc ms (zA Z) post a (zs Z) (.returned (r.map (conc ad))) t := by
  obtain ⟨q1, q2, q3, q4, q5, q6, -⟩ := hq
  obtain ⟨h1, h2, h3, h4, h5, h6, h7, h8, h9, h10, h11⟩ := hw
  refine ⟨r, xbump X (xc X0 + mc) (xs X0 + ms), ad, rfl, hp, h8, ?_, ?_, ?_, rfl, rfl, ?_, h10, h11.F ht⟩
  · rw [← q3]; exact h5
  · rw [← q3]; exact h6
  · intro hf; rw [← q3]; exact h7 (q6.trans hf)
  · rw [ht]; exact h9
theorem qq_of {H : Heap} {locs : List Loc} {cells slots : Nat} {pc : Nat} {ls : Array Slot} {st : List Value} (hq : RetZ Z fl X0 mc ms post)
    (h : W (zp Z) (zl Z) (ze Z) (zR Z) (zs Z) (zm Z) (za Z) (zb Z) (zM Z) (zc Z) H locs cells slots (MQ (zb Z) (Qcx fl (zE Z) (zad Z) X0 mc ms (zA Z) post) (za Z) (zs Z) mc ms (zA Z)) (F0 (zm Z) pc ls st)) : Ww Z H locs cells slots (F0 (zm Z) pc ls st) := by
  rcases hq.2.2.2.2.2.2 with e | ⟨XC, e⟩
  · show W _ _ _ _ _ _ _ _ _ _ _ _ _ _ (zQ Z) _
    rw [e]; exact h
  · show W _ _ _ _ _ _ _ _ _ _ _ _ _ _ (zQ Z) _
    rw [e]; exact vx_ret h
def i_iret (post : Option Value → Mm → Prop) : Kk := fun _ st X => match st with
  | [.int v] => post (some (.int v)) X
  | _ => False
def i_zret (post : Option Value → Mm → Prop) : Kk := fun _ st X => match st with
  | [.int v] => (v = 0 ∨ v = 1) ∧ post (some (.int v)) X
  | _ => False
def i_aret (post : Option Value → Mm → Prop) : Kk := fun _ st X => match st with
  | [.ref v] => post (some (.ref v)) X
  | _ => False
def i_dret (post : Option Value → Mm → Prop) : Kk := fun _ st X => match st with
  | [.double v] => post (some (.double v)) X
  | _ => False
def i_vret (post : Option Value → Mm → Prop) : Kk := fun _ st X => match st with
  | [] => post none X
  | _ => False
abbrev bp (post : Option Value → Mm → Prop) (c s : Nat) : Option Value → Mm → Prop := fun r X => post r (xbump X c s)
theorem hcell {X : Mm} {ad : Nat → Nat} {H : Heap} {locs : List Loc} {cells slots : Nat} (hw : Hw Z X ad H locs cells slots) (hq : RetZ Z fl X0 mc ms post) : cells ≤ mc ∧ slots ≤ ms := by
  obtain ⟨q1, q2, q3, q4, q5, -⟩ := hq
  obtain ⟨h1, h2, h3, h4, -⟩ := hw
  omega
theorem s_iret (g : Good Z cc nL own lv) (hq : RetZ Z fl X0 mc ms post) (hr : (zM Z).sig.returnType = some .int) (d : decode cc pc = .ok (.ireturn, 1)) : Snd Z nL pc (i_iret (bp post (xc X0 + mc) (xs X0 + ms))) := by
  intro l st X hk ad H locs ls cells slots hw hl
  unfold i_iret at hk
  split at hk
  · next v =>
    refine qq_of hq ?_
    refine W.widen (hcell hw hq).1 (hcell hw hq).2 ?_
    exact W.iret g.hx g.hb hr (fun t ht hW => q_of hw hq (r := some (.int v)) hk ht _) hw.S.2.2 d g.hlk
  · exact hk.elim
theorem s_zret (g : Good Z cc nL own lv) (hq : RetZ Z fl X0 mc ms post) (hr : (zM Z).sig.returnType = some .boolean) (d : decode cc pc = .ok (.ireturn, 1)) : Snd Z nL pc (i_zret (bp post (xc X0 + mc) (xs X0 + ms))) := by
  intro l st X hk ad H locs ls cells slots hw hl
  unfold i_zret at hk
  split at hk
  · next v =>
    refine qq_of hq ?_
    refine W.widen (hcell hw hq).1 (hcell hw hq).2 ?_
    exact W.zret g.hx g.hb hr (by rcases hk.1 with rfl | rfl <;> rfl) (fun t ht hW => q_of hw hq (r := some (.int v)) hk.2 ht _) hw.S.2.2 d g.hlk
  · exact hk.elim
theorem s_aret (g : Good Z cc nL own lv) (hq : RetZ Z fl X0 mc ms post) {C : String} (hr : (zM Z).sig.returnType = some (.object C)) (d : decode cc pc = .ok (.areturn, 1)) : Snd Z nL pc (i_aret (bp post (xc X0 + mc) (xs X0 + ms))) := by
  intro l st X hk ad H locs ls cells slots hw hl
  unfold i_aret at hk
  split at hk
  · next v =>
    refine qq_of hq ?_
    refine W.widen (hcell hw hq).1 (hcell hw hq).2 ?_
    exact W.aret g.hx g.hb hr (Or.inl ⟨_, rfl⟩) (Or.inr ⟨_, rfl⟩) (fun t ht hW => q_of hw hq (r := some (.ref v)) hk ht _) hw.S.2.2 d g.hlk
  · exact hk.elim
theorem s_dret (g : Good Z cc nL own lv) (hq : RetZ Z fl X0 mc ms post) (hr : (zM Z).sig.returnType = some .double) (d : decode cc pc = .ok (.dreturn, 1)) : Snd Z nL pc (i_dret (bp post (xc X0 + mc) (xs X0 + ms))) := by
  intro l st X hk ad H locs ls cells slots hw hl
  unfold i_dret at hk
  split at hk
  · next v =>
    refine qq_of hq ?_
    refine W.widen (hcell hw hq).1 (hcell hw hq).2 ?_
    exact W.dret g.hx g.hb hr (fun t ht hW => q_of hw hq (r := some (.double v)) hk ht _) hw.S.2.2 d g.hlk
  · exact hk.elim
theorem s_vret (g : Good Z cc nL own lv) (hq : RetZ Z fl X0 mc ms post) (hr : (zM Z).sig.returnType = none) (d : decode cc pc = .ok (.return_, 1)) : Snd Z nL pc (i_vret (bp post (xc X0 + mc) (xs X0 + ms))) := by
  intro l st X hk ad H locs ls cells slots hw hl
  unfold i_vret at hk
  split at hk
  · refine qq_of hq ?_
    refine W.widen (hcell hw hq).1 (hcell hw hq).2 ?_
    exact W.vret g.hx g.hb hr (fun t ht hW => q_of hw hq (r := none) hk ht _) hw.S.2.2 d g.hlk
  · exact hk.elim
-- a plain method (no room): what it ends with is what its continuation gets
theorem s_plain (hq : RetZ Z true X0 0 0 post) {kk : (Option Value → Mm → Prop) → Kk} (hkk : ∀ (p q : Option Value → Mm → Prop) (l : List (Nat × Value)) (st : List Value) (X : Mm), (∀ r, p r X → q r X) → kk p l st X → kk q l st X) (h : Snd Z nL pc (kk (bp post (xc X0 + 0) (xs X0 + 0)))) : Snd Z nL pc (kk post) := by
  intro l st X hk ad H locs ls cells slots hw hl
  refine h l st X (hkk _ _ _ _ _ (fun r hr => ?_) hk) ad H locs ls cells slots hw hl
  obtain ⟨q1, q2, q3, q4, q5, -⟩ := hq
  obtain ⟨h1, h2, h3, h4, -⟩ := hw
  have e1 : xc X0 + 0 = xc X := by omega
  have e2 : xs X0 + 0 = xs X := by omega
  show post r (xbump X (xc X0 + 0) (xs X0 + 0))
  rw [e1, e2]
  exact hr
theorem i_iret_mono (p q : Option Value → Mm → Prop) (l : List (Nat × Value)) (st : List Value) (X : Mm) (h : ∀ r, p r X → q r X) (hk : i_iret p l st X) : i_iret q l st X := by
  unfold i_iret at *; split at hk
  · exact h _ hk
  · exact hk.elim
theorem i_zret_mono (p q : Option Value → Mm → Prop) (l : List (Nat × Value)) (st : List Value) (X : Mm) (h : ∀ r, p r X → q r X) (hk : i_zret p l st X) : i_zret q l st X := by
  unfold i_zret at *; split at hk
  · exact ⟨hk.1, h _ hk.2⟩
  · exact hk.elim
theorem i_aret_mono (p q : Option Value → Mm → Prop) (l : List (Nat × Value)) (st : List Value) (X : Mm) (h : ∀ r, p r X → q r X) (hk : i_aret p l st X) : i_aret q l st X := by
  unfold i_aret at *; split at hk
  · exact h _ hk
  · exact hk.elim
theorem i_dret_mono (p q : Option Value → Mm → Prop) (l : List (Nat × Value)) (st : List Value) (X : Mm) (h : ∀ r, p r X → q r X) (hk : i_dret p l st X) : i_dret q l st X := by
  unfold i_dret at *; split at hk
  · exact h _ hk
  · exact hk.elim
theorem i_vret_mono (p q : Option Value → Mm → Prop) (l : List (Nat × Value)) (st : List Value) (X : Mm) (h : ∀ r, p r X → q r X) (hk : i_vret p l st X) : i_vret q l st X := by
  unfold i_vret at *; split at hk
  · exact h _ hk
  · exact hk.elim
theorem s_iret0 (g : Good Z cc nL own lv) (hq : RetZ Z true X0 0 0 post) (hr : (zM Z).sig.returnType = some .int) (d : decode cc pc = .ok (.ireturn, 1)) : Snd Z nL pc (i_iret post) := s_plain hq i_iret_mono (s_iret g hq hr d)
theorem s_zret0 (g : Good Z cc nL own lv) (hq : RetZ Z true X0 0 0 post) (hr : (zM Z).sig.returnType = some .boolean) (d : decode cc pc = .ok (.ireturn, 1)) : Snd Z nL pc (i_zret post) := s_plain hq i_zret_mono (s_zret g hq hr d)
theorem s_aret0 (g : Good Z cc nL own lv) (hq : RetZ Z true X0 0 0 post) {C : String} (hr : (zM Z).sig.returnType = some (.object C)) (d : decode cc pc = .ok (.areturn, 1)) : Snd Z nL pc (i_aret post) := s_plain hq i_aret_mono (s_aret g hq hr d)
theorem s_dret0 (g : Good Z cc nL own lv) (hq : RetZ Z true X0 0 0 post) (hr : (zM Z).sig.returnType = some .double) (d : decode cc pc = .ok (.dreturn, 1)) : Snd Z nL pc (i_dret post) := s_plain hq i_dret_mono (s_dret g hq hr d)
theorem s_vret0 (g : Good Z cc nL own lv) (hq : RetZ Z true X0 0 0 post) (hr : (zM Z).sig.returnType = none) (d : decode cc pc = .ok (.return_, 1)) : Snd Z nL pc (i_vret post) := s_plain hq i_vret_mono (s_vret g hq hr d)
-- calls of plain methods
def i_callS (n : Nat) (w : Wp) (k : Kk) : Kk := fun l st X => (st.take n).length = n ∧ ((st.drop n).map (fun v => v.category)).sum ≤ 8 ∧ w (st.take n).reverse X (fun r X' => k l (r.toList ++ st.drop n) X')
def i_callV (n c : Nat) (w : Wp) (k : Kk) : Kk := fun l st X => (st.take n).length = n ∧ (match st.drop n with
  | .ref o :: rest => o < xn X ∧ xk X o = c ∧ (rest.map (fun v => v.category)).sum ≤ 8 ∧ w (.ref o :: (st.take n).reverse) X (fun r X' => k l (r.toList ++ rest) X')
  | _ => False)
theorem cat_map (ad : Nat → Nat) (r : List Value) : ((r.map (conc ad)).map (fun v => v.category)) = r.map (fun v => v.category) := by
  rw [List.map_map]
  apply List.map_congr_left
  intro v _
  exact conc_cat ad v
theorem opt_map (ad : Nat → Nat) (r : Option Value) : (r.map (conc ad)).toList = r.toList.map (conc ad) := by cases r <;> rfl
/-- behind a call of a plain method -/
theorem s_ran {y9 : Array Value} {X : Mm} {ad : Nat → Nat} {H : Heap} {locs : List Loc} {ls : Array Slot} {cells slots : Nat} {l : List (Nat × Value)} {st0 : List Value} {rest : List Value} (h : Snd Z nL (pc + 3) k) (g : Good Z cc nL own lv) (hw : Hw Z X ad H locs cells slots) (hl : lv_has ls nL (l.map (cq ad)))
    (hr : va_Run (zp Z) (zl Z) (ze Z) (zR Z) (zs Z) (zm Z) (za Z) (zb Z) (zM Z) (zc Z) H locs cells slots 0 0 (F0 (zm Z) pc ls st0) (rest.map (conc ad)) (Qcx true (zE Z) ad X 0 0 (va_A (wl (zE Z).2 ad X) H.size) (fun r X' => k l (r.toList ++ rest) X') y9) (va_A (wl (zE Z).2 ad X) H.size)) :
    Ww Z H locs cells slots (F0 (zm Z) pc ls st0) := by
  intro T hT Xs
  obtain ⟨v, s0, t, T', L, h0, X', hL, e1, e2, ⟨r, X1, ad1, hv, hp, hWF, hn1, had, hfl, hc1, hs1, hP1, hD1, hF⟩, go⟩ := hr T hT Xs
  obtain ⟨hn2, rfl⟩ := hfl rfl
  cases hv
  have hA : ∀ q, va_A (wl (zE Z).2 ad1 X) H.size q → zA Z q := by
    intro q hq
    rcases hq with ⟨i, e, hq⟩ | hq
    · exact hw.D.2 i _ hq
    · exact g.hA q (Nat.le_trans hw.S.1 hq)
  have hS1 : va_S (zA Z) (zs Z).heap T'.heap (locs ++ L) := by
    obtain ⟨z1, z2⟩ := hF
    rw [h0] at z1 z2
    refine ⟨Nat.le_trans hw.S.1 (by rw [e1]; exact z1), fun q q1 q2 => ?_, fun q hq => ?_⟩
    · rw [e1, z2 q (Nat.lt_of_lt_of_le q1 hw.S.1) (fun z => q2 (hA q z))]
      exact hw.S.2.1 q q1 q2
    · rcases List.mem_append.mp hq with hq | hq
      · exact hw.S.2.2 q hq
      · exact hA _ (hL q hq)
  have hw1 : Hw Z X1 ad1 T'.heap (locs ++ L) (cells + 0) (slots + 0) := by
    obtain ⟨h1, h2, h3, h4, h5, h6, h7, h8, h9, h10, h11⟩ := hw
    refine ⟨by omega, by omega, by omega, by omega, by omega, h6, fun q => ⟨hn2.trans (h7 q).1, (h7 q).2⟩, hWF, by rw [e1]; exact hP1, hD1.weaken (fun _ _ _ q => hA _ q), hS1⟩
  obtain ⟨t2, a1, b1⟩ := h l (r.toList ++ rest) X1 hp ad1 T'.heap (locs ++ L) ls (cells + 0) (slots + 0) hw1 hl T' rfl X'
  refine ⟨t2, go t2 ?_, b1⟩
  have e3 : (r.map (conc ad1)).toList ++ rest.map (conc ad1) = (r.toList ++ rest).map (conc ad1) := by rw [opt_map, List.map_append]
  show Steps _ _ _ (T'.setTop (F0 (zm Z) (pc + 3) ls ((r.map (conc ad1)).toList ++ rest.map (conc ad1)))) t2
  rw [e3]
  exact a1
theorem pre_of {X : Mm} {ad : Nat → Nat} {H : Heap} {locs : List Loc} {cells slots : Nat} {a : List Value} {pre : Prop} (g : Good Z cc nL own lv) (hw : Hw Z X ad H locs cells slots) (hp : pre) (hnw : ∀ U : State, (zs Z).WarmedH U.vm → ∀ w ∈ NL, va_Nw w U) : ∀ U : State, U.heap = H → (zs Z).WarmedH U.vm → Pcx (zE Z) ad H.size X a pre (a.map (conc ad)).toArray U :=
  fun U hU hW => ⟨rfl, by rw [hU], hp, hw.W, by rw [hU]; exact hw.P, va_K.moved hW.alike g.hK, hw.D.weaken (fun _ _ _ _ => trivial), hnw U hW⟩
end CallRows
end
section
/-! calls by contract; contracts out of bodies; switches -/
section MetRows
variable {Z : Zt} {cc : ByteArray} {nL lv : Nat} {own : String} {pc : Nat} {k : Kk}
theorem gin_of {ws : List Cond} (h : ∀ w ∈ ws, w ∈ GL) : GoodIn GL ws := fun w hw => ⟨h w hw, good_of_word (gl_good (h w hw))⟩
theorem gin_x {y : MethodName} {cy : ByteArray} {maxL : Nat} {ret : Option FieldType} (h : Cond.code y cy maxL ret ∈ GL) : GoodIn GL (wsx y cy maxL ret) := gin_of (fun w hw => by
  rcases List.mem_cons.mp hw with rfl | hw
  · exact h
  · exact hw)
theorem gin_V {C : String} {i : Nat} {y : MethodName} {cy : ByteArray} {maxL : Nat} {ret : Option FieldType} (h1 : Cond.methodLink own i y ∈ GL) (h2 : Cond.instanceMethod y ∈ GL) (h3 : Cond.selects C y y ∈ GL) (h4 : Cond.initialized C ∈ GL) (h5 : Cond.code y cy maxL ret ∈ GL) : GoodIn GL (wsV own i C y (wsx y cy maxL ret)) := gin_of (fun w hw => by
  unfold wsV at hw
  rcases List.mem_append.mp hw with hw | hw
  · simp only [List.mem_cons, List.not_mem_nil, or_false] at hw
    rcases hw with rfl | rfl | rfl | rfl
    · exact h1
    · exact h2
    · exact h3
    · exact h4
  · exact (gin_x h5 w hw).1)
theorem gin_S {i : Nat} {y : MethodName} {cy : ByteArray} {maxL : Nat} {ret : Option FieldType} (h1 : Cond.methodLink own i y ∈ GL) (h2 : Cond.static y ∈ GL) (h4 : Cond.initialized y.cls ∈ GL) (h5 : Cond.code y cy maxL ret ∈ GL) : GoodIn GL (va_wsS own i y (wsx y cy maxL ret)) := gin_of (fun w hw => by
  unfold va_wsS at hw
  rcases List.mem_append.mp hw with hw | hw
  · simp only [List.mem_cons, List.not_mem_nil, or_false] at hw
    rcases hw with rfl | rfl | rfl
    · exact h1
    · exact h2
    · exact h4
  · exact (gin_x h5 w hw).1)
theorem take_rev {n : Nat} {st : List Value} (ad : Nat → Nat) : st.map (conc ad) = ((st.take n).reverse.map (conc ad)).reverse ++ (st.drop n).map (conc ad) := by
  rw [List.map_reverse, List.reverse_reverse, ← List.map_append, List.take_append_drop]
theorem s_callV (g : Good Z cc nL own lv) {n c i lvy maxL N : Nat} {C : String} {T : u_T} {y : MethodName} {cy : ByteArray} {ret : Option FieldType} {w : Wp} (hM : MetS (zl Z) y cy maxL ret true lvy 0 0 w) (hT : GoodIn GL (wsV own i C y (wsx y cy maxL ret)))
    (hd : y.cls = C ∧ y.cls ≠ "java/lang/invoke/MethodHandle" ∧ y.cls ≠ "java/lang/invoke/VarHandle" ∧ (parseMethodDescriptor y.desc).map (fun d => d.parameters.length) = some n) (hc : vcl[c]? = some (C, T, N)) (hc1 : c < 10) (hlv : lvy + 1 ≤ lv) (hm : maxL ≤ 17)
    (d : decode cc pc = .ok (.invokevirtual i, 3)) (h : Snd Z nL (pc + 3) k) : Snd Z nL pc (i_callV n c w k) := by
  intro l st X hk ad H locs ls cells slots hw hl
  unfold i_callV at hk
  obtain ⟨hn, hk⟩ := hk
  split at hk
  · next o rest e =>
    obtain ⟨ho, hko, hcat, hk⟩ := hk
    have hfr := g.hfr
    have hlo := g.hlo
    have hcm := g.hcm
    have hsm := g.hsm
    obtain ⟨z1, z2, z3, z4, -⟩ := id hw
    have hst : st.map (conc ad) = ((st.take n).reverse.map (conc ad)).reverse ++ .ref (ad o) :: rest.map (conc ad) := by
      rw [take_rev (n := n), e]; rfl
    rw [hst]
    refine s_ran h g hw hl (va_runV (As := (st.take n).reverse.map (conc ad)) (rest := rest.map (conc ad)) ⟨g.hx, g.hb, g.hml, g.hown, g.hG⟩ (hM (zE Z) ad H.size X (.ref o :: (st.take n).reverse) (fun r X' => k l (r.toList ++ rest) X')) (cwV n g.hG hT rfl rfl rfl hd ⟨Nat.le_trans hlv hfr, ?_⟩) ⟨pcx_blind, va_recv g.hK hw.P hc (fs := vfld c ad (xm X o) (xr X o)) (by rw [wl_get ho, cnt_obj hko hc1]), pre_of g hw hk (fun U hW => nl_warm hW g.hN)⟩ rfl (by rw [List.length_map, List.length_reverse]; exact hn) hl.1 rfl (lv_room (by rw [cat_map]; exact hcat)) d ⟨by omega, by omega⟩)
    show 8 + (maxL + 11) + 36 * lvy ≤ _
    omega
  · exact hk.elim
theorem s_callS (g : Good Z cc nL own lv) {n i lvy maxL : Nat} {y : MethodName} {cy : ByteArray} {ret : Option FieldType} {w : Wp} (hM : MetS (zl Z) y cy maxL ret true lvy 0 0 w) (hT : GoodIn GL (va_wsS own i y (wsx y cy maxL ret)))
    (hd : y.cls ≠ "java/lang/invoke/MethodHandle" ∧ y.cls ≠ "java/lang/invoke/VarHandle" ∧ (parseMethodDescriptor y.desc).map (fun d => d.parameters.length) = some n) (hlv : lvy + 1 ≤ lv) (hm : maxL ≤ 17)
    (d : decode cc pc = .ok (.invokestatic i, 3)) (h : Snd Z nL (pc + 3) k) : Snd Z nL pc (i_callS n w k) := by
  intro l st X hk ad H locs ls cells slots hw hl
  unfold i_callS at hk
  obtain ⟨hn, hcat, hk⟩ := hk
  have hfr := g.hfr
  have hlo := g.hlo
  have hcm := g.hcm
  have hsm := g.hsm
  obtain ⟨z1, z2, z3, z4, -⟩ := id hw
  rw [take_rev (n := n) (st := st)]
  refine s_ran h g hw hl (va_runS (As := (st.take n).reverse.map (conc ad)) (rest := (st.drop n).map (conc ad)) ⟨g.hx, g.hb, g.hml, g.hown, g.hG⟩ (hM (zE Z) ad H.size X (st.take n).reverse (fun r X' => k l (r.toList ++ st.drop n) X')) (va_cwS n g.hG hT rfl rfl rfl hd ⟨Nat.le_trans hlv hfr, ?_⟩) ⟨pcx_blind, pre_of g hw hk (fun U hW => nl_warm hW g.hN)⟩ rfl (by rw [List.length_map, List.length_reverse]; exact hn) hl.1 rfl (lv_room (by rw [cat_map]; exact hcat)) d ⟨by omega, by omega⟩)
  show 8 + (maxL + 11) + 36 * lvy ≤ _
  omega
theorem s_callSN (g : Good Z cc nL own lv) {n i lvy maxL : Nat} {host : String} {y : MethodName} {cy : ByteArray} {ret : Option FieldType} {w : Wp} (hM : MetS (zl Z) y cy maxL ret true lvy 0 0 w) (hN : Cond.methodLinkNest own i y host ∈ NL) (h1 : Cond.static y ∈ GL) (h2 : Cond.initialized y.cls ∈ GL) (h5 : Cond.code y cy maxL ret ∈ GL)
    (hd : y.cls ≠ "java/lang/invoke/MethodHandle" ∧ y.cls ≠ "java/lang/invoke/VarHandle" ∧ (parseMethodDescriptor y.desc).map (fun d => d.parameters.length) = some n) (hlv : lvy + 1 ≤ lv) (hm : maxL ≤ 17)
    (d : decode cc pc = .ok (.invokestatic i, 3)) (h : Snd Z nL (pc + 3) k) : Snd Z nL pc (i_callS n w k) := by
  intro l st X hk ad H locs ls cells slots hw hl
  unfold i_callS at hk
  obtain ⟨hn, hcat, hk⟩ := hk
  have hfr := g.hfr
  have hlo := g.hlo
  have hcm := g.hcm
  have hsm := g.hsm
  obtain ⟨z1, z2, z3, z4, -⟩ := id hw
  rw [take_rev (n := n) (st := st)]
  refine s_ran h g hw hl (va_runSN (As := (st.take n).reverse.map (conc ad)) (rest := (st.drop n).map (conc ad)) ⟨g.hx, g.hb, g.hml, g.hown, g.hG⟩ (hM (zE Z) ad H.size X (st.take n).reverse (fun r X' => k l (r.toList ++ st.drop n) X')) ⟨va_cnB n g.hG (gin_x h5) rfl rfl rfl (g.hN _ hN) (g.hG _ h2) hd ⟨Nat.le_trans hlv hfr, ?_⟩, g.hG _ h1, trivial⟩ ⟨pcx_blind, pre_of g hw hk (fun U hW => nl_warm hW g.hN)⟩ rfl (by rw [List.length_map, List.length_reverse]; exact hn) hl.1 rfl (lv_room (by rw [cat_map]; exact hcat)) d ⟨by omega, by omega⟩)
  show 8 + (maxL + 11) + 36 * lvy ≤ _
  omega
-- a contract out of a body
def asz : List Value → Nat
  | [] => 0
  | v :: vs => v.category + asz vs
theorem asz_le (vs : List Value) : (lg_sl vs).length ≤ asz vs := by
  induction vs with
  | nil => exact Nat.le_refl 0
  | cons v vs ih =>
    rcases lv_cat v with h | h
    · have e : (lg_sl (v :: vs)).length = 1 + (lg_sl vs).length := by simp [lg_sl, h]; omega
      rw [e]; show _ ≤ v.category + asz vs; omega
    · have e : (lg_sl (v :: vs)).length = 2 + (lg_sl vs).length := by simp [lg_sl, h]; omega
      rw [e]; show _ ≤ v.category + asz vs; omega
theorem lg_sl_conc (ad : Nat → Nat) (vs : List Value) : (lg_sl (vs.map (conc ad))).length = (lg_sl vs).length := by
  induction vs with
  | nil => rfl
  | cons v vs ih =>
    rcases lv_cat v with h | h
    · have h2 : (conc ad v).category = 1 := (conc_cat ad v).trans h
      simp [lg_sl, h, h2] at ih ⊢
      exact ih
    · have h2 : (conc ad v).category = 2 := (conc_cat ad v).trans h
      simp [lg_sl, h, h2] at ih ⊢
      exact ih
theorem args_conc (ad : Nat → Nat) (vs : List Value) : ∀ i, lv_args i (vs.map (conc ad)) = (lv_args i vs).map (cq ad) := by
  induction vs with
  | nil => intro i; rfl
  | cons v vs ih =>
    intro i
    show (i, conc ad v) :: lv_args (if (conc ad v).category = 2 then i + 2 else i + 1) (vs.map (conc ad)) = cq ad (i, v) :: (lv_args (if v.category = 2 then i + 2 else i + 1) vs).map (cq ad)
    rw [conc_cat, ih]
    rfl
def wpOf (maxL : Nat) (b : Mm → (Option Value → Mm → Prop) → Kk) : Wp := fun a X post => asz a ≤ maxL ∧ b X post (lv_args 0 a) [] X
theorem metS_of {l : Launch} {y : MethodName} {cy : ByteArray} {maxL : Nat} {ret : Option FieldType} {fl : Bool} {lv mc ms : Nat} {b : Mm → (Option Value → Mm → Prop) → Kk} (hy : plainFor y = true)
    (body : ∀ (Z : Zt) (X0 : Mm) (post : Option Value → Mm → Prop), zl Z = l → Good Z cy maxL y.cls lv → RetZ Z fl X0 mc ms post → (zM Z).sig.returnType = ret → (zM Z).name = y.name → Snd Z maxL 0 (b X0 post)) : MetS l y cy maxL ret fl lv mc ms (wpOf maxL b) := by
  intro E ad sz X a post
  refine va_MetF (cc := cy) (maxL := maxL) (ret := ret) hy rfl ?_
  intro p e s m args below meth c s₁ B hml hv
  obtain ⟨rfl, hsz, ⟨hasz, hwp⟩, hWF, hP, hK, hD0, hN⟩ := hv
  subst hsz
  have hl := lv_entry (a.map (conc ad)) (n := maxL) (by rw [lg_sl_conc]; exact Nat.le_trans (asz_le a) hasz)
  rw [lg_entry_eq]
  generalize (lg_sl (a.map (conc ad)) ++ List.replicate (maxL - (lg_sl (a.map (conc ad))).length) Slot.unset).toArray = ls at hl ⊢
  rw [args_conc] at hl
  have hts := atoms_spec (ws := wsx y cy maxL ret) B.pre
  have g : Good ((p, l, e, rmx lv mc ms, s, m, (a.map (conc ad)).toArray, below, meth, c, E, va_A (wl E.2 ad X) s.heap.size, (xc X, xs X, xn X, ad, xc X + mc, xs X + ms, fl), MQ below (Qcx fl E ad X mc ms (va_A (wl E.2 ad X) s.heap.size) post) (a.map (conc ad)).toArray s mc ms (va_A (wl E.2 ad X) s.heap.size)) : Zt) cy maxL y.cls lv :=
    ⟨B.exec, B.bytes, hml, findClass_of_methodNamed B.named, fun w hw => hts w (List.mem_cons_of_mem _ hw), hN, hK, fun q h => Or.inr h, B.notSynchronized, Nat.le_refl _, Nat.le_refl _, Nat.le_refl _, Nat.le_refl _⟩
  exact body _ X post rfl g ⟨rfl, rfl, rfl, rfl, rfl, rfl, Or.inl rfl⟩ B.returns (name_of_methodNamed B.named B.method).1 (lv_args 0 a) [] X hwp ad s.heap [] ls 0 0
    ⟨Nat.zero_add _, Nat.zero_add _, Nat.le_add_right _ _, Nat.le_add_right _ _, Nat.le_refl _, fun _ _ => rfl, fun _ => ⟨rfl, rfl⟩, hWF, hP, hD0.self, va_S.rf⟩ hl
-- switches
def i_tsw (lo : Int) (ks : List Kk) (kd : Kk) : Kk := fun l st X => match st with
  | .int x :: r => if x.toInt < lo ∨ lo + (ks.length : Int) - 1 < x.toInt then kd l r X else (match ks[(x.toInt - lo).toNat]? with
    | some k => k l r X
    | none => False)
  | _ => False
def Tsw (Z : Zt) (nL pc : Nat) (offs : List Int) (ks : List Kk) : Prop := ∀ (j : Nat) (k : Kk), ks[j]? = some k → ∃ (off : Int) (tgt : Nat), offs[j]? = some off ∧ (pc : Int) + off = (tgt : Int) ∧ Snd Z nL tgt k
theorem tsw_nil : Tsw Z nL pc [] [] := fun j k h => by simp at h
theorem tsw_cons {off : Int} {tgt : Nat} {offs : List Int} {ks : List Kk} (ht : (pc : Int) + off = (tgt : Int)) (h : Snd Z nL tgt k) (hr : Tsw Z nL pc offs ks) : Tsw Z nL pc (off :: offs) (k :: ks) := by
  intro j k9 hj
  cases j with
  | zero => cases hj; exact ⟨off, tgt, rfl, ht, h⟩
  | succ j => exact hr j k9 hj
theorem s_tsw (g : Good Z cc nL own lv) {dflt lo hi : Int} {offs : Array Int} {len tgt : Nat} {ks : List Kk} {kd : Kk} (d : decode cc pc = .ok (.tableswitch dflt lo hi offs, len)) (hhi : hi = lo + (ks.length : Int) - 1) (htd : (pc : Int) + dflt = (tgt : Int)) (hk : Tsw Z nL pc offs.toList ks) (hd : Snd Z nL tgt kd) : Snd Z nL pc (i_tsw lo ks kd) := by
  intro l st X h9 ad H locs ls cells slots hw hl
  unfold i_tsw at h9
  split at h9
  · next x r =>
    split at h9
    · next hc => exact lv_tableOut g.hx g.hb d (by rw [hhi]; exact hc) htd (hd _ _ _ h9 ad H locs ls cells slots hw hl)
    · next hc =>
      split at h9
      · next k e =>
        obtain ⟨off, tg, h1, h2, h3⟩ := hk _ _ e
        exact lv_tableIn g.hx g.hb d (fun z => hc (Or.inl z)) (fun z => hc (Or.inr (by rw [← hhi]; exact z))) (by rw [← Array.getElem?_toList]; exact h1) h2 (h3 _ _ _ h9 ad H locs ls cells slots hw hl)
      · exact h9.elim
  · exact h9.elim
end MetRows
end
section
/-! the methods, as continuations, and their contracts (by program out of the bytecode) -/
theorem cok_0 : clsOk 0 "BusTelegrams$Ear" TX0 16 tyX0 := ⟨rfl, cu_0, rfl, by decide, tyX0_ok, nmX0⟩
theorem cok_1 : clsOk 1 "BusTelegrams$Station" TX1 15 tyX1 := ⟨rfl, cu_1, rfl, by decide, tyX1_ok, nmX1⟩
theorem cok_2 : clsOk 2 "BusTelegrams$Telegram" TX2 4 tyX2 := ⟨rfl, cu_2, rfl, by decide, tyX2_ok, nmX2⟩
theorem cok_3 : clsOk 3 "BusTelegrams" TX3 7 tyX3 := ⟨rfl, cu_3, rfl, by decide, tyX3_ok, nmX3⟩
theorem cok_4 : clsOk 4 "BusTelegramsModel" TX4 35 tyX4 := ⟨rfl, cu_4, rfl, by decide, tyX4_ok, nmX4⟩
theorem d_B_answer_0 : decode prog_1_method_12_code 0 = .ok (.aload_n 0, 1) := by decide +kernel
theorem d_B_answer_1 : decode prog_1_method_12_code 1 = .ok (.getfield 18, 3) := by decide +kernel
theorem d_B_answer_4 : decode prog_1_method_12_code 4 = .ok (.getfield 139, 3) := by decide +kernel
theorem d_B_answer_7 : decode prog_1_method_12_code 7 = .ok (.ireturn, 1) := by decide +kernel
def b_B_answer_0 (post : Option Value → Mm → Prop) : Kk := (i_aload 0 (i_getR 3 1 (i_getI 0 14 (i_iret post))))
theorem t_B_answer_0 {Z : Zt} {X0 : Mm} {post : Option Value → Mm → Prop} (g : Good Z prog_1_method_12_code 1 "BusTelegrams" 0) (hq : RetZ Z true X0 0 0 post) (hr : (zM Z).sig.returnType = (some .int)) : Snd Z 1 0 (b_B_answer_0 post) := by
  unfold b_B_answer_0
  exact (s_aload_n g d_B_answer_0 rfl (s_getR g (c := 3) (j := 1) cok_3 (by decide) rfl mw_160 rfl d_B_answer_1 (s_getIN g (c := 0) (j := 14) cok_0 (by decide) rfl mn_46 rfl d_B_answer_4 (s_iret0 g hq hr d_B_answer_7))))
def w_B_answer : Wp := wpOf 1 (fun _ post => b_B_answer_0 post)
theorem C_B_answer (l : Launch) : MetS l ({ cls := "BusTelegrams", name := "answer", desc := "()I" } : Jvm.MethodName) prog_1_method_12_code 1 (some .int) true 0 0 0 w_B_answer := metS_of (by decide +kernel) (fun Z X0 post hZ g hq hr _ => t_B_answer_0 g hq hr)
theorem hd_B_answer : (({ cls := "BusTelegrams", name := "answer", desc := "()I" } : Jvm.MethodName)).cls = "BusTelegrams" ∧ (({ cls := "BusTelegrams", name := "answer", desc := "()I" } : Jvm.MethodName)).cls ≠ "java/lang/invoke/MethodHandle" ∧ (({ cls := "BusTelegrams", name := "answer", desc := "()I" } : Jvm.MethodName)).cls ≠ "java/lang/invoke/VarHandle" ∧ (parseMethodDescriptor (({ cls := "BusTelegrams", name := "answer", desc := "()I" } : Jvm.MethodName)).desc).map (fun d => d.parameters.length) = some 0 := ⟨rfl, by decide, by decide, by decide +kernel⟩
theorem d_B_wholeNotAbove_0 : decode prog_1_method_19_code 0 = .ok (.dload_n 0, 1) := by decide +kernel
theorem d_B_wholeNotAbove_1 : decode prog_1_method_19_code 1 = .ok (.d2i, 1) := by decide +kernel
theorem d_B_wholeNotAbove_2 : decode prog_1_method_19_code 2 = .ok (.istore_n 2, 1) := by decide +kernel
theorem d_B_wholeNotAbove_3 : decode prog_1_method_19_code 3 = .ok (.iload_n 2, 1) := by decide +kernel
theorem d_B_wholeNotAbove_4 : decode prog_1_method_19_code 4 = .ok (.i2d, 1) := by decide +kernel
theorem d_B_wholeNotAbove_5 : decode prog_1_method_19_code 5 = .ok (.dload_n 0, 1) := by decide +kernel
theorem d_B_wholeNotAbove_6 : decode prog_1_method_19_code 6 = .ok (.dcmp .l, 1) := by decide +kernel
theorem d_B_wholeNotAbove_7 : decode prog_1_method_19_code 7 = .ok (.ifCond .le 9, 3) := by decide +kernel
theorem d_B_wholeNotAbove_10 : decode prog_1_method_19_code 10 = .ok (.iload_n 2, 1) := by decide +kernel
theorem d_B_wholeNotAbove_11 : decode prog_1_method_19_code 11 = .ok (.iconst 1, 1) := by decide +kernel
theorem d_B_wholeNotAbove_12 : decode prog_1_method_19_code 12 = .ok (.isub, 1) := by decide +kernel
theorem d_B_wholeNotAbove_13 : decode prog_1_method_19_code 13 = .ok (.goto 4, 3) := by decide +kernel
theorem d_B_wholeNotAbove_16 : decode prog_1_method_19_code 16 = .ok (.iload_n 2, 1) := by decide +kernel
theorem d_B_wholeNotAbove_17 : decode prog_1_method_19_code 17 = .ok (.ireturn, 1) := by decide +kernel
def b_B_wholeNotAbove_17 (post : Option Value → Mm → Prop) : Kk := (i_iret post)
theorem t_B_wholeNotAbove_17 {Z : Zt} {X0 : Mm} {post : Option Value → Mm → Prop} (g : Good Z prog_1_method_19_code 3 "BusTelegrams" 0) (hq : RetZ Z true X0 0 0 post) (hr : (zM Z).sig.returnType = (some .int)) : Snd Z 3 17 (b_B_wholeNotAbove_17 post) := by
  unfold b_B_wholeNotAbove_17
  exact (s_iret0 g hq hr d_B_wholeNotAbove_17)
def b_B_wholeNotAbove_0 (post : Option Value → Mm → Prop) : Kk := (i_dload 0 (i_d2i (i_istore 2 (i_iload 2 (i_i2d (i_dload 0 (i_dcmp .l (i_if (fun x y => x ≤ y) (i_iload 2 (b_B_wholeNotAbove_17 post)) (i_iload 2 (i_push (.int 1) (i_bin (fun x y => x - y) (b_B_wholeNotAbove_17 post))))))))))))
theorem t_B_wholeNotAbove_0 {Z : Zt} {X0 : Mm} {post : Option Value → Mm → Prop} (g : Good Z prog_1_method_19_code 3 "BusTelegrams" 0) (hq : RetZ Z true X0 0 0 post) (hr : (zM Z).sig.returnType = (some .int)) : Snd Z 3 0 (b_B_wholeNotAbove_0 post) := by
  unfold b_B_wholeNotAbove_0
  exact (s_dload_n g d_B_wholeNotAbove_0 rfl (s_d2i g d_B_wholeNotAbove_1 (s_istore_n g (by decide) d_B_wholeNotAbove_2 rfl (s_iload_n g d_B_wholeNotAbove_3 rfl (s_i2d g d_B_wholeNotAbove_4 (s_dload_n g d_B_wholeNotAbove_5 rfl (s_dcmp g d_B_wholeNotAbove_6 (s_if_le g d_B_wholeNotAbove_7 (by decide) (s_iload_n g d_B_wholeNotAbove_16 rfl (t_B_wholeNotAbove_17 g hq hr)) (s_iload_n g d_B_wholeNotAbove_10 rfl (s_push_iconst g d_B_wholeNotAbove_11 (by decide) (s_isub g d_B_wholeNotAbove_12 (s_goto g d_B_wholeNotAbove_13 (by decide) (t_B_wholeNotAbove_17 g hq hr)))))))))))))
def w_B_wholeNotAbove : Wp := wpOf 3 (fun _ post => b_B_wholeNotAbove_0 post)
theorem C_B_wholeNotAbove (l : Launch) : MetS l ({ cls := "BusTelegrams", name := "wholeNotAbove", desc := "(D)I" } : Jvm.MethodName) prog_1_method_19_code 3 (some .int) true 0 0 0 w_B_wholeNotAbove := metS_of (by decide +kernel) (fun Z X0 post hZ g hq hr _ => t_B_wholeNotAbove_0 g hq hr)
theorem hd_B_wholeNotAbove : (({ cls := "BusTelegrams", name := "wholeNotAbove", desc := "(D)I" } : Jvm.MethodName)).cls ≠ "java/lang/invoke/MethodHandle" ∧ (({ cls := "BusTelegrams", name := "wholeNotAbove", desc := "(D)I" } : Jvm.MethodName)).cls ≠ "java/lang/invoke/VarHandle" ∧ (parseMethodDescriptor (({ cls := "BusTelegrams", name := "wholeNotAbove", desc := "(D)I" } : Jvm.MethodName)).desc).map (fun d => d.parameters.length) = some 1 := ⟨by decide, by decide, by decide +kernel⟩
theorem d_B_packedOf_0 : decode prog_1_method_18_code 0 = .ok (.iload_n 0, 1) := by decide +kernel
theorem d_B_packedOf_1 : decode prog_1_method_18_code 1 = .ok (.ifCond .ge 8, 3) := by decide +kernel
theorem d_B_packedOf_4 : decode prog_1_method_18_code 4 = .ok (.ldc 160, 2) := by decide +kernel
theorem d_B_packedOf_6 : decode prog_1_method_18_code 6 = .ok (.goto 4, 3) := by decide +kernel
theorem d_B_packedOf_9 : decode prog_1_method_18_code 9 = .ok (.iconst 0, 1) := by decide +kernel
theorem d_B_packedOf_10 : decode prog_1_method_18_code 10 = .ok (.sipush 2048, 3) := by decide +kernel
theorem d_B_packedOf_13 : decode prog_1_method_18_code 13 = .ok (.iload_n 1, 1) := by decide +kernel
theorem d_B_packedOf_14 : decode prog_1_method_18_code 14 = .ok (.imul, 1) := by decide +kernel
theorem d_B_packedOf_15 : decode prog_1_method_18_code 15 = .ok (.iadd, 1) := by decide +kernel
theorem d_B_packedOf_16 : decode prog_1_method_18_code 16 = .ok (.iload_n 0, 1) := by decide +kernel
theorem d_B_packedOf_17 : decode prog_1_method_18_code 17 = .ok (.sipush 2047, 3) := by decide +kernel
theorem d_B_packedOf_20 : decode prog_1_method_18_code 20 = .ok (.iand, 1) := by decide +kernel
theorem d_B_packedOf_21 : decode prog_1_method_18_code 21 = .ok (.iadd, 1) := by decide +kernel
theorem d_B_packedOf_22 : decode prog_1_method_18_code 22 = .ok (.ireturn, 1) := by decide +kernel
def b_B_packedOf_10 (post : Option Value → Mm → Prop) : Kk := (i_push (.int 2048) (i_iload 1 (i_bin (fun x y => x * y) (i_bin (fun x y => x + y) (i_iload 0 (i_push (.int 2047) (i_bin (fun x y => x &&& y) (i_bin (fun x y => x + y) (i_iret post)))))))))
theorem t_B_packedOf_10 {Z : Zt} {X0 : Mm} {post : Option Value → Mm → Prop} (g : Good Z prog_1_method_18_code 2 "BusTelegrams" 0) (hq : RetZ Z true X0 0 0 post) (hr : (zM Z).sig.returnType = (some .int)) : Snd Z 2 10 (b_B_packedOf_10 post) := by
  unfold b_B_packedOf_10
  exact (s_push_sipush g d_B_packedOf_10 (by decide) (s_iload_n g d_B_packedOf_13 rfl (s_imul g d_B_packedOf_14 (s_iadd g d_B_packedOf_15 (s_iload_n g d_B_packedOf_16 rfl (s_push_sipush g d_B_packedOf_17 (by decide) (s_iand g d_B_packedOf_20 (s_iadd g d_B_packedOf_21 (s_iret0 g hq hr d_B_packedOf_22)))))))))
def b_B_packedOf_0 (post : Option Value → Mm → Prop) : Kk := (i_iload 0 (i_if (fun x y => y ≤ x) (i_push (.int 0) (b_B_packedOf_10 post)) (i_push (.int 32768) (b_B_packedOf_10 post))))
theorem t_B_packedOf_0 {Z : Zt} {X0 : Mm} {post : Option Value → Mm → Prop} (g : Good Z prog_1_method_18_code 2 "BusTelegrams" 0) (hq : RetZ Z true X0 0 0 post) (hr : (zM Z).sig.returnType = (some .int)) : Snd Z 2 0 (b_B_packedOf_0 post) := by
  unfold b_B_packedOf_0
  exact (s_iload_n g d_B_packedOf_0 rfl (s_if_ge g d_B_packedOf_1 (by decide) (s_push_iconst g d_B_packedOf_9 (by decide) (t_B_packedOf_10 g hq hr)) (s_push_ldc g mw_199 d_B_packedOf_4 (s_goto g d_B_packedOf_6 (by decide) (t_B_packedOf_10 g hq hr)))))
def w_B_packedOf : Wp := wpOf 2 (fun _ post => b_B_packedOf_0 post)
theorem C_B_packedOf (l : Launch) : MetS l ({ cls := "BusTelegrams", name := "packedOf", desc := "(II)I" } : Jvm.MethodName) prog_1_method_18_code 2 (some .int) true 0 0 0 w_B_packedOf := metS_of (by decide +kernel) (fun Z X0 post hZ g hq hr _ => t_B_packedOf_0 g hq hr)
theorem hd_B_packedOf : (({ cls := "BusTelegrams", name := "packedOf", desc := "(II)I" } : Jvm.MethodName)).cls ≠ "java/lang/invoke/MethodHandle" ∧ (({ cls := "BusTelegrams", name := "packedOf", desc := "(II)I" } : Jvm.MethodName)).cls ≠ "java/lang/invoke/VarHandle" ∧ (parseMethodDescriptor (({ cls := "BusTelegrams", name := "packedOf", desc := "(II)I" } : Jvm.MethodName)).desc).map (fun d => d.parameters.length) = some 2 := ⟨by decide, by decide, by decide +kernel⟩
theorem d_B_isOutside_0 : decode prog_1_method_15_code 0 = .ok (.iload_n 0, 1) := by decide +kernel
theorem d_B_isOutside_1 : decode prog_1_method_15_code 1 = .ok (.ifCond .lt 8, 3) := by decide +kernel
theorem d_B_isOutside_4 : decode prog_1_method_15_code 4 = .ok (.iload_n 0, 1) := by decide +kernel
theorem d_B_isOutside_5 : decode prog_1_method_15_code 5 = .ok (.iload_n 1, 1) := by decide +kernel
theorem d_B_isOutside_6 : decode prog_1_method_15_code 6 = .ok (.if_icmp .lt 7, 3) := by decide +kernel
theorem d_B_isOutside_9 : decode prog_1_method_15_code 9 = .ok (.iconst 1, 1) := by decide +kernel
theorem d_B_isOutside_10 : decode prog_1_method_15_code 10 = .ok (.goto 4, 3) := by decide +kernel
theorem d_B_isOutside_13 : decode prog_1_method_15_code 13 = .ok (.iconst 0, 1) := by decide +kernel
theorem d_B_isOutside_14 : decode prog_1_method_15_code 14 = .ok (.ireturn, 1) := by decide +kernel
def b_B_isOutside_14 (post : Option Value → Mm → Prop) : Kk := (i_zret post)
theorem t_B_isOutside_14 {Z : Zt} {X0 : Mm} {post : Option Value → Mm → Prop} (g : Good Z prog_1_method_15_code 2 "BusTelegrams" 0) (hq : RetZ Z true X0 0 0 post) (hr : (zM Z).sig.returnType = (some .boolean)) : Snd Z 2 14 (b_B_isOutside_14 post) := by
  unfold b_B_isOutside_14
  exact (s_zret0 g hq hr d_B_isOutside_14)
def b_B_isOutside_9 (post : Option Value → Mm → Prop) : Kk := (i_push (.int 1) (b_B_isOutside_14 post))
theorem t_B_isOutside_9 {Z : Zt} {X0 : Mm} {post : Option Value → Mm → Prop} (g : Good Z prog_1_method_15_code 2 "BusTelegrams" 0) (hq : RetZ Z true X0 0 0 post) (hr : (zM Z).sig.returnType = (some .boolean)) : Snd Z 2 9 (b_B_isOutside_9 post) := by
  unfold b_B_isOutside_9
  exact (s_push_iconst g d_B_isOutside_9 (by decide) (s_goto g d_B_isOutside_10 (by decide) (t_B_isOutside_14 g hq hr)))
def b_B_isOutside_0 (post : Option Value → Mm → Prop) : Kk := (i_iload 0 (i_if (fun x y => x < y) (b_B_isOutside_9 post) (i_iload 0 (i_iload 1 (i_icmp (fun x y => x < y) (i_push (.int 0) (b_B_isOutside_14 post)) (b_B_isOutside_9 post))))))
theorem t_B_isOutside_0 {Z : Zt} {X0 : Mm} {post : Option Value → Mm → Prop} (g : Good Z prog_1_method_15_code 2 "BusTelegrams" 0) (hq : RetZ Z true X0 0 0 post) (hr : (zM Z).sig.returnType = (some .boolean)) : Snd Z 2 0 (b_B_isOutside_0 post) := by
  unfold b_B_isOutside_0
  exact (s_iload_n g d_B_isOutside_0 rfl (s_if_lt g d_B_isOutside_1 (by decide) (t_B_isOutside_9 g hq hr) (s_iload_n g d_B_isOutside_4 rfl (s_iload_n g d_B_isOutside_5 rfl (s_icmp_lt g d_B_isOutside_6 (by decide) (s_push_iconst g d_B_isOutside_13 (by decide) (t_B_isOutside_14 g hq hr)) (t_B_isOutside_9 g hq hr))))))
def w_B_isOutside : Wp := wpOf 2 (fun _ post => b_B_isOutside_0 post)
theorem C_B_isOutside (l : Launch) : MetS l ({ cls := "BusTelegrams", name := "isOutside", desc := "(II)Z" } : Jvm.MethodName) prog_1_method_15_code 2 (some .boolean) true 0 0 0 w_B_isOutside := metS_of (by decide +kernel) (fun Z X0 post hZ g hq hr _ => t_B_isOutside_0 g hq hr)
theorem hd_B_isOutside : (({ cls := "BusTelegrams", name := "isOutside", desc := "(II)Z" } : Jvm.MethodName)).cls ≠ "java/lang/invoke/MethodHandle" ∧ (({ cls := "BusTelegrams", name := "isOutside", desc := "(II)Z" } : Jvm.MethodName)).cls ≠ "java/lang/invoke/VarHandle" ∧ (parseMethodDescriptor (({ cls := "BusTelegrams", name := "isOutside", desc := "(II)Z" } : Jvm.MethodName)).desc).map (fun d => d.parameters.length) = some 2 := ⟨by decide, by decide, by decide +kernel⟩
theorem d_J_floorMod_0 : decode prog_11_method_50_code 0 = .ok (.iload_n 0, 1) := by decide +kernel
theorem d_J_floorMod_1 : decode prog_11_method_50_code 1 = .ok (.iload_n 1, 1) := by decide +kernel
theorem d_J_floorMod_2 : decode prog_11_method_50_code 2 = .ok (.irem, 1) := by decide +kernel
theorem d_J_floorMod_3 : decode prog_11_method_50_code 3 = .ok (.istore_n 2, 1) := by decide +kernel
theorem d_J_floorMod_4 : decode prog_11_method_50_code 4 = .ok (.iload_n 0, 1) := by decide +kernel
theorem d_J_floorMod_5 : decode prog_11_method_50_code 5 = .ok (.iload_n 1, 1) := by decide +kernel
theorem d_J_floorMod_6 : decode prog_11_method_50_code 6 = .ok (.ixor, 1) := by decide +kernel
theorem d_J_floorMod_7 : decode prog_11_method_50_code 7 = .ok (.ifCond .ge 11, 3) := by decide +kernel
theorem d_J_floorMod_10 : decode prog_11_method_50_code 10 = .ok (.iload_n 2, 1) := by decide +kernel
theorem d_J_floorMod_11 : decode prog_11_method_50_code 11 = .ok (.ifCond .eq 7, 3) := by decide +kernel
theorem d_J_floorMod_14 : decode prog_11_method_50_code 14 = .ok (.iload_n 2, 1) := by decide +kernel
theorem d_J_floorMod_15 : decode prog_11_method_50_code 15 = .ok (.iload_n 1, 1) := by decide +kernel
theorem d_J_floorMod_16 : decode prog_11_method_50_code 16 = .ok (.iadd, 1) := by decide +kernel
theorem d_J_floorMod_17 : decode prog_11_method_50_code 17 = .ok (.ireturn, 1) := by decide +kernel
theorem d_J_floorMod_18 : decode prog_11_method_50_code 18 = .ok (.iload_n 2, 1) := by decide +kernel
theorem d_J_floorMod_19 : decode prog_11_method_50_code 19 = .ok (.ireturn, 1) := by decide +kernel
def b_J_floorMod_18 (post : Option Value → Mm → Prop) : Kk := (i_iload 2 (i_iret post))
theorem t_J_floorMod_18 {Z : Zt} {X0 : Mm} {post : Option Value → Mm → Prop} (g : Good Z prog_11_method_50_code 3 "java/lang/Math" 0) (hq : RetZ Z true X0 0 0 post) (hr : (zM Z).sig.returnType = (some .int)) : Snd Z 3 18 (b_J_floorMod_18 post) := by
  unfold b_J_floorMod_18
  exact (s_iload_n g d_J_floorMod_18 rfl (s_iret0 g hq hr d_J_floorMod_19))
def b_J_floorMod_0 (post : Option Value → Mm → Prop) : Kk := (i_iload 0 (i_iload 1 (i_binz (fun x y => x - x / y * y) (i_istore 2 (i_iload 0 (i_iload 1 (i_bin (fun x y => x ^^^ y) (i_if (fun x y => y ≤ x) (b_J_floorMod_18 post) (i_iload 2 (i_if (fun x y => x = y) (b_J_floorMod_18 post) (i_iload 2 (i_iload 1 (i_bin (fun x y => x + y) (i_iret post))))))))))))))
theorem t_J_floorMod_0 {Z : Zt} {X0 : Mm} {post : Option Value → Mm → Prop} (g : Good Z prog_11_method_50_code 3 "java/lang/Math" 0) (hq : RetZ Z true X0 0 0 post) (hr : (zM Z).sig.returnType = (some .int)) : Snd Z 3 0 (b_J_floorMod_0 post) := by
  unfold b_J_floorMod_0
  exact (s_iload_n g d_J_floorMod_0 rfl (s_iload_n g d_J_floorMod_1 rfl (s_irem g d_J_floorMod_2 (s_istore_n g (by decide) d_J_floorMod_3 rfl (s_iload_n g d_J_floorMod_4 rfl (s_iload_n g d_J_floorMod_5 rfl (s_ixor g d_J_floorMod_6 (s_if_ge g d_J_floorMod_7 (by decide) (t_J_floorMod_18 g hq hr) (s_iload_n g d_J_floorMod_10 rfl (s_if_eq g d_J_floorMod_11 (by decide) (t_J_floorMod_18 g hq hr) (s_iload_n g d_J_floorMod_14 rfl (s_iload_n g d_J_floorMod_15 rfl (s_iadd g d_J_floorMod_16 (s_iret0 g hq hr d_J_floorMod_17))))))))))))))
def w_J_floorMod : Wp := wpOf 3 (fun _ post => b_J_floorMod_0 post)
theorem C_J_floorMod (l : Launch) : MetS l ({ cls := "java/lang/Math", name := "floorMod", desc := "(II)I" } : Jvm.MethodName) prog_11_method_50_code 3 (some .int) true 0 0 0 w_J_floorMod := metS_of (by decide +kernel) (fun Z X0 post hZ g hq hr _ => t_J_floorMod_0 g hq hr)
theorem hd_J_floorMod : (({ cls := "java/lang/Math", name := "floorMod", desc := "(II)I" } : Jvm.MethodName)).cls ≠ "java/lang/invoke/MethodHandle" ∧ (({ cls := "java/lang/Math", name := "floorMod", desc := "(II)I" } : Jvm.MethodName)).cls ≠ "java/lang/invoke/VarHandle" ∧ (parseMethodDescriptor (({ cls := "java/lang/Math", name := "floorMod", desc := "(II)I" } : Jvm.MethodName)).desc).map (fun d => d.parameters.length) = some 2 := ⟨by decide, by decide, by decide +kernel⟩
theorem d_T_setHead_0 : decode prog_4_method_2_code 0 = .ok (.aload_n 0, 1) := by decide +kernel
theorem d_T_setHead_1 : decode prog_4_method_2_code 1 = .ok (.iload_n 1, 1) := by decide +kernel
theorem d_T_setHead_2 : decode prog_4_method_2_code 2 = .ok (.putfield 19, 3) := by decide +kernel
theorem d_T_setHead_5 : decode prog_4_method_2_code 5 = .ok (.aload_n 0, 1) := by decide +kernel
theorem d_T_setHead_6 : decode prog_4_method_2_code 6 = .ok (.iconst 0, 1) := by decide +kernel
theorem d_T_setHead_7 : decode prog_4_method_2_code 7 = .ok (.putfield 22, 3) := by decide +kernel
theorem d_T_setHead_10 : decode prog_4_method_2_code 10 = .ok (.aload_n 0, 1) := by decide +kernel
theorem d_T_setHead_11 : decode prog_4_method_2_code 11 = .ok (.getfield 9, 3) := by decide +kernel
theorem d_T_setHead_14 : decode prog_4_method_2_code 14 = .ok (.iconst 1, 1) := by decide +kernel
theorem d_T_setHead_15 : decode prog_4_method_2_code 15 = .ok (.iload_n 2, 1) := by decide +kernel
theorem d_T_setHead_16 : decode prog_4_method_2_code 16 = .ok (.bipush 8, 2) := by decide +kernel
theorem d_T_setHead_18 : decode prog_4_method_2_code 18 = .ok (.ishr, 1) := by decide +kernel
theorem d_T_setHead_19 : decode prog_4_method_2_code 19 = .ok (.sipush 255, 3) := by decide +kernel
theorem d_T_setHead_22 : decode prog_4_method_2_code 22 = .ok (.iand, 1) := by decide +kernel
theorem d_T_setHead_23 : decode prog_4_method_2_code 23 = .ok (.iastore, 1) := by decide +kernel
theorem d_T_setHead_24 : decode prog_4_method_2_code 24 = .ok (.aload_n 0, 1) := by decide +kernel
theorem d_T_setHead_25 : decode prog_4_method_2_code 25 = .ok (.getfield 9, 3) := by decide +kernel
theorem d_T_setHead_28 : decode prog_4_method_2_code 28 = .ok (.iconst 2, 1) := by decide +kernel
theorem d_T_setHead_29 : decode prog_4_method_2_code 29 = .ok (.iload_n 2, 1) := by decide +kernel
theorem d_T_setHead_30 : decode prog_4_method_2_code 30 = .ok (.sipush 255, 3) := by decide +kernel
theorem d_T_setHead_33 : decode prog_4_method_2_code 33 = .ok (.iand, 1) := by decide +kernel
theorem d_T_setHead_34 : decode prog_4_method_2_code 34 = .ok (.iastore, 1) := by decide +kernel
theorem d_T_setHead_35 : decode prog_4_method_2_code 35 = .ok (.aload_n 0, 1) := by decide +kernel
theorem d_T_setHead_36 : decode prog_4_method_2_code 36 = .ok (.getfield 9, 3) := by decide +kernel
theorem d_T_setHead_39 : decode prog_4_method_2_code 39 = .ok (.iconst 3, 1) := by decide +kernel
theorem d_T_setHead_40 : decode prog_4_method_2_code 40 = .ok (.iload_n 3, 1) := by decide +kernel
theorem d_T_setHead_41 : decode prog_4_method_2_code 41 = .ok (.bipush 8, 2) := by decide +kernel
theorem d_T_setHead_43 : decode prog_4_method_2_code 43 = .ok (.ishr, 1) := by decide +kernel
theorem d_T_setHead_44 : decode prog_4_method_2_code 44 = .ok (.sipush 255, 3) := by decide +kernel
theorem d_T_setHead_47 : decode prog_4_method_2_code 47 = .ok (.iand, 1) := by decide +kernel
theorem d_T_setHead_48 : decode prog_4_method_2_code 48 = .ok (.iastore, 1) := by decide +kernel
theorem d_T_setHead_49 : decode prog_4_method_2_code 49 = .ok (.aload_n 0, 1) := by decide +kernel
theorem d_T_setHead_50 : decode prog_4_method_2_code 50 = .ok (.getfield 9, 3) := by decide +kernel
theorem d_T_setHead_53 : decode prog_4_method_2_code 53 = .ok (.iconst 4, 1) := by decide +kernel
theorem d_T_setHead_54 : decode prog_4_method_2_code 54 = .ok (.iload_n 3, 1) := by decide +kernel
theorem d_T_setHead_55 : decode prog_4_method_2_code 55 = .ok (.sipush 255, 3) := by decide +kernel
theorem d_T_setHead_58 : decode prog_4_method_2_code 58 = .ok (.iand, 1) := by decide +kernel
theorem d_T_setHead_59 : decode prog_4_method_2_code 59 = .ok (.iastore, 1) := by decide +kernel
theorem d_T_setHead_60 : decode prog_4_method_2_code 60 = .ok (.return_, 1) := by decide +kernel
def b_T_setHead_0 (post : Option Value → Mm → Prop) : Kk := (i_aload 0 (i_iload 1 (i_putI 2 2 (i_aload 0 (i_push (.int 0) (i_putI 2 3 (i_aload 0 (i_getR 2 0 (i_push (.int 1) (i_iload 2 (i_push (.int 8) (i_bin (fun x y => x >>> (y &&& 31)) (i_push (.int 255) (i_bin (fun x y => x &&& y) (i_ast (i_aload 0 (i_getR 2 0 (i_push (.int 2) (i_iload 2 (i_push (.int 255) (i_bin (fun x y => x &&& y) (i_ast (i_aload 0 (i_getR 2 0 (i_push (.int 3) (i_iload 3 (i_push (.int 8) (i_bin (fun x y => x >>> (y &&& 31)) (i_push (.int 255) (i_bin (fun x y => x &&& y) (i_ast (i_aload 0 (i_getR 2 0 (i_push (.int 4) (i_iload 3 (i_push (.int 255) (i_bin (fun x y => x &&& y) (i_ast (i_vret post)))))))))))))))))))))))))))))))))))))))
theorem t_T_setHead_0 {Z : Zt} {X0 : Mm} {post : Option Value → Mm → Prop} (g : Good Z prog_4_method_2_code 4 "BusTelegrams$Telegram" 0) (hq : RetZ Z true X0 0 0 post) (hr : (zM Z).sig.returnType = none) : Snd Z 4 0 (b_T_setHead_0 post) := by
  unfold b_T_setHead_0
  exact (s_aload_n g d_T_setHead_0 rfl (s_iload_n g d_T_setHead_1 rfl (s_putI g (c := 2) (j := 2) cok_2 (by decide) rfl rfl rfl mw_96 rfl d_T_setHead_2 (s_aload_n g d_T_setHead_5 rfl (s_push_iconst g d_T_setHead_6 (by decide) (s_putI g (c := 2) (j := 3) cok_2 (by decide) rfl rfl rfl mw_97 rfl d_T_setHead_7 (s_aload_n g d_T_setHead_10 rfl (s_getR g (c := 2) (j := 0) cok_2 (by decide) rfl mw_94 rfl d_T_setHead_11 (s_push_iconst g d_T_setHead_14 (by decide) (s_iload_n g d_T_setHead_15 rfl (s_push_bipush g d_T_setHead_16 (by decide) (s_ishr g d_T_setHead_18 (s_push_sipush g d_T_setHead_19 (by decide) (s_iand g d_T_setHead_22 (s_iast g d_T_setHead_23 (s_aload_n g d_T_setHead_24 rfl (s_getR g (c := 2) (j := 0) cok_2 (by decide) rfl mw_94 rfl d_T_setHead_25 (s_push_iconst g d_T_setHead_28 (by decide) (s_iload_n g d_T_setHead_29 rfl (s_push_sipush g d_T_setHead_30 (by decide) (s_iand g d_T_setHead_33 (s_iast g d_T_setHead_34 (s_aload_n g d_T_setHead_35 rfl (s_getR g (c := 2) (j := 0) cok_2 (by decide) rfl mw_94 rfl d_T_setHead_36 (s_push_iconst g d_T_setHead_39 (by decide) (s_iload_n g d_T_setHead_40 rfl (s_push_bipush g d_T_setHead_41 (by decide) (s_ishr g d_T_setHead_43 (s_push_sipush g d_T_setHead_44 (by decide) (s_iand g d_T_setHead_47 (s_iast g d_T_setHead_48 (s_aload_n g d_T_setHead_49 rfl (s_getR g (c := 2) (j := 0) cok_2 (by decide) rfl mw_94 rfl d_T_setHead_50 (s_push_iconst g d_T_setHead_53 (by decide) (s_iload_n g d_T_setHead_54 rfl (s_push_sipush g d_T_setHead_55 (by decide) (s_iand g d_T_setHead_58 (s_iast g d_T_setHead_59 (s_vret0 g hq hr d_T_setHead_60)))))))))))))))))))))))))))))))))))))))
def w_T_setHead : Wp := wpOf 4 (fun _ post => b_T_setHead_0 post)
theorem C_T_setHead (l : Launch) : MetS l ({ cls := "BusTelegrams$Telegram", name := "setHead", desc := "(III)V" } : Jvm.MethodName) prog_4_method_2_code 4 none true 0 0 0 w_T_setHead := metS_of (by decide +kernel) (fun Z X0 post hZ g hq hr _ => t_T_setHead_0 g hq hr)
theorem hd_T_setHead : (({ cls := "BusTelegrams$Telegram", name := "setHead", desc := "(III)V" } : Jvm.MethodName)).cls = "BusTelegrams$Telegram" ∧ (({ cls := "BusTelegrams$Telegram", name := "setHead", desc := "(III)V" } : Jvm.MethodName)).cls ≠ "java/lang/invoke/MethodHandle" ∧ (({ cls := "BusTelegrams$Telegram", name := "setHead", desc := "(III)V" } : Jvm.MethodName)).cls ≠ "java/lang/invoke/VarHandle" ∧ (parseMethodDescriptor (({ cls := "BusTelegrams$Telegram", name := "setHead", desc := "(III)V" } : Jvm.MethodName)).desc).map (fun d => d.parameters.length) = some 3 := ⟨rfl, by decide, by decide, by decide +kernel⟩
theorem d_J_min_0 : decode prog_11_method_69_code 0 = .ok (.iload_n 0, 1) := by decide +kernel
theorem d_J_min_1 : decode prog_11_method_69_code 1 = .ok (.iload_n 1, 1) := by decide +kernel
theorem d_J_min_2 : decode prog_11_method_69_code 2 = .ok (.if_icmp .gt 7, 3) := by decide +kernel
theorem d_J_min_5 : decode prog_11_method_69_code 5 = .ok (.iload_n 0, 1) := by decide +kernel
theorem d_J_min_6 : decode prog_11_method_69_code 6 = .ok (.goto 4, 3) := by decide +kernel
theorem d_J_min_9 : decode prog_11_method_69_code 9 = .ok (.iload_n 1, 1) := by decide +kernel
theorem d_J_min_10 : decode prog_11_method_69_code 10 = .ok (.ireturn, 1) := by decide +kernel
def b_J_min_10 (post : Option Value → Mm → Prop) : Kk := (i_iret post)
theorem t_J_min_10 {Z : Zt} {X0 : Mm} {post : Option Value → Mm → Prop} (g : Good Z prog_11_method_69_code 2 "java/lang/Math" 0) (hq : RetZ Z true X0 0 0 post) (hr : (zM Z).sig.returnType = (some .int)) : Snd Z 2 10 (b_J_min_10 post) := by
  unfold b_J_min_10
  exact (s_iret0 g hq hr d_J_min_10)
def b_J_min_0 (post : Option Value → Mm → Prop) : Kk := (i_iload 0 (i_iload 1 (i_icmp (fun x y => y < x) (i_iload 1 (b_J_min_10 post)) (i_iload 0 (b_J_min_10 post)))))
theorem t_J_min_0 {Z : Zt} {X0 : Mm} {post : Option Value → Mm → Prop} (g : Good Z prog_11_method_69_code 2 "java/lang/Math" 0) (hq : RetZ Z true X0 0 0 post) (hr : (zM Z).sig.returnType = (some .int)) : Snd Z 2 0 (b_J_min_0 post) := by
  unfold b_J_min_0
  exact (s_iload_n g d_J_min_0 rfl (s_iload_n g d_J_min_1 rfl (s_icmp_gt g d_J_min_2 (by decide) (s_iload_n g d_J_min_9 rfl (t_J_min_10 g hq hr)) (s_iload_n g d_J_min_5 rfl (s_goto g d_J_min_6 (by decide) (t_J_min_10 g hq hr))))))
def w_J_min : Wp := wpOf 2 (fun _ post => b_J_min_0 post)
theorem C_J_min (l : Launch) : MetS l ({ cls := "java/lang/Math", name := "min", desc := "(II)I" } : Jvm.MethodName) prog_11_method_69_code 2 (some .int) true 0 0 0 w_J_min := metS_of (by decide +kernel) (fun Z X0 post hZ g hq hr _ => t_J_min_0 g hq hr)
theorem hd_J_min : (({ cls := "java/lang/Math", name := "min", desc := "(II)I" } : Jvm.MethodName)).cls ≠ "java/lang/invoke/MethodHandle" ∧ (({ cls := "java/lang/Math", name := "min", desc := "(II)I" } : Jvm.MethodName)).cls ≠ "java/lang/invoke/VarHandle" ∧ (parseMethodDescriptor (({ cls := "java/lang/Math", name := "min", desc := "(II)I" } : Jvm.MethodName)).desc).map (fun d => d.parameters.length) = some 2 := ⟨by decide, by decide, by decide +kernel⟩
theorem d_J_max_0 : decode prog_11_method_65_code 0 = .ok (.iload_n 0, 1) := by decide +kernel
theorem d_J_max_1 : decode prog_11_method_65_code 1 = .ok (.iload_n 1, 1) := by decide +kernel
theorem d_J_max_2 : decode prog_11_method_65_code 2 = .ok (.if_icmp .lt 7, 3) := by decide +kernel
theorem d_J_max_5 : decode prog_11_method_65_code 5 = .ok (.iload_n 0, 1) := by decide +kernel
theorem d_J_max_6 : decode prog_11_method_65_code 6 = .ok (.goto 4, 3) := by decide +kernel
theorem d_J_max_9 : decode prog_11_method_65_code 9 = .ok (.iload_n 1, 1) := by decide +kernel
theorem d_J_max_10 : decode prog_11_method_65_code 10 = .ok (.ireturn, 1) := by decide +kernel
def b_J_max_10 (post : Option Value → Mm → Prop) : Kk := (i_iret post)
theorem t_J_max_10 {Z : Zt} {X0 : Mm} {post : Option Value → Mm → Prop} (g : Good Z prog_11_method_65_code 2 "java/lang/Math" 0) (hq : RetZ Z true X0 0 0 post) (hr : (zM Z).sig.returnType = (some .int)) : Snd Z 2 10 (b_J_max_10 post) := by
  unfold b_J_max_10
  exact (s_iret0 g hq hr d_J_max_10)
def b_J_max_0 (post : Option Value → Mm → Prop) : Kk := (i_iload 0 (i_iload 1 (i_icmp (fun x y => x < y) (i_iload 1 (b_J_max_10 post)) (i_iload 0 (b_J_max_10 post)))))
theorem t_J_max_0 {Z : Zt} {X0 : Mm} {post : Option Value → Mm → Prop} (g : Good Z prog_11_method_65_code 2 "java/lang/Math" 0) (hq : RetZ Z true X0 0 0 post) (hr : (zM Z).sig.returnType = (some .int)) : Snd Z 2 0 (b_J_max_0 post) := by
  unfold b_J_max_0
  exact (s_iload_n g d_J_max_0 rfl (s_iload_n g d_J_max_1 rfl (s_icmp_lt g d_J_max_2 (by decide) (s_iload_n g d_J_max_9 rfl (t_J_max_10 g hq hr)) (s_iload_n g d_J_max_5 rfl (s_goto g d_J_max_6 (by decide) (t_J_max_10 g hq hr))))))
def w_J_max : Wp := wpOf 2 (fun _ post => b_J_max_0 post)
theorem C_J_max (l : Launch) : MetS l ({ cls := "java/lang/Math", name := "max", desc := "(II)I" } : Jvm.MethodName) prog_11_method_65_code 2 (some .int) true 0 0 0 w_J_max := metS_of (by decide +kernel) (fun Z X0 post hZ g hq hr _ => t_J_max_0 g hq hr)
theorem hd_J_max : (({ cls := "java/lang/Math", name := "max", desc := "(II)I" } : Jvm.MethodName)).cls ≠ "java/lang/invoke/MethodHandle" ∧ (({ cls := "java/lang/Math", name := "max", desc := "(II)I" } : Jvm.MethodName)).cls ≠ "java/lang/invoke/VarHandle" ∧ (parseMethodDescriptor (({ cls := "java/lang/Math", name := "max", desc := "(II)I" } : Jvm.MethodName)).desc).map (fun d => d.parameters.length) = some 2 := ⟨by decide, by decide, by decide +kernel⟩
theorem d_B_disturbancePlace_0 : decode prog_1_method_16_code 0 = .ok (.iload_n 0, 1) := by decide +kernel
theorem d_B_disturbancePlace_1 : decode prog_1_method_16_code 1 = .ok (.sipush 2047, 3) := by decide +kernel
theorem d_B_disturbancePlace_4 : decode prog_1_method_16_code 4 = .ok (.iand, 1) := by decide +kernel
theorem d_B_disturbancePlace_5 : decode prog_1_method_16_code 5 = .ok (.ireturn, 1) := by decide +kernel
def b_B_disturbancePlace_0 (post : Option Value → Mm → Prop) : Kk := (i_iload 0 (i_push (.int 2047) (i_bin (fun x y => x &&& y) (i_iret post))))
theorem t_B_disturbancePlace_0 {Z : Zt} {X0 : Mm} {post : Option Value → Mm → Prop} (g : Good Z prog_1_method_16_code 1 "BusTelegrams" 0) (hq : RetZ Z true X0 0 0 post) (hr : (zM Z).sig.returnType = (some .int)) : Snd Z 1 0 (b_B_disturbancePlace_0 post) := by
  unfold b_B_disturbancePlace_0
  exact (s_iload_n g d_B_disturbancePlace_0 rfl (s_push_sipush g d_B_disturbancePlace_1 (by decide) (s_iand g d_B_disturbancePlace_4 (s_iret0 g hq hr d_B_disturbancePlace_5))))
def w_B_disturbancePlace : Wp := wpOf 1 (fun _ post => b_B_disturbancePlace_0 post)
theorem C_B_disturbancePlace (l : Launch) : MetS l ({ cls := "BusTelegrams", name := "disturbancePlace", desc := "(I)I" } : Jvm.MethodName) prog_1_method_16_code 1 (some .int) true 0 0 0 w_B_disturbancePlace := metS_of (by decide +kernel) (fun Z X0 post hZ g hq hr _ => t_B_disturbancePlace_0 g hq hr)
theorem hd_B_disturbancePlace : (({ cls := "BusTelegrams", name := "disturbancePlace", desc := "(I)I" } : Jvm.MethodName)).cls ≠ "java/lang/invoke/MethodHandle" ∧ (({ cls := "BusTelegrams", name := "disturbancePlace", desc := "(I)I" } : Jvm.MethodName)).cls ≠ "java/lang/invoke/VarHandle" ∧ (parseMethodDescriptor (({ cls := "BusTelegrams", name := "disturbancePlace", desc := "(I)I" } : Jvm.MethodName)).desc).map (fun d => d.parameters.length) = some 1 := ⟨by decide, by decide, by decide +kernel⟩
theorem d_E_isAnswerDue_0 : decode prog_2_method_10_code 0 = .ok (.iload_n 1, 1) := by decide +kernel
theorem d_E_isAnswerDue_1 : decode prog_2_method_10_code 1 = .ok (.aload_n 0, 1) := by decide +kernel
theorem d_E_isAnswerDue_2 : decode prog_2_method_10_code 2 = .ok (.getfield 50, 3) := by decide +kernel
theorem d_E_isAnswerDue_5 : decode prog_2_method_10_code 5 = .ok (.bipush 14, 2) := by decide +kernel
theorem d_E_isAnswerDue_7 : decode prog_2_method_10_code 7 = .ok (.iadd, 1) := by decide +kernel
theorem d_E_isAnswerDue_8 : decode prog_2_method_10_code 8 = .ok (.if_icmp .ne 14, 3) := by decide +kernel
theorem d_E_isAnswerDue_11 : decode prog_2_method_10_code 11 = .ok (.aload_n 0, 1) := by decide +kernel
theorem d_E_isAnswerDue_12 : decode prog_2_method_10_code 12 = .ok (.getfield 59, 3) := by decide +kernel
theorem d_E_isAnswerDue_15 : decode prog_2_method_10_code 15 = .ok (.ifCond .ne 7, 3) := by decide +kernel
theorem d_E_isAnswerDue_18 : decode prog_2_method_10_code 18 = .ok (.iconst 1, 1) := by decide +kernel
theorem d_E_isAnswerDue_19 : decode prog_2_method_10_code 19 = .ok (.goto 4, 3) := by decide +kernel
theorem d_E_isAnswerDue_22 : decode prog_2_method_10_code 22 = .ok (.iconst 0, 1) := by decide +kernel
theorem d_E_isAnswerDue_23 : decode prog_2_method_10_code 23 = .ok (.ireturn, 1) := by decide +kernel
def b_E_isAnswerDue_23 (post : Option Value → Mm → Prop) : Kk := (i_zret post)
theorem t_E_isAnswerDue_23 {Z : Zt} {X0 : Mm} {post : Option Value → Mm → Prop} (g : Good Z prog_2_method_10_code 2 "BusTelegrams$Ear" 0) (hq : RetZ Z true X0 0 0 post) (hr : (zM Z).sig.returnType = (some .boolean)) : Snd Z 2 23 (b_E_isAnswerDue_23 post) := by
  unfold b_E_isAnswerDue_23
  exact (s_zret0 g hq hr d_E_isAnswerDue_23)
def b_E_isAnswerDue_22 (post : Option Value → Mm → Prop) : Kk := (i_push (.int 0) (b_E_isAnswerDue_23 post))
theorem t_E_isAnswerDue_22 {Z : Zt} {X0 : Mm} {post : Option Value → Mm → Prop} (g : Good Z prog_2_method_10_code 2 "BusTelegrams$Ear" 0) (hq : RetZ Z true X0 0 0 post) (hr : (zM Z).sig.returnType = (some .boolean)) : Snd Z 2 22 (b_E_isAnswerDue_22 post) := by
  unfold b_E_isAnswerDue_22
  exact (s_push_iconst g d_E_isAnswerDue_22 (by decide) (t_E_isAnswerDue_23 g hq hr))
def b_E_isAnswerDue_0 (post : Option Value → Mm → Prop) : Kk := (i_iload 1 (i_aload 0 (i_getI 0 12 (i_push (.int 14) (i_bin (fun x y => x + y) (i_icmp (fun x y => x = y) (i_aload 0 (i_getI 0 15 (i_if (fun x y => x = y) (i_push (.int 1) (b_E_isAnswerDue_23 post)) (b_E_isAnswerDue_22 post)))) (b_E_isAnswerDue_22 post)))))))
theorem t_E_isAnswerDue_0 {Z : Zt} {X0 : Mm} {post : Option Value → Mm → Prop} (g : Good Z prog_2_method_10_code 2 "BusTelegrams$Ear" 0) (hq : RetZ Z true X0 0 0 post) (hr : (zM Z).sig.returnType = (some .boolean)) : Snd Z 2 0 (b_E_isAnswerDue_0 post) := by
  unfold b_E_isAnswerDue_0
  exact (s_iload_n g d_E_isAnswerDue_0 rfl (s_aload_n g d_E_isAnswerDue_1 rfl (s_getI g (c := 0) (j := 12) cok_0 (by decide) rfl mw_42 rfl d_E_isAnswerDue_2 (s_push_bipush g d_E_isAnswerDue_5 (by decide) (s_iadd g d_E_isAnswerDue_7 (s_icmp_ne g d_E_isAnswerDue_8 (by decide) (t_E_isAnswerDue_22 g hq hr) (s_aload_n g d_E_isAnswerDue_11 rfl (s_getI g (c := 0) (j := 15) cok_0 (by decide) rfl mw_47 rfl d_E_isAnswerDue_12 (s_if_ne g d_E_isAnswerDue_15 (by decide) (t_E_isAnswerDue_22 g hq hr) (s_push_iconst g d_E_isAnswerDue_18 (by decide) (s_goto g d_E_isAnswerDue_19 (by decide) (t_E_isAnswerDue_23 g hq hr))))))))))))
def w_E_isAnswerDue : Wp := wpOf 2 (fun _ post => b_E_isAnswerDue_0 post)
theorem C_E_isAnswerDue (l : Launch) : MetS l ({ cls := "BusTelegrams$Ear", name := "isAnswerDue", desc := "(I)Z" } : Jvm.MethodName) prog_2_method_10_code 2 (some .boolean) true 0 0 0 w_E_isAnswerDue := metS_of (by decide +kernel) (fun Z X0 post hZ g hq hr _ => t_E_isAnswerDue_0 g hq hr)
theorem hd_E_isAnswerDue : (({ cls := "BusTelegrams$Ear", name := "isAnswerDue", desc := "(I)Z" } : Jvm.MethodName)).cls = "BusTelegrams$Ear" ∧ (({ cls := "BusTelegrams$Ear", name := "isAnswerDue", desc := "(I)Z" } : Jvm.MethodName)).cls ≠ "java/lang/invoke/MethodHandle" ∧ (({ cls := "BusTelegrams$Ear", name := "isAnswerDue", desc := "(I)Z" } : Jvm.MethodName)).cls ≠ "java/lang/invoke/VarHandle" ∧ (parseMethodDescriptor (({ cls := "BusTelegrams$Ear", name := "isAnswerDue", desc := "(I)Z" } : Jvm.MethodName)).desc).map (fun d => d.parameters.length) = some 1 := ⟨rfl, by decide, by decide, by decide +kernel⟩
theorem d_E_latestAim_0 : decode prog_2_method_12_code 0 = .ok (.sipush 256, 3) := by decide +kernel
theorem d_E_latestAim_3 : decode prog_2_method_12_code 3 = .ok (.aload_n 0, 1) := by decide +kernel
theorem d_E_latestAim_4 : decode prog_2_method_12_code 4 = .ok (.getfield 15, 3) := by decide +kernel
theorem d_E_latestAim_7 : decode prog_2_method_12_code 7 = .ok (.iconst 3, 1) := by decide +kernel
theorem d_E_latestAim_8 : decode prog_2_method_12_code 8 = .ok (.iaload, 1) := by decide +kernel
theorem d_E_latestAim_9 : decode prog_2_method_12_code 9 = .ok (.imul, 1) := by decide +kernel
theorem d_E_latestAim_10 : decode prog_2_method_12_code 10 = .ok (.aload_n 0, 1) := by decide +kernel
theorem d_E_latestAim_11 : decode prog_2_method_12_code 11 = .ok (.getfield 15, 3) := by decide +kernel
theorem d_E_latestAim_14 : decode prog_2_method_12_code 14 = .ok (.iconst 4, 1) := by decide +kernel
theorem d_E_latestAim_15 : decode prog_2_method_12_code 15 = .ok (.iaload, 1) := by decide +kernel
theorem d_E_latestAim_16 : decode prog_2_method_12_code 16 = .ok (.iadd, 1) := by decide +kernel
theorem d_E_latestAim_17 : decode prog_2_method_12_code 17 = .ok (.ireturn, 1) := by decide +kernel
def b_E_latestAim_0 (post : Option Value → Mm → Prop) : Kk := (i_push (.int 256) (i_aload 0 (i_getR 0 1 (i_push (.int 3) (i_ald 10 (i_bin (fun x y => x * y) (i_aload 0 (i_getR 0 1 (i_push (.int 4) (i_ald 10 (i_bin (fun x y => x + y) (i_iret post))))))))))))
theorem t_E_latestAim_0 {Z : Zt} {X0 : Mm} {post : Option Value → Mm → Prop} (g : Good Z prog_2_method_12_code 1 "BusTelegrams$Ear" 0) (hq : RetZ Z true X0 0 0 post) (hr : (zM Z).sig.returnType = (some .int)) : Snd Z 1 0 (b_E_latestAim_0 post) := by
  unfold b_E_latestAim_0
  exact (s_push_sipush g d_E_latestAim_0 (by decide) (s_aload_n g d_E_latestAim_3 rfl (s_getR g (c := 0) (j := 1) cok_0 (by decide) rfl mw_30 rfl d_E_latestAim_4 (s_push_iconst g d_E_latestAim_7 (by decide) (s_iald g d_E_latestAim_8 (s_imul g d_E_latestAim_9 (s_aload_n g d_E_latestAim_10 rfl (s_getR g (c := 0) (j := 1) cok_0 (by decide) rfl mw_30 rfl d_E_latestAim_11 (s_push_iconst g d_E_latestAim_14 (by decide) (s_iald g d_E_latestAim_15 (s_iadd g d_E_latestAim_16 (s_iret0 g hq hr d_E_latestAim_17))))))))))))
def w_E_latestAim : Wp := wpOf 1 (fun _ post => b_E_latestAim_0 post)
theorem C_E_latestAim (l : Launch) : MetS l ({ cls := "BusTelegrams$Ear", name := "latestAim", desc := "()I" } : Jvm.MethodName) prog_2_method_12_code 1 (some .int) true 0 0 0 w_E_latestAim := metS_of (by decide +kernel) (fun Z X0 post hZ g hq hr _ => t_E_latestAim_0 g hq hr)
theorem hd_E_latestAim : (({ cls := "BusTelegrams$Ear", name := "latestAim", desc := "()I" } : Jvm.MethodName)).cls = "BusTelegrams$Ear" ∧ (({ cls := "BusTelegrams$Ear", name := "latestAim", desc := "()I" } : Jvm.MethodName)).cls ≠ "java/lang/invoke/MethodHandle" ∧ (({ cls := "BusTelegrams$Ear", name := "latestAim", desc := "()I" } : Jvm.MethodName)).cls ≠ "java/lang/invoke/VarHandle" ∧ (parseMethodDescriptor (({ cls := "BusTelegrams$Ear", name := "latestAim", desc := "()I" } : Jvm.MethodName)).desc).map (fun d => d.parameters.length) = some 0 := ⟨rfl, by decide, by decide, by decide +kernel⟩
theorem d_E_isLatestForGroup_0 : decode prog_2_method_13_code 0 = .ok (.aload_n 0, 1) := by decide +kernel
theorem d_E_isLatestForGroup_1 : decode prog_2_method_13_code 1 = .ok (.getfield 15, 3) := by decide +kernel
theorem d_E_isLatestForGroup_4 : decode prog_2_method_13_code 4 = .ok (.iconst 5, 1) := by decide +kernel
theorem d_E_isLatestForGroup_5 : decode prog_2_method_13_code 5 = .ok (.iaload, 1) := by decide +kernel
theorem d_E_isLatestForGroup_6 : decode prog_2_method_13_code 6 = .ok (.sipush 128, 3) := by decide +kernel
theorem d_E_isLatestForGroup_9 : decode prog_2_method_13_code 9 = .ok (.if_icmp .lt 7, 3) := by decide +kernel
theorem d_E_isLatestForGroup_12 : decode prog_2_method_13_code 12 = .ok (.iconst 1, 1) := by decide +kernel
theorem d_E_isLatestForGroup_13 : decode prog_2_method_13_code 13 = .ok (.goto 4, 3) := by decide +kernel
theorem d_E_isLatestForGroup_16 : decode prog_2_method_13_code 16 = .ok (.iconst 0, 1) := by decide +kernel
theorem d_E_isLatestForGroup_17 : decode prog_2_method_13_code 17 = .ok (.ireturn, 1) := by decide +kernel
def b_E_isLatestForGroup_17 (post : Option Value → Mm → Prop) : Kk := (i_zret post)
theorem t_E_isLatestForGroup_17 {Z : Zt} {X0 : Mm} {post : Option Value → Mm → Prop} (g : Good Z prog_2_method_13_code 1 "BusTelegrams$Ear" 0) (hq : RetZ Z true X0 0 0 post) (hr : (zM Z).sig.returnType = (some .boolean)) : Snd Z 1 17 (b_E_isLatestForGroup_17 post) := by
  unfold b_E_isLatestForGroup_17
  exact (s_zret0 g hq hr d_E_isLatestForGroup_17)
def b_E_isLatestForGroup_0 (post : Option Value → Mm → Prop) : Kk := (i_aload 0 (i_getR 0 1 (i_push (.int 5) (i_ald 10 (i_push (.int 128) (i_icmp (fun x y => x < y) (i_push (.int 0) (b_E_isLatestForGroup_17 post)) (i_push (.int 1) (b_E_isLatestForGroup_17 post))))))))
theorem t_E_isLatestForGroup_0 {Z : Zt} {X0 : Mm} {post : Option Value → Mm → Prop} (g : Good Z prog_2_method_13_code 1 "BusTelegrams$Ear" 0) (hq : RetZ Z true X0 0 0 post) (hr : (zM Z).sig.returnType = (some .boolean)) : Snd Z 1 0 (b_E_isLatestForGroup_0 post) := by
  unfold b_E_isLatestForGroup_0
  exact (s_aload_n g d_E_isLatestForGroup_0 rfl (s_getR g (c := 0) (j := 1) cok_0 (by decide) rfl mw_30 rfl d_E_isLatestForGroup_1 (s_push_iconst g d_E_isLatestForGroup_4 (by decide) (s_iald g d_E_isLatestForGroup_5 (s_push_sipush g d_E_isLatestForGroup_6 (by decide) (s_icmp_lt g d_E_isLatestForGroup_9 (by decide) (s_push_iconst g d_E_isLatestForGroup_16 (by decide) (t_E_isLatestForGroup_17 g hq hr)) (s_push_iconst g d_E_isLatestForGroup_12 (by decide) (s_goto g d_E_isLatestForGroup_13 (by decide) (t_E_isLatestForGroup_17 g hq hr)))))))))
def w_E_isLatestForGroup : Wp := wpOf 1 (fun _ post => b_E_isLatestForGroup_0 post)
theorem C_E_isLatestForGroup (l : Launch) : MetS l ({ cls := "BusTelegrams$Ear", name := "isLatestForGroup", desc := "()Z" } : Jvm.MethodName) prog_2_method_13_code 1 (some .boolean) true 0 0 0 w_E_isLatestForGroup := metS_of (by decide +kernel) (fun Z X0 post hZ g hq hr _ => t_E_isLatestForGroup_0 g hq hr)
theorem hd_E_isLatestForGroup : (({ cls := "BusTelegrams$Ear", name := "isLatestForGroup", desc := "()Z" } : Jvm.MethodName)).cls = "BusTelegrams$Ear" ∧ (({ cls := "BusTelegrams$Ear", name := "isLatestForGroup", desc := "()Z" } : Jvm.MethodName)).cls ≠ "java/lang/invoke/MethodHandle" ∧ (({ cls := "BusTelegrams$Ear", name := "isLatestForGroup", desc := "()Z" } : Jvm.MethodName)).cls ≠ "java/lang/invoke/VarHandle" ∧ (parseMethodDescriptor (({ cls := "BusTelegrams$Ear", name := "isLatestForGroup", desc := "()Z" } : Jvm.MethodName)).desc).map (fun d => d.parameters.length) = some 0 := ⟨rfl, by decide, by decide, by decide +kernel⟩
theorem d_S_isMeant_0 : decode prog_3_method_4_code 0 = .ok (.aload_n 0, 1) := by decide +kernel
theorem d_S_isMeant_1 : decode prog_3_method_4_code 1 = .ok (.getfield 38, 3) := by decide +kernel
theorem d_S_isMeant_4 : decode prog_3_method_4_code 4 = .ok (.ifCond .ne 11, 3) := by decide +kernel
theorem d_S_isMeant_7 : decode prog_3_method_4_code 7 = .ok (.aload_n 0, 1) := by decide +kernel
theorem d_S_isMeant_8 : decode prog_3_method_4_code 8 = .ok (.getfield 32, 3) := by decide +kernel
theorem d_S_isMeant_11 : decode prog_3_method_4_code 11 = .ok (.iconst (-1), 1) := by decide +kernel
theorem d_S_isMeant_12 : decode prog_3_method_4_code 12 = .ok (.if_icmp .eq 5, 3) := by decide +kernel
theorem d_S_isMeant_15 : decode prog_3_method_4_code 15 = .ok (.iconst 0, 1) := by decide +kernel
theorem d_S_isMeant_16 : decode prog_3_method_4_code 16 = .ok (.ireturn, 1) := by decide +kernel
theorem d_S_isMeant_17 : decode prog_3_method_4_code 17 = .ok (.iload_n 2, 1) := by decide +kernel
theorem d_S_isMeant_18 : decode prog_3_method_4_code 18 = .ok (.ifCond .ne 17, 3) := by decide +kernel
theorem d_S_isMeant_21 : decode prog_3_method_4_code 21 = .ok (.aload_n 0, 1) := by decide +kernel
theorem d_S_isMeant_22 : decode prog_3_method_4_code 22 = .ok (.getfield 59, 3) := by decide +kernel
theorem d_S_isMeant_25 : decode prog_3_method_4_code 25 = .ok (.iload_n 1, 1) := by decide +kernel
theorem d_S_isMeant_26 : decode prog_3_method_4_code 26 = .ok (.if_icmp .ne 7, 3) := by decide +kernel
theorem d_S_isMeant_29 : decode prog_3_method_4_code 29 = .ok (.iconst 1, 1) := by decide +kernel
theorem d_S_isMeant_30 : decode prog_3_method_4_code 30 = .ok (.goto 4, 3) := by decide +kernel
theorem d_S_isMeant_33 : decode prog_3_method_4_code 33 = .ok (.iconst 0, 1) := by decide +kernel
theorem d_S_isMeant_34 : decode prog_3_method_4_code 34 = .ok (.ireturn, 1) := by decide +kernel
theorem d_S_isMeant_35 : decode prog_3_method_4_code 35 = .ok (.iload_n 1, 1) := by decide +kernel
theorem d_S_isMeant_36 : decode prog_3_method_4_code 36 = .ok (.ifCond .lt 23, 3) := by decide +kernel
theorem d_S_isMeant_39 : decode prog_3_method_4_code 39 = .ok (.iload_n 1, 1) := by decide +kernel
theorem d_S_isMeant_40 : decode prog_3_method_4_code 40 = .ok (.sipush 256, 3) := by decide +kernel
theorem d_S_isMeant_43 : decode prog_3_method_4_code 43 = .ok (.if_icmp .ge 16, 3) := by decide +kernel
theorem d_S_isMeant_46 : decode prog_3_method_4_code 46 = .ok (.aload_n 0, 1) := by decide +kernel
theorem d_S_isMeant_47 : decode prog_3_method_4_code 47 = .ok (.getfield 9, 3) := by decide +kernel
theorem d_S_isMeant_50 : decode prog_3_method_4_code 50 = .ok (.iload_n 1, 1) := by decide +kernel
theorem d_S_isMeant_51 : decode prog_3_method_4_code 51 = .ok (.baload, 1) := by decide +kernel
theorem d_S_isMeant_52 : decode prog_3_method_4_code 52 = .ok (.ifCond .eq 7, 3) := by decide +kernel
theorem d_S_isMeant_55 : decode prog_3_method_4_code 55 = .ok (.iconst 1, 1) := by decide +kernel
theorem d_S_isMeant_56 : decode prog_3_method_4_code 56 = .ok (.goto 4, 3) := by decide +kernel
theorem d_S_isMeant_59 : decode prog_3_method_4_code 59 = .ok (.iconst 0, 1) := by decide +kernel
theorem d_S_isMeant_60 : decode prog_3_method_4_code 60 = .ok (.ireturn, 1) := by decide +kernel
def b_S_isMeant_15 (post : Option Value → Mm → Prop) : Kk := (i_push (.int 0) (i_zret post))
theorem t_S_isMeant_15 {Z : Zt} {X0 : Mm} {post : Option Value → Mm → Prop} (g : Good Z prog_3_method_4_code 3 "BusTelegrams$Station" 0) (hq : RetZ Z true X0 0 0 post) (hr : (zM Z).sig.returnType = (some .boolean)) : Snd Z 3 15 (b_S_isMeant_15 post) := by
  unfold b_S_isMeant_15
  exact (s_push_iconst g d_S_isMeant_15 (by decide) (s_zret0 g hq hr d_S_isMeant_16))
def b_S_isMeant_60 (post : Option Value → Mm → Prop) : Kk := (i_zret post)
theorem t_S_isMeant_60 {Z : Zt} {X0 : Mm} {post : Option Value → Mm → Prop} (g : Good Z prog_3_method_4_code 3 "BusTelegrams$Station" 0) (hq : RetZ Z true X0 0 0 post) (hr : (zM Z).sig.returnType = (some .boolean)) : Snd Z 3 60 (b_S_isMeant_60 post) := by
  unfold b_S_isMeant_60
  exact (s_zret0 g hq hr d_S_isMeant_60)
def b_S_isMeant_59 (post : Option Value → Mm → Prop) : Kk := (i_push (.int 0) (b_S_isMeant_60 post))
theorem t_S_isMeant_59 {Z : Zt} {X0 : Mm} {post : Option Value → Mm → Prop} (g : Good Z prog_3_method_4_code 3 "BusTelegrams$Station" 0) (hq : RetZ Z true X0 0 0 post) (hr : (zM Z).sig.returnType = (some .boolean)) : Snd Z 3 59 (b_S_isMeant_59 post) := by
  unfold b_S_isMeant_59
  exact (s_push_iconst g d_S_isMeant_59 (by decide) (t_S_isMeant_60 g hq hr))
def b_S_isMeant_34 (post : Option Value → Mm → Prop) : Kk := (i_zret post)
theorem t_S_isMeant_34 {Z : Zt} {X0 : Mm} {post : Option Value → Mm → Prop} (g : Good Z prog_3_method_4_code 3 "BusTelegrams$Station" 0) (hq : RetZ Z true X0 0 0 post) (hr : (zM Z).sig.returnType = (some .boolean)) : Snd Z 3 34 (b_S_isMeant_34 post) := by
  unfold b_S_isMeant_34
  exact (s_zret0 g hq hr d_S_isMeant_34)
def b_S_isMeant_0 (post : Option Value → Mm → Prop) : Kk := (i_aload 0 (i_getI 1 8 (i_if (fun x y => x = y) (i_aload 0 (i_getI 1 6 (i_push (.int (-1)) (i_icmp (fun x y => x = y) (i_iload 2 (i_if (fun x y => x = y) (i_aload 0 (i_getI 1 2 (i_iload 1 (i_icmp (fun x y => x = y) (i_push (.int 1) (b_S_isMeant_34 post)) (i_push (.int 0) (b_S_isMeant_34 post)))))) (i_iload 1 (i_if (fun x y => x < y) (b_S_isMeant_59 post) (i_iload 1 (i_push (.int 256) (i_icmp (fun x y => y ≤ x) (b_S_isMeant_59 post) (i_aload 0 (i_getR 1 0 (i_iload 1 (i_ald 11 (i_if (fun x y => x = y) (b_S_isMeant_59 post) (i_push (.int 1) (b_S_isMeant_60 post)))))))))))))) (b_S_isMeant_15 post))))) (b_S_isMeant_15 post))))
theorem t_S_isMeant_0 {Z : Zt} {X0 : Mm} {post : Option Value → Mm → Prop} (g : Good Z prog_3_method_4_code 3 "BusTelegrams$Station" 0) (hq : RetZ Z true X0 0 0 post) (hr : (zM Z).sig.returnType = (some .boolean)) : Snd Z 3 0 (b_S_isMeant_0 post) := by
  unfold b_S_isMeant_0
  exact (s_aload_n g d_S_isMeant_0 rfl (s_getI g (c := 1) (j := 8) cok_1 (by decide) rfl mw_121 rfl d_S_isMeant_1 (s_if_ne g d_S_isMeant_4 (by decide) (t_S_isMeant_15 g hq hr) (s_aload_n g d_S_isMeant_7 rfl (s_getI g (c := 1) (j := 6) cok_1 (by decide) rfl mw_119 rfl d_S_isMeant_8 (s_push_iconst g d_S_isMeant_11 (by decide) (s_icmp_eq g d_S_isMeant_12 (by decide) (s_iload_n g d_S_isMeant_17 rfl (s_if_ne g d_S_isMeant_18 (by decide) (s_iload_n g d_S_isMeant_35 rfl (s_if_lt g d_S_isMeant_36 (by decide) (t_S_isMeant_59 g hq hr) (s_iload_n g d_S_isMeant_39 rfl (s_push_sipush g d_S_isMeant_40 (by decide) (s_icmp_ge g d_S_isMeant_43 (by decide) (t_S_isMeant_59 g hq hr) (s_aload_n g d_S_isMeant_46 rfl (s_getR g (c := 1) (j := 0) cok_1 (by decide) rfl mw_109 rfl d_S_isMeant_47 (s_iload_n g d_S_isMeant_50 rfl (s_zald g d_S_isMeant_51 (s_if_eq g d_S_isMeant_52 (by decide) (t_S_isMeant_59 g hq hr) (s_push_iconst g d_S_isMeant_55 (by decide) (s_goto g d_S_isMeant_56 (by decide) (t_S_isMeant_60 g hq hr))))))))))))) (s_aload_n g d_S_isMeant_21 rfl (s_getI g (c := 1) (j := 2) cok_1 (by decide) rfl mw_112 rfl d_S_isMeant_22 (s_iload_n g d_S_isMeant_25 rfl (s_icmp_ne g d_S_isMeant_26 (by decide) (s_push_iconst g d_S_isMeant_33 (by decide) (t_S_isMeant_34 g hq hr)) (s_push_iconst g d_S_isMeant_29 (by decide) (s_goto g d_S_isMeant_30 (by decide) (t_S_isMeant_34 g hq hr))))))))) (t_S_isMeant_15 g hq hr))))))))
def w_S_isMeant : Wp := wpOf 3 (fun _ post => b_S_isMeant_0 post)
theorem C_S_isMeant (l : Launch) : MetS l ({ cls := "BusTelegrams$Station", name := "isMeant", desc := "(IZ)Z" } : Jvm.MethodName) prog_3_method_4_code 3 (some .boolean) true 0 0 0 w_S_isMeant := metS_of (by decide +kernel) (fun Z X0 post hZ g hq hr _ => t_S_isMeant_0 g hq hr)
theorem hd_S_isMeant : (({ cls := "BusTelegrams$Station", name := "isMeant", desc := "(IZ)Z" } : Jvm.MethodName)).cls = "BusTelegrams$Station" ∧ (({ cls := "BusTelegrams$Station", name := "isMeant", desc := "(IZ)Z" } : Jvm.MethodName)).cls ≠ "java/lang/invoke/MethodHandle" ∧ (({ cls := "BusTelegrams$Station", name := "isMeant", desc := "(IZ)Z" } : Jvm.MethodName)).cls ≠ "java/lang/invoke/VarHandle" ∧ (parseMethodDescriptor (({ cls := "BusTelegrams$Station", name := "isMeant", desc := "(IZ)Z" } : Jvm.MethodName)).desc).map (fun d => d.parameters.length) = some 2 := ⟨rfl, by decide, by decide, by decide +kernel⟩
theorem d_S_beginAnswer_0 : decode prog_3_method_5_code 0 = .ok (.aload_n 0, 1) := by decide +kernel
theorem d_S_beginAnswer_1 : decode prog_3_method_5_code 1 = .ok (.iconst 0, 1) := by decide +kernel
theorem d_S_beginAnswer_2 : decode prog_3_method_5_code 2 = .ok (.putfield 44, 3) := by decide +kernel
theorem d_S_beginAnswer_5 : decode prog_3_method_5_code 5 = .ok (.aload_n 0, 1) := by decide +kernel
theorem d_S_beginAnswer_6 : decode prog_3_method_5_code 6 = .ok (.iload_n 1, 1) := by decide +kernel
theorem d_S_beginAnswer_7 : decode prog_3_method_5_code 7 = .ok (.ifCond .ne 8, 3) := by decide +kernel
theorem d_S_beginAnswer_10 : decode prog_3_method_5_code 10 = .ok (.bipush 12, 2) := by decide +kernel
theorem d_S_beginAnswer_12 : decode prog_3_method_5_code 12 = .ok (.goto 19, 3) := by decide +kernel
theorem d_S_beginAnswer_15 : decode prog_3_method_5_code 15 = .ok (.aload_n 0, 1) := by decide +kernel
theorem d_S_beginAnswer_16 : decode prog_3_method_5_code 16 = .ok (.getfield 21, 3) := by decide +kernel
theorem d_S_beginAnswer_19 : decode prog_3_method_5_code 19 = .ok (.ifCond .eq 9, 3) := by decide +kernel
theorem d_S_beginAnswer_22 : decode prog_3_method_5_code 22 = .ok (.sipush 192, 3) := by decide +kernel
theorem d_S_beginAnswer_25 : decode prog_3_method_5_code 25 = .ok (.goto 6, 3) := by decide +kernel
theorem d_S_beginAnswer_28 : decode prog_3_method_5_code 28 = .ok (.sipush 204, 3) := by decide +kernel
theorem d_S_beginAnswer_31 : decode prog_3_method_5_code 31 = .ok (.putfield 47, 3) := by decide +kernel
theorem d_S_beginAnswer_34 : decode prog_3_method_5_code 34 = .ok (.return_, 1) := by decide +kernel
def b_S_beginAnswer_31 (post : Option Value → Mm → Prop) : Kk := (i_putI 1 11 (i_vret post))
theorem t_S_beginAnswer_31 {Z : Zt} {X0 : Mm} {post : Option Value → Mm → Prop} (g : Good Z prog_3_method_5_code 2 "BusTelegrams$Station" 0) (hq : RetZ Z true X0 0 0 post) (hr : (zM Z).sig.returnType = none) : Snd Z 2 31 (b_S_beginAnswer_31 post) := by
  unfold b_S_beginAnswer_31
  exact (s_putI g (c := 1) (j := 11) cok_1 (by decide) rfl rfl rfl mw_124 rfl d_S_beginAnswer_31 (s_vret0 g hq hr d_S_beginAnswer_34))
def b_S_beginAnswer_0 (post : Option Value → Mm → Prop) : Kk := (i_aload 0 (i_push (.int 0) (i_putI 1 10 (i_aload 0 (i_iload 1 (i_if (fun x y => x = y) (i_push (.int 12) (b_S_beginAnswer_31 post)) (i_aload 0 (i_getI 1 3 (i_if (fun x y => x = y) (i_push (.int 204) (b_S_beginAnswer_31 post)) (i_push (.int 192) (b_S_beginAnswer_31 post)))))))))))
theorem t_S_beginAnswer_0 {Z : Zt} {X0 : Mm} {post : Option Value → Mm → Prop} (g : Good Z prog_3_method_5_code 2 "BusTelegrams$Station" 0) (hq : RetZ Z true X0 0 0 post) (hr : (zM Z).sig.returnType = none) : Snd Z 2 0 (b_S_beginAnswer_0 post) := by
  unfold b_S_beginAnswer_0
  exact (s_aload_n g d_S_beginAnswer_0 rfl (s_push_iconst g d_S_beginAnswer_1 (by decide) (s_putI g (c := 1) (j := 10) cok_1 (by decide) rfl rfl rfl mw_123 rfl d_S_beginAnswer_2 (s_aload_n g d_S_beginAnswer_5 rfl (s_iload_n g d_S_beginAnswer_6 rfl (s_if_ne g d_S_beginAnswer_7 (by decide) (s_aload_n g d_S_beginAnswer_15 rfl (s_getI g (c := 1) (j := 3) cok_1 (by decide) rfl mw_114 rfl d_S_beginAnswer_16 (s_if_eq g d_S_beginAnswer_19 (by decide) (s_push_sipush g d_S_beginAnswer_28 (by decide) (t_S_beginAnswer_31 g hq hr)) (s_push_sipush g d_S_beginAnswer_22 (by decide) (s_goto g d_S_beginAnswer_25 (by decide) (t_S_beginAnswer_31 g hq hr)))))) (s_push_bipush g d_S_beginAnswer_10 (by decide) (s_goto g d_S_beginAnswer_12 (by decide) (t_S_beginAnswer_31 g hq hr)))))))))
def w_S_beginAnswer : Wp := wpOf 2 (fun _ post => b_S_beginAnswer_0 post)
theorem C_S_beginAnswer (l : Launch) : MetS l ({ cls := "BusTelegrams$Station", name := "beginAnswer", desc := "(Z)V" } : Jvm.MethodName) prog_3_method_5_code 2 none true 0 0 0 w_S_beginAnswer := metS_of (by decide +kernel) (fun Z X0 post hZ g hq hr _ => t_S_beginAnswer_0 g hq hr)
theorem hd_S_beginAnswer : (({ cls := "BusTelegrams$Station", name := "beginAnswer", desc := "(Z)V" } : Jvm.MethodName)).cls = "BusTelegrams$Station" ∧ (({ cls := "BusTelegrams$Station", name := "beginAnswer", desc := "(Z)V" } : Jvm.MethodName)).cls ≠ "java/lang/invoke/MethodHandle" ∧ (({ cls := "BusTelegrams$Station", name := "beginAnswer", desc := "(Z)V" } : Jvm.MethodName)).cls ≠ "java/lang/invoke/VarHandle" ∧ (parseMethodDescriptor (({ cls := "BusTelegrams$Station", name := "beginAnswer", desc := "(Z)V" } : Jvm.MethodName)).desc).map (fun d => d.parameters.length) = some 1 := ⟨rfl, by decide, by decide, by decide +kernel⟩
theorem d_J_bitCount_0 : decode prog_10_method_49_code 0 = .ok (.iload_n 0, 1) := by decide +kernel
theorem d_J_bitCount_1 : decode prog_10_method_49_code 1 = .ok (.iload_n 0, 1) := by decide +kernel
theorem d_J_bitCount_2 : decode prog_10_method_49_code 2 = .ok (.iconst 1, 1) := by decide +kernel
theorem d_J_bitCount_3 : decode prog_10_method_49_code 3 = .ok (.iushr, 1) := by decide +kernel
theorem d_J_bitCount_4 : decode prog_10_method_49_code 4 = .ok (.ldc_w 265, 3) := by decide +kernel
theorem d_J_bitCount_7 : decode prog_10_method_49_code 7 = .ok (.iand, 1) := by decide +kernel
theorem d_J_bitCount_8 : decode prog_10_method_49_code 8 = .ok (.isub, 1) := by decide +kernel
theorem d_J_bitCount_9 : decode prog_10_method_49_code 9 = .ok (.istore_n 0, 1) := by decide +kernel
theorem d_J_bitCount_10 : decode prog_10_method_49_code 10 = .ok (.iload_n 0, 1) := by decide +kernel
theorem d_J_bitCount_11 : decode prog_10_method_49_code 11 = .ok (.ldc_w 266, 3) := by decide +kernel
theorem d_J_bitCount_14 : decode prog_10_method_49_code 14 = .ok (.iand, 1) := by decide +kernel
theorem d_J_bitCount_15 : decode prog_10_method_49_code 15 = .ok (.iload_n 0, 1) := by decide +kernel
theorem d_J_bitCount_16 : decode prog_10_method_49_code 16 = .ok (.iconst 2, 1) := by decide +kernel
theorem d_J_bitCount_17 : decode prog_10_method_49_code 17 = .ok (.iushr, 1) := by decide +kernel
theorem d_J_bitCount_18 : decode prog_10_method_49_code 18 = .ok (.ldc_w 266, 3) := by decide +kernel
theorem d_J_bitCount_21 : decode prog_10_method_49_code 21 = .ok (.iand, 1) := by decide +kernel
theorem d_J_bitCount_22 : decode prog_10_method_49_code 22 = .ok (.iadd, 1) := by decide +kernel
theorem d_J_bitCount_23 : decode prog_10_method_49_code 23 = .ok (.istore_n 0, 1) := by decide +kernel
theorem d_J_bitCount_24 : decode prog_10_method_49_code 24 = .ok (.iload_n 0, 1) := by decide +kernel
theorem d_J_bitCount_25 : decode prog_10_method_49_code 25 = .ok (.iload_n 0, 1) := by decide +kernel
theorem d_J_bitCount_26 : decode prog_10_method_49_code 26 = .ok (.iconst 4, 1) := by decide +kernel
theorem d_J_bitCount_27 : decode prog_10_method_49_code 27 = .ok (.iushr, 1) := by decide +kernel
theorem d_J_bitCount_28 : decode prog_10_method_49_code 28 = .ok (.iadd, 1) := by decide +kernel
theorem d_J_bitCount_29 : decode prog_10_method_49_code 29 = .ok (.ldc_w 267, 3) := by decide +kernel
theorem d_J_bitCount_32 : decode prog_10_method_49_code 32 = .ok (.iand, 1) := by decide +kernel
theorem d_J_bitCount_33 : decode prog_10_method_49_code 33 = .ok (.istore_n 0, 1) := by decide +kernel
theorem d_J_bitCount_34 : decode prog_10_method_49_code 34 = .ok (.iload_n 0, 1) := by decide +kernel
theorem d_J_bitCount_35 : decode prog_10_method_49_code 35 = .ok (.iload_n 0, 1) := by decide +kernel
theorem d_J_bitCount_36 : decode prog_10_method_49_code 36 = .ok (.bipush 8, 2) := by decide +kernel
theorem d_J_bitCount_38 : decode prog_10_method_49_code 38 = .ok (.iushr, 1) := by decide +kernel
theorem d_J_bitCount_39 : decode prog_10_method_49_code 39 = .ok (.iadd, 1) := by decide +kernel
theorem d_J_bitCount_40 : decode prog_10_method_49_code 40 = .ok (.istore_n 0, 1) := by decide +kernel
theorem d_J_bitCount_41 : decode prog_10_method_49_code 41 = .ok (.iload_n 0, 1) := by decide +kernel
theorem d_J_bitCount_42 : decode prog_10_method_49_code 42 = .ok (.iload_n 0, 1) := by decide +kernel
theorem d_J_bitCount_43 : decode prog_10_method_49_code 43 = .ok (.bipush 16, 2) := by decide +kernel
theorem d_J_bitCount_45 : decode prog_10_method_49_code 45 = .ok (.iushr, 1) := by decide +kernel
theorem d_J_bitCount_46 : decode prog_10_method_49_code 46 = .ok (.iadd, 1) := by decide +kernel
theorem d_J_bitCount_47 : decode prog_10_method_49_code 47 = .ok (.istore_n 0, 1) := by decide +kernel
theorem d_J_bitCount_48 : decode prog_10_method_49_code 48 = .ok (.iload_n 0, 1) := by decide +kernel
theorem d_J_bitCount_49 : decode prog_10_method_49_code 49 = .ok (.bipush 63, 2) := by decide +kernel
theorem d_J_bitCount_51 : decode prog_10_method_49_code 51 = .ok (.iand, 1) := by decide +kernel
theorem d_J_bitCount_52 : decode prog_10_method_49_code 52 = .ok (.ireturn, 1) := by decide +kernel
def b_J_bitCount_0 (post : Option Value → Mm → Prop) : Kk := (i_iload 0 (i_iload 0 (i_push (.int 1) (i_bin (fun x y => (x.toUInt32 >>> (y.toUInt32 &&& Int32.toUInt32 31)).toInt32) (i_push (.int 1431655765) (i_bin (fun x y => x &&& y) (i_bin (fun x y => x - y) (i_istore 0 (i_iload 0 (i_push (.int 858993459) (i_bin (fun x y => x &&& y) (i_iload 0 (i_push (.int 2) (i_bin (fun x y => (x.toUInt32 >>> (y.toUInt32 &&& Int32.toUInt32 31)).toInt32) (i_push (.int 858993459) (i_bin (fun x y => x &&& y) (i_bin (fun x y => x + y) (i_istore 0 (i_iload 0 (i_iload 0 (i_push (.int 4) (i_bin (fun x y => (x.toUInt32 >>> (y.toUInt32 &&& Int32.toUInt32 31)).toInt32) (i_bin (fun x y => x + y) (i_push (.int 252645135) (i_bin (fun x y => x &&& y) (i_istore 0 (i_iload 0 (i_iload 0 (i_push (.int 8) (i_bin (fun x y => (x.toUInt32 >>> (y.toUInt32 &&& Int32.toUInt32 31)).toInt32) (i_bin (fun x y => x + y) (i_istore 0 (i_iload 0 (i_iload 0 (i_push (.int 16) (i_bin (fun x y => (x.toUInt32 >>> (y.toUInt32 &&& Int32.toUInt32 31)).toInt32) (i_bin (fun x y => x + y) (i_istore 0 (i_iload 0 (i_push (.int 63) (i_bin (fun x y => x &&& y) (i_iret post))))))))))))))))))))))))))))))))))))))))))
theorem t_J_bitCount_0 {Z : Zt} {X0 : Mm} {post : Option Value → Mm → Prop} (g : Good Z prog_10_method_49_code 1 "java/lang/Integer" 0) (hq : RetZ Z true X0 0 0 post) (hr : (zM Z).sig.returnType = (some .int)) : Snd Z 1 0 (b_J_bitCount_0 post) := by
  unfold b_J_bitCount_0
  exact (s_iload_n g d_J_bitCount_0 rfl (s_iload_n g d_J_bitCount_1 rfl (s_push_iconst g d_J_bitCount_2 (by decide) (s_iushr g d_J_bitCount_3 (s_push_ldcw g mw_419 d_J_bitCount_4 (s_iand g d_J_bitCount_7 (s_isub g d_J_bitCount_8 (s_istore_n g (by decide) d_J_bitCount_9 rfl (s_iload_n g d_J_bitCount_10 rfl (s_push_ldcw g mw_420 d_J_bitCount_11 (s_iand g d_J_bitCount_14 (s_iload_n g d_J_bitCount_15 rfl (s_push_iconst g d_J_bitCount_16 (by decide) (s_iushr g d_J_bitCount_17 (s_push_ldcw g mw_420 d_J_bitCount_18 (s_iand g d_J_bitCount_21 (s_iadd g d_J_bitCount_22 (s_istore_n g (by decide) d_J_bitCount_23 rfl (s_iload_n g d_J_bitCount_24 rfl (s_iload_n g d_J_bitCount_25 rfl (s_push_iconst g d_J_bitCount_26 (by decide) (s_iushr g d_J_bitCount_27 (s_iadd g d_J_bitCount_28 (s_push_ldcw g mw_421 d_J_bitCount_29 (s_iand g d_J_bitCount_32 (s_istore_n g (by decide) d_J_bitCount_33 rfl (s_iload_n g d_J_bitCount_34 rfl (s_iload_n g d_J_bitCount_35 rfl (s_push_bipush g d_J_bitCount_36 (by decide) (s_iushr g d_J_bitCount_38 (s_iadd g d_J_bitCount_39 (s_istore_n g (by decide) d_J_bitCount_40 rfl (s_iload_n g d_J_bitCount_41 rfl (s_iload_n g d_J_bitCount_42 rfl (s_push_bipush g d_J_bitCount_43 (by decide) (s_iushr g d_J_bitCount_45 (s_iadd g d_J_bitCount_46 (s_istore_n g (by decide) d_J_bitCount_47 rfl (s_iload_n g d_J_bitCount_48 rfl (s_push_bipush g d_J_bitCount_49 (by decide) (s_iand g d_J_bitCount_51 (s_iret0 g hq hr d_J_bitCount_52))))))))))))))))))))))))))))))))))))))))))
def w_J_bitCount : Wp := wpOf 1 (fun _ post => b_J_bitCount_0 post)
theorem C_J_bitCount (l : Launch) : MetS l ({ cls := "java/lang/Integer", name := "bitCount", desc := "(I)I" } : Jvm.MethodName) prog_10_method_49_code 1 (some .int) true 0 0 0 w_J_bitCount := metS_of (by decide +kernel) (fun Z X0 post hZ g hq hr _ => t_J_bitCount_0 g hq hr)
theorem hd_J_bitCount : (({ cls := "java/lang/Integer", name := "bitCount", desc := "(I)I" } : Jvm.MethodName)).cls ≠ "java/lang/invoke/MethodHandle" ∧ (({ cls := "java/lang/Integer", name := "bitCount", desc := "(I)I" } : Jvm.MethodName)).cls ≠ "java/lang/invoke/VarHandle" ∧ (parseMethodDescriptor (({ cls := "java/lang/Integer", name := "bitCount", desc := "(I)I" } : Jvm.MethodName)).desc).map (fun d => d.parameters.length) = some 1 := ⟨by decide, by decide, by decide +kernel⟩
theorem d_T_idleNeeded_0 : decode prog_4_method_5_code 0 = .ok (.aload_n 0, 1) := by decide +kernel
theorem d_T_idleNeeded_1 : decode prog_4_method_5_code 1 = .ok (.getfield 19, 3) := by decide +kernel
theorem d_T_idleNeeded_4 : decode prog_4_method_5_code 4 = .ok (.iconst 2, 1) := by decide +kernel
theorem d_T_idleNeeded_5 : decode prog_4_method_5_code 5 = .ok (.if_icmp .lt 15, 3) := by decide +kernel
theorem d_T_idleNeeded_8 : decode prog_4_method_5_code 8 = .ok (.aload_n 0, 1) := by decide +kernel
theorem d_T_idleNeeded_9 : decode prog_4_method_5_code 9 = .ok (.getfield 22, 3) := by decide +kernel
theorem d_T_idleNeeded_12 : decode prog_4_method_5_code 12 = .ok (.ifCond .ne 8, 3) := by decide +kernel
theorem d_T_idleNeeded_15 : decode prog_4_method_5_code 15 = .ok (.bipush 53, 2) := by decide +kernel
theorem d_T_idleNeeded_17 : decode prog_4_method_5_code 17 = .ok (.goto 5, 3) := by decide +kernel
theorem d_T_idleNeeded_20 : decode prog_4_method_5_code 20 = .ok (.bipush 50, 2) := by decide +kernel
theorem d_T_idleNeeded_22 : decode prog_4_method_5_code 22 = .ok (.ireturn, 1) := by decide +kernel
def b_T_idleNeeded_22 (post : Option Value → Mm → Prop) : Kk := (i_iret post)
theorem t_T_idleNeeded_22 {Z : Zt} {X0 : Mm} {post : Option Value → Mm → Prop} (g : Good Z prog_4_method_5_code 1 "BusTelegrams$Telegram" 0) (hq : RetZ Z true X0 0 0 post) (hr : (zM Z).sig.returnType = (some .int)) : Snd Z 1 22 (b_T_idleNeeded_22 post) := by
  unfold b_T_idleNeeded_22
  exact (s_iret0 g hq hr d_T_idleNeeded_22)
def b_T_idleNeeded_20 (post : Option Value → Mm → Prop) : Kk := (i_push (.int 50) (b_T_idleNeeded_22 post))
theorem t_T_idleNeeded_20 {Z : Zt} {X0 : Mm} {post : Option Value → Mm → Prop} (g : Good Z prog_4_method_5_code 1 "BusTelegrams$Telegram" 0) (hq : RetZ Z true X0 0 0 post) (hr : (zM Z).sig.returnType = (some .int)) : Snd Z 1 20 (b_T_idleNeeded_20 post) := by
  unfold b_T_idleNeeded_20
  exact (s_push_bipush g d_T_idleNeeded_20 (by decide) (t_T_idleNeeded_22 g hq hr))
def b_T_idleNeeded_0 (post : Option Value → Mm → Prop) : Kk := (i_aload 0 (i_getI 2 2 (i_push (.int 2) (i_icmp (fun x y => x < y) (b_T_idleNeeded_20 post) (i_aload 0 (i_getI 2 3 (i_if (fun x y => x = y) (i_push (.int 53) (b_T_idleNeeded_22 post)) (b_T_idleNeeded_20 post))))))))
theorem t_T_idleNeeded_0 {Z : Zt} {X0 : Mm} {post : Option Value → Mm → Prop} (g : Good Z prog_4_method_5_code 1 "BusTelegrams$Telegram" 0) (hq : RetZ Z true X0 0 0 post) (hr : (zM Z).sig.returnType = (some .int)) : Snd Z 1 0 (b_T_idleNeeded_0 post) := by
  unfold b_T_idleNeeded_0
  exact (s_aload_n g d_T_idleNeeded_0 rfl (s_getI g (c := 2) (j := 2) cok_2 (by decide) rfl mw_96 rfl d_T_idleNeeded_1 (s_push_iconst g d_T_idleNeeded_4 (by decide) (s_icmp_lt g d_T_idleNeeded_5 (by decide) (t_T_idleNeeded_20 g hq hr) (s_aload_n g d_T_idleNeeded_8 rfl (s_getI g (c := 2) (j := 3) cok_2 (by decide) rfl mw_97 rfl d_T_idleNeeded_9 (s_if_ne g d_T_idleNeeded_12 (by decide) (t_T_idleNeeded_20 g hq hr) (s_push_bipush g d_T_idleNeeded_15 (by decide) (s_goto g d_T_idleNeeded_17 (by decide) (t_T_idleNeeded_22 g hq hr))))))))))
def w_T_idleNeeded : Wp := wpOf 1 (fun _ post => b_T_idleNeeded_0 post)
theorem C_T_idleNeeded (l : Launch) : MetS l ({ cls := "BusTelegrams$Telegram", name := "idleNeeded", desc := "()I" } : Jvm.MethodName) prog_4_method_5_code 1 (some .int) true 0 0 0 w_T_idleNeeded := metS_of (by decide +kernel) (fun Z X0 post hZ g hq hr _ => t_T_idleNeeded_0 g hq hr)
theorem hd_T_idleNeeded : (({ cls := "BusTelegrams$Telegram", name := "idleNeeded", desc := "()I" } : Jvm.MethodName)).cls = "BusTelegrams$Telegram" ∧ (({ cls := "BusTelegrams$Telegram", name := "idleNeeded", desc := "()I" } : Jvm.MethodName)).cls ≠ "java/lang/invoke/MethodHandle" ∧ (({ cls := "BusTelegrams$Telegram", name := "idleNeeded", desc := "()I" } : Jvm.MethodName)).cls ≠ "java/lang/invoke/VarHandle" ∧ (parseMethodDescriptor (({ cls := "BusTelegrams$Telegram", name := "idleNeeded", desc := "()I" } : Jvm.MethodName)).desc).map (fun d => d.parameters.length) = some 0 := ⟨rfl, by decide, by decide, by decide +kernel⟩
theorem d_T_bitCount_0 : decode prog_4_method_7_code 0 = .ok (.bipush 13, 2) := by decide +kernel
theorem d_T_bitCount_2 : decode prog_4_method_7_code 2 = .ok (.aload_n 0, 1) := by decide +kernel
theorem d_T_bitCount_3 : decode prog_4_method_7_code 3 = .ok (.getfield 15, 3) := by decide +kernel
theorem d_T_bitCount_6 : decode prog_4_method_7_code 6 = .ok (.imul, 1) := by decide +kernel
theorem d_T_bitCount_7 : decode prog_4_method_7_code 7 = .ok (.iconst 2, 1) := by decide +kernel
theorem d_T_bitCount_8 : decode prog_4_method_7_code 8 = .ok (.isub, 1) := by decide +kernel
theorem d_T_bitCount_9 : decode prog_4_method_7_code 9 = .ok (.ireturn, 1) := by decide +kernel
def b_T_bitCount_0 (post : Option Value → Mm → Prop) : Kk := (i_push (.int 13) (i_aload 0 (i_getI 2 1 (i_bin (fun x y => x * y) (i_push (.int 2) (i_bin (fun x y => x - y) (i_iret post)))))))
theorem t_T_bitCount_0 {Z : Zt} {X0 : Mm} {post : Option Value → Mm → Prop} (g : Good Z prog_4_method_7_code 1 "BusTelegrams$Telegram" 0) (hq : RetZ Z true X0 0 0 post) (hr : (zM Z).sig.returnType = (some .int)) : Snd Z 1 0 (b_T_bitCount_0 post) := by
  unfold b_T_bitCount_0
  exact (s_push_bipush g d_T_bitCount_0 (by decide) (s_aload_n g d_T_bitCount_2 rfl (s_getI g (c := 2) (j := 1) cok_2 (by decide) rfl mw_95 rfl d_T_bitCount_3 (s_imul g d_T_bitCount_6 (s_push_iconst g d_T_bitCount_7 (by decide) (s_isub g d_T_bitCount_8 (s_iret0 g hq hr d_T_bitCount_9)))))))
def w_T_bitCount : Wp := wpOf 1 (fun _ post => b_T_bitCount_0 post)
theorem C_T_bitCount (l : Launch) : MetS l ({ cls := "BusTelegrams$Telegram", name := "bitCount", desc := "()I" } : Jvm.MethodName) prog_4_method_7_code 1 (some .int) true 0 0 0 w_T_bitCount := metS_of (by decide +kernel) (fun Z X0 post hZ g hq hr _ => t_T_bitCount_0 g hq hr)
theorem hd_T_bitCount : (({ cls := "BusTelegrams$Telegram", name := "bitCount", desc := "()I" } : Jvm.MethodName)).cls = "BusTelegrams$Telegram" ∧ (({ cls := "BusTelegrams$Telegram", name := "bitCount", desc := "()I" } : Jvm.MethodName)).cls ≠ "java/lang/invoke/MethodHandle" ∧ (({ cls := "BusTelegrams$Telegram", name := "bitCount", desc := "()I" } : Jvm.MethodName)).cls ≠ "java/lang/invoke/VarHandle" ∧ (parseMethodDescriptor (({ cls := "BusTelegrams$Telegram", name := "bitCount", desc := "()I" } : Jvm.MethodName)).desc).map (fun d => d.parameters.length) = some 0 := ⟨rfl, by decide, by decide, by decide +kernel⟩
theorem d_E_endCharacter_0 : decode prog_2_method_6_code 0 = .ok (.iload_n 1, 1) := by decide +kernel
theorem d_E_endCharacter_1 : decode prog_2_method_6_code 1 = .ok (.ifCond .eq 23, 3) := by decide +kernel
theorem d_E_endCharacter_4 : decode prog_2_method_6_code 4 = .ok (.aload_n 0, 1) := by decide +kernel
theorem d_E_endCharacter_5 : decode prog_2_method_6_code 5 = .ok (.getfield 31, 3) := by decide +kernel
theorem d_E_endCharacter_8 : decode prog_2_method_6_code 8 = .ok (.iconst 1, 1) := by decide +kernel
theorem d_E_endCharacter_9 : decode prog_2_method_6_code 9 = .ok (.iand, 1) := by decide +kernel
theorem d_E_endCharacter_10 : decode prog_2_method_6_code 10 = .ok (.iconst 1, 1) := by decide +kernel
theorem d_E_endCharacter_11 : decode prog_2_method_6_code 11 = .ok (.if_icmp .eq 13, 3) := by decide +kernel
theorem d_E_endCharacter_14 : decode prog_2_method_6_code 14 = .ok (.aload_n 0, 1) := by decide +kernel
theorem d_E_endCharacter_15 : decode prog_2_method_6_code 15 = .ok (.getfield 34, 3) := by decide +kernel
theorem d_E_endCharacter_18 : decode prog_2_method_6_code 18 = .ok (.sipush 600, 3) := by decide +kernel
theorem d_E_endCharacter_21 : decode prog_2_method_6_code 21 = .ok (.if_icmp .lt 8, 3) := by decide +kernel
theorem d_E_endCharacter_24 : decode prog_2_method_6_code 24 = .ok (.aload_n 0, 1) := by decide +kernel
theorem d_E_endCharacter_25 : decode prog_2_method_6_code 25 = .ok (.iconst 1, 1) := by decide +kernel
theorem d_E_endCharacter_26 : decode prog_2_method_6_code 26 = .ok (.putfield 37, 3) := by decide +kernel
theorem d_E_endCharacter_29 : decode prog_2_method_6_code 29 = .ok (.aload_n 0, 1) := by decide +kernel
theorem d_E_endCharacter_30 : decode prog_2_method_6_code 30 = .ok (.getfield 34, 3) := by decide +kernel
theorem d_E_endCharacter_33 : decode prog_2_method_6_code 33 = .ok (.sipush 600, 3) := by decide +kernel
theorem d_E_endCharacter_36 : decode prog_2_method_6_code 36 = .ok (.if_icmp .ge 26, 3) := by decide +kernel
theorem d_E_endCharacter_39 : decode prog_2_method_6_code 39 = .ok (.aload_n 0, 1) := by decide +kernel
theorem d_E_endCharacter_40 : decode prog_2_method_6_code 40 = .ok (.getfield 11, 3) := by decide +kernel
theorem d_E_endCharacter_43 : decode prog_2_method_6_code 43 = .ok (.aload_n 0, 1) := by decide +kernel
theorem d_E_endCharacter_44 : decode prog_2_method_6_code 44 = .ok (.getfield 34, 3) := by decide +kernel
theorem d_E_endCharacter_47 : decode prog_2_method_6_code 47 = .ok (.aload_n 0, 1) := by decide +kernel
theorem d_E_endCharacter_48 : decode prog_2_method_6_code 48 = .ok (.getfield 28, 3) := by decide +kernel
theorem d_E_endCharacter_51 : decode prog_2_method_6_code 51 = .ok (.iastore, 1) := by decide +kernel
theorem d_E_endCharacter_52 : decode prog_2_method_6_code 52 = .ok (.aload_n 0, 1) := by decide +kernel
theorem d_E_endCharacter_53 : decode prog_2_method_6_code 53 = .ok (.dup, 1) := by decide +kernel
theorem d_E_endCharacter_54 : decode prog_2_method_6_code 54 = .ok (.getfield 34, 3) := by decide +kernel
theorem d_E_endCharacter_57 : decode prog_2_method_6_code 57 = .ok (.iconst 1, 1) := by decide +kernel
theorem d_E_endCharacter_58 : decode prog_2_method_6_code 58 = .ok (.iadd, 1) := by decide +kernel
theorem d_E_endCharacter_59 : decode prog_2_method_6_code 59 = .ok (.putfield 34, 3) := by decide +kernel
theorem d_E_endCharacter_62 : decode prog_2_method_6_code 62 = .ok (.aload_n 0, 1) := by decide +kernel
theorem d_E_endCharacter_63 : decode prog_2_method_6_code 63 = .ok (.iload_n 2, 1) := by decide +kernel
theorem d_E_endCharacter_64 : decode prog_2_method_6_code 64 = .ok (.putfield 44, 3) := by decide +kernel
theorem d_E_endCharacter_67 : decode prog_2_method_6_code 67 = .ok (.aload_n 0, 1) := by decide +kernel
theorem d_E_endCharacter_68 : decode prog_2_method_6_code 68 = .ok (.iconst 2, 1) := by decide +kernel
theorem d_E_endCharacter_69 : decode prog_2_method_6_code 69 = .ok (.putfield 21, 3) := by decide +kernel
theorem d_E_endCharacter_72 : decode prog_2_method_6_code 72 = .ok (.aload_n 0, 1) := by decide +kernel
theorem d_E_endCharacter_73 : decode prog_2_method_6_code 73 = .ok (.iconst 0, 1) := by decide +kernel
theorem d_E_endCharacter_74 : decode prog_2_method_6_code 74 = .ok (.putfield 25, 3) := by decide +kernel
theorem d_E_endCharacter_77 : decode prog_2_method_6_code 77 = .ok (.return_, 1) := by decide +kernel
def b_E_endCharacter_62 (post : Option Value → Mm → Prop) : Kk := (i_aload 0 (i_iload 2 (i_putI 0 10 (i_aload 0 (i_push (.int 2) (i_putI 0 3 (i_aload 0 (i_push (.int 0) (i_putI 0 4 (i_vret post))))))))))
theorem t_E_endCharacter_62 {Z : Zt} {X0 : Mm} {post : Option Value → Mm → Prop} (g : Good Z prog_2_method_6_code 3 "BusTelegrams$Ear" 0) (hq : RetZ Z true X0 0 0 post) (hr : (zM Z).sig.returnType = none) : Snd Z 3 62 (b_E_endCharacter_62 post) := by
  unfold b_E_endCharacter_62
  exact (s_aload_n g d_E_endCharacter_62 rfl (s_iload_n g d_E_endCharacter_63 rfl (s_putI g (c := 0) (j := 10) cok_0 (by decide) rfl rfl rfl mw_39 rfl d_E_endCharacter_64 (s_aload_n g d_E_endCharacter_67 rfl (s_push_iconst g d_E_endCharacter_68 (by decide) (s_putI g (c := 0) (j := 3) cok_0 (by decide) rfl rfl rfl mw_32 rfl d_E_endCharacter_69 (s_aload_n g d_E_endCharacter_72 rfl (s_push_iconst g d_E_endCharacter_73 (by decide) (s_putI g (c := 0) (j := 4) cok_0 (by decide) rfl rfl rfl mw_33 rfl d_E_endCharacter_74 (s_vret0 g hq hr d_E_endCharacter_77))))))))))
def b_E_endCharacter_29 (post : Option Value → Mm → Prop) : Kk := (i_aload 0 (i_getI 0 7 (i_push (.int 600) (i_icmp (fun x y => y ≤ x) (b_E_endCharacter_62 post) (i_aload 0 (i_getR 0 0 (i_aload 0 (i_getI 0 7 (i_aload 0 (i_getI 0 5 (i_ast (i_aload 0 (i_dup (i_getI 0 7 (i_push (.int 1) (i_bin (fun x y => x + y) (i_putI 0 7 (b_E_endCharacter_62 post))))))))))))))))))
theorem t_E_endCharacter_29 {Z : Zt} {X0 : Mm} {post : Option Value → Mm → Prop} (g : Good Z prog_2_method_6_code 3 "BusTelegrams$Ear" 0) (hq : RetZ Z true X0 0 0 post) (hr : (zM Z).sig.returnType = none) : Snd Z 3 29 (b_E_endCharacter_29 post) := by
  unfold b_E_endCharacter_29
  exact (s_aload_n g d_E_endCharacter_29 rfl (s_getI g (c := 0) (j := 7) cok_0 (by decide) rfl mw_36 rfl d_E_endCharacter_30 (s_push_sipush g d_E_endCharacter_33 (by decide) (s_icmp_ge g d_E_endCharacter_36 (by decide) (t_E_endCharacter_62 g hq hr) (s_aload_n g d_E_endCharacter_39 rfl (s_getR g (c := 0) (j := 0) cok_0 (by decide) rfl mw_29 rfl d_E_endCharacter_40 (s_aload_n g d_E_endCharacter_43 rfl (s_getI g (c := 0) (j := 7) cok_0 (by decide) rfl mw_36 rfl d_E_endCharacter_44 (s_aload_n g d_E_endCharacter_47 rfl (s_getI g (c := 0) (j := 5) cok_0 (by decide) rfl mw_34 rfl d_E_endCharacter_48 (s_iast g d_E_endCharacter_51 (s_aload_n g d_E_endCharacter_52 rfl (s_dup g d_E_endCharacter_53 (s_getI g (c := 0) (j := 7) cok_0 (by decide) rfl mw_36 rfl d_E_endCharacter_54 (s_push_iconst g d_E_endCharacter_57 (by decide) (s_iadd g d_E_endCharacter_58 (s_putI g (c := 0) (j := 7) cok_0 (by decide) rfl rfl rfl mw_36 rfl d_E_endCharacter_59 (t_E_endCharacter_62 g hq hr))))))))))))))))))
def b_E_endCharacter_24 (post : Option Value → Mm → Prop) : Kk := (i_aload 0 (i_push (.int 1) (i_putZ 0 8 (b_E_endCharacter_29 post))))
theorem t_E_endCharacter_24 {Z : Zt} {X0 : Mm} {post : Option Value → Mm → Prop} (g : Good Z prog_2_method_6_code 3 "BusTelegrams$Ear" 0) (hq : RetZ Z true X0 0 0 post) (hr : (zM Z).sig.returnType = none) : Snd Z 3 24 (b_E_endCharacter_24 post) := by
  unfold b_E_endCharacter_24
  exact (s_aload_n g d_E_endCharacter_24 rfl (s_push_iconst g d_E_endCharacter_25 (by decide) (s_putZ g (c := 0) (j := 8) cok_0 (by decide) rfl rfl rfl mw_37 rfl d_E_endCharacter_26 (t_E_endCharacter_29 g hq hr))))
def b_E_endCharacter_0 (post : Option Value → Mm → Prop) : Kk := (i_iload 1 (i_if (fun x y => x = y) (b_E_endCharacter_24 post) (i_aload 0 (i_getI 0 6 (i_push (.int 1) (i_bin (fun x y => x &&& y) (i_push (.int 1) (i_icmp (fun x y => x = y) (b_E_endCharacter_24 post) (i_aload 0 (i_getI 0 7 (i_push (.int 600) (i_icmp (fun x y => x < y) (b_E_endCharacter_29 post) (b_E_endCharacter_24 post)))))))))))))
theorem t_E_endCharacter_0 {Z : Zt} {X0 : Mm} {post : Option Value → Mm → Prop} (g : Good Z prog_2_method_6_code 3 "BusTelegrams$Ear" 0) (hq : RetZ Z true X0 0 0 post) (hr : (zM Z).sig.returnType = none) : Snd Z 3 0 (b_E_endCharacter_0 post) := by
  unfold b_E_endCharacter_0
  exact (s_iload_n g d_E_endCharacter_0 rfl (s_if_eq g d_E_endCharacter_1 (by decide) (t_E_endCharacter_24 g hq hr) (s_aload_n g d_E_endCharacter_4 rfl (s_getI g (c := 0) (j := 6) cok_0 (by decide) rfl mw_35 rfl d_E_endCharacter_5 (s_push_iconst g d_E_endCharacter_8 (by decide) (s_iand g d_E_endCharacter_9 (s_push_iconst g d_E_endCharacter_10 (by decide) (s_icmp_eq g d_E_endCharacter_11 (by decide) (t_E_endCharacter_24 g hq hr) (s_aload_n g d_E_endCharacter_14 rfl (s_getI g (c := 0) (j := 7) cok_0 (by decide) rfl mw_36 rfl d_E_endCharacter_15 (s_push_sipush g d_E_endCharacter_18 (by decide) (s_icmp_lt g d_E_endCharacter_21 (by decide) (t_E_endCharacter_29 g hq hr) (t_E_endCharacter_24 g hq hr)))))))))))))
def w_E_endCharacter : Wp := wpOf 3 (fun _ post => b_E_endCharacter_0 post)
theorem C_E_endCharacter (l : Launch) : MetS l ({ cls := "BusTelegrams$Ear", name := "endCharacter", desc := "(II)V" } : Jvm.MethodName) prog_2_method_6_code 3 none true 0 0 0 w_E_endCharacter := metS_of (by decide +kernel) (fun Z X0 post hZ g hq hr _ => t_E_endCharacter_0 g hq hr)
theorem hd_E_endCharacter : (({ cls := "BusTelegrams$Ear", name := "endCharacter", desc := "(II)V" } : Jvm.MethodName)).cls = "BusTelegrams$Ear" ∧ (({ cls := "BusTelegrams$Ear", name := "endCharacter", desc := "(II)V" } : Jvm.MethodName)).cls ≠ "java/lang/invoke/MethodHandle" ∧ (({ cls := "BusTelegrams$Ear", name := "endCharacter", desc := "(II)V" } : Jvm.MethodName)).cls ≠ "java/lang/invoke/VarHandle" ∧ (parseMethodDescriptor (({ cls := "BusTelegrams$Ear", name := "endCharacter", desc := "(II)V" } : Jvm.MethodName)).desc).map (fun d => d.parameters.length) = some 2 := ⟨rfl, by decide, by decide, by decide +kernel⟩
theorem d_E_beginCharacter_0 : decode prog_2_method_4_code 0 = .ok (.aload_n 0, 1) := by decide +kernel
theorem d_E_beginCharacter_1 : decode prog_2_method_4_code 1 = .ok (.iconst 1, 1) := by decide +kernel
theorem d_E_beginCharacter_2 : decode prog_2_method_4_code 2 = .ok (.putfield 21, 3) := by decide +kernel
theorem d_E_beginCharacter_5 : decode prog_2_method_4_code 5 = .ok (.aload_n 0, 1) := by decide +kernel
theorem d_E_beginCharacter_6 : decode prog_2_method_4_code 6 = .ok (.iconst 1, 1) := by decide +kernel
theorem d_E_beginCharacter_7 : decode prog_2_method_4_code 7 = .ok (.putfield 25, 3) := by decide +kernel
theorem d_E_beginCharacter_10 : decode prog_2_method_4_code 10 = .ok (.aload_n 0, 1) := by decide +kernel
theorem d_E_beginCharacter_11 : decode prog_2_method_4_code 11 = .ok (.iconst 0, 1) := by decide +kernel
theorem d_E_beginCharacter_12 : decode prog_2_method_4_code 12 = .ok (.putfield 28, 3) := by decide +kernel
theorem d_E_beginCharacter_15 : decode prog_2_method_4_code 15 = .ok (.aload_n 0, 1) := by decide +kernel
theorem d_E_beginCharacter_16 : decode prog_2_method_4_code 16 = .ok (.iconst 0, 1) := by decide +kernel
theorem d_E_beginCharacter_17 : decode prog_2_method_4_code 17 = .ok (.putfield 31, 3) := by decide +kernel
theorem d_E_beginCharacter_20 : decode prog_2_method_4_code 20 = .ok (.return_, 1) := by decide +kernel
def b_E_beginCharacter_0 (post : Option Value → Mm → Prop) : Kk := (i_aload 0 (i_push (.int 1) (i_putI 0 3 (i_aload 0 (i_push (.int 1) (i_putI 0 4 (i_aload 0 (i_push (.int 0) (i_putI 0 5 (i_aload 0 (i_push (.int 0) (i_putI 0 6 (i_vret post)))))))))))))
theorem t_E_beginCharacter_0 {Z : Zt} {X0 : Mm} {post : Option Value → Mm → Prop} (g : Good Z prog_2_method_4_code 1 "BusTelegrams$Ear" 0) (hq : RetZ Z true X0 0 0 post) (hr : (zM Z).sig.returnType = none) : Snd Z 1 0 (b_E_beginCharacter_0 post) := by
  unfold b_E_beginCharacter_0
  exact (s_aload_n g d_E_beginCharacter_0 rfl (s_push_iconst g d_E_beginCharacter_1 (by decide) (s_putI g (c := 0) (j := 3) cok_0 (by decide) rfl rfl rfl mw_32 rfl d_E_beginCharacter_2 (s_aload_n g d_E_beginCharacter_5 rfl (s_push_iconst g d_E_beginCharacter_6 (by decide) (s_putI g (c := 0) (j := 4) cok_0 (by decide) rfl rfl rfl mw_33 rfl d_E_beginCharacter_7 (s_aload_n g d_E_beginCharacter_10 rfl (s_push_iconst g d_E_beginCharacter_11 (by decide) (s_putI g (c := 0) (j := 5) cok_0 (by decide) rfl rfl rfl mw_34 rfl d_E_beginCharacter_12 (s_aload_n g d_E_beginCharacter_15 rfl (s_push_iconst g d_E_beginCharacter_16 (by decide) (s_putI g (c := 0) (j := 6) cok_0 (by decide) rfl rfl rfl mw_35 rfl d_E_beginCharacter_17 (s_vret0 g hq hr d_E_beginCharacter_20)))))))))))))
def w_E_beginCharacter : Wp := wpOf 1 (fun _ post => b_E_beginCharacter_0 post)
theorem C_E_beginCharacter (l : Launch) : MetS l ({ cls := "BusTelegrams$Ear", name := "beginCharacter", desc := "()V" } : Jvm.MethodName) prog_2_method_4_code 1 none true 0 0 0 w_E_beginCharacter := metS_of (by decide +kernel) (fun Z X0 post hZ g hq hr _ => t_E_beginCharacter_0 g hq hr)
theorem hd_E_beginCharacter : (({ cls := "BusTelegrams$Ear", name := "beginCharacter", desc := "()V" } : Jvm.MethodName)).cls = "BusTelegrams$Ear" ∧ (({ cls := "BusTelegrams$Ear", name := "beginCharacter", desc := "()V" } : Jvm.MethodName)).cls ≠ "java/lang/invoke/MethodHandle" ∧ (({ cls := "BusTelegrams$Ear", name := "beginCharacter", desc := "()V" } : Jvm.MethodName)).cls ≠ "java/lang/invoke/VarHandle" ∧ (parseMethodDescriptor (({ cls := "BusTelegrams$Ear", name := "beginCharacter", desc := "()V" } : Jvm.MethodName)).desc).map (fun d => d.parameters.length) = some 0 := ⟨rfl, by decide, by decide, by decide +kernel⟩
theorem d_E_completeTelegram_0 : decode prog_2_method_9_code 0 = .ok (.iconst 0, 1) := by decide +kernel
theorem d_E_completeTelegram_1 : decode prog_2_method_9_code 1 = .ok (.istore_n 1, 1) := by decide +kernel
theorem d_E_completeTelegram_2 : decode prog_2_method_9_code 2 = .ok (.iconst 0, 1) := by decide +kernel
theorem d_E_completeTelegram_3 : decode prog_2_method_9_code 3 = .ok (.istore_n 2, 1) := by decide +kernel
theorem d_E_completeTelegram_4 : decode prog_2_method_9_code 4 = .ok (.iload_n 2, 1) := by decide +kernel
theorem d_E_completeTelegram_5 : decode prog_2_method_9_code 5 = .ok (.aload_n 0, 1) := by decide +kernel
theorem d_E_completeTelegram_6 : decode prog_2_method_9_code 6 = .ok (.getfield 34, 3) := by decide +kernel
theorem d_E_completeTelegram_9 : decode prog_2_method_9_code 9 = .ok (.if_icmp .ge 37, 3) := by decide +kernel
theorem d_E_completeTelegram_12 : decode prog_2_method_9_code 12 = .ok (.iload_n 2, 1) := by decide +kernel
theorem d_E_completeTelegram_13 : decode prog_2_method_9_code 13 = .ok (.sipush 600, 3) := by decide +kernel
theorem d_E_completeTelegram_16 : decode prog_2_method_9_code 16 = .ok (.if_icmp .ge 30, 3) := by decide +kernel
theorem d_E_completeTelegram_19 : decode prog_2_method_9_code 19 = .ok (.aload_n 0, 1) := by decide +kernel
theorem d_E_completeTelegram_20 : decode prog_2_method_9_code 20 = .ok (.getfield 15, 3) := by decide +kernel
theorem d_E_completeTelegram_23 : decode prog_2_method_9_code 23 = .ok (.iload_n 2, 1) := by decide +kernel
theorem d_E_completeTelegram_24 : decode prog_2_method_9_code 24 = .ok (.aload_n 0, 1) := by decide +kernel
theorem d_E_completeTelegram_25 : decode prog_2_method_9_code 25 = .ok (.getfield 11, 3) := by decide +kernel
theorem d_E_completeTelegram_28 : decode prog_2_method_9_code 28 = .ok (.iload_n 2, 1) := by decide +kernel
theorem d_E_completeTelegram_29 : decode prog_2_method_9_code 29 = .ok (.iaload, 1) := by decide +kernel
theorem d_E_completeTelegram_30 : decode prog_2_method_9_code 30 = .ok (.iastore, 1) := by decide +kernel
theorem d_E_completeTelegram_31 : decode prog_2_method_9_code 31 = .ok (.iload_n 1, 1) := by decide +kernel
theorem d_E_completeTelegram_32 : decode prog_2_method_9_code 32 = .ok (.aload_n 0, 1) := by decide +kernel
theorem d_E_completeTelegram_33 : decode prog_2_method_9_code 33 = .ok (.getfield 11, 3) := by decide +kernel
theorem d_E_completeTelegram_36 : decode prog_2_method_9_code 36 = .ok (.iload_n 2, 1) := by decide +kernel
theorem d_E_completeTelegram_37 : decode prog_2_method_9_code 37 = .ok (.iaload, 1) := by decide +kernel
theorem d_E_completeTelegram_38 : decode prog_2_method_9_code 38 = .ok (.ixor, 1) := by decide +kernel
theorem d_E_completeTelegram_39 : decode prog_2_method_9_code 39 = .ok (.istore_n 1, 1) := by decide +kernel
theorem d_E_completeTelegram_40 : decode prog_2_method_9_code 40 = .ok (.iinc 2 1, 3) := by decide +kernel
theorem d_E_completeTelegram_43 : decode prog_2_method_9_code 43 = .ok (.goto (-39), 3) := by decide +kernel
theorem d_E_completeTelegram_46 : decode prog_2_method_9_code 46 = .ok (.aload_n 0, 1) := by decide +kernel
theorem d_E_completeTelegram_47 : decode prog_2_method_9_code 47 = .ok (.aload_n 0, 1) := by decide +kernel
theorem d_E_completeTelegram_48 : decode prog_2_method_9_code 48 = .ok (.getfield 34, 3) := by decide +kernel
theorem d_E_completeTelegram_51 : decode prog_2_method_9_code 51 = .ok (.putfield 47, 3) := by decide +kernel
theorem d_E_completeTelegram_54 : decode prog_2_method_9_code 54 = .ok (.aload_n 0, 1) := by decide +kernel
theorem d_E_completeTelegram_55 : decode prog_2_method_9_code 55 = .ok (.aload_n 0, 1) := by decide +kernel
theorem d_E_completeTelegram_56 : decode prog_2_method_9_code 56 = .ok (.getfield 44, 3) := by decide +kernel
theorem d_E_completeTelegram_59 : decode prog_2_method_9_code 59 = .ok (.putfield 50, 3) := by decide +kernel
theorem d_E_completeTelegram_62 : decode prog_2_method_9_code 62 = .ok (.aload_n 0, 1) := by decide +kernel
theorem d_E_completeTelegram_63 : decode prog_2_method_9_code 63 = .ok (.iconst (-1), 1) := by decide +kernel
theorem d_E_completeTelegram_64 : decode prog_2_method_9_code 64 = .ok (.putfield 56, 3) := by decide +kernel
theorem d_E_completeTelegram_67 : decode prog_2_method_9_code 67 = .ok (.aload_n 0, 1) := by decide +kernel
theorem d_E_completeTelegram_68 : decode prog_2_method_9_code 68 = .ok (.iconst 0, 1) := by decide +kernel
theorem d_E_completeTelegram_69 : decode prog_2_method_9_code 69 = .ok (.putfield 59, 3) := by decide +kernel
theorem d_E_completeTelegram_72 : decode prog_2_method_9_code 72 = .ok (.bipush 8, 2) := by decide +kernel
theorem d_E_completeTelegram_74 : decode prog_2_method_9_code 74 = .ok (.aload_n 0, 1) := by decide +kernel
theorem d_E_completeTelegram_75 : decode prog_2_method_9_code 75 = .ok (.getfield 15, 3) := by decide +kernel
theorem d_E_completeTelegram_78 : decode prog_2_method_9_code 78 = .ok (.iconst 5, 1) := by decide +kernel
theorem d_E_completeTelegram_79 : decode prog_2_method_9_code 79 = .ok (.iaload, 1) := by decide +kernel
theorem d_E_completeTelegram_80 : decode prog_2_method_9_code 80 = .ok (.sipush 128, 3) := by decide +kernel
theorem d_E_completeTelegram_83 : decode prog_2_method_9_code 83 = .ok (.irem, 1) := by decide +kernel
theorem d_E_completeTelegram_84 : decode prog_2_method_9_code 84 = .ok (.iadd, 1) := by decide +kernel
theorem d_E_completeTelegram_85 : decode prog_2_method_9_code 85 = .ok (.istore_n 2, 1) := by decide +kernel
theorem d_E_completeTelegram_86 : decode prog_2_method_9_code 86 = .ok (.aload_n 0, 1) := by decide +kernel
theorem d_E_completeTelegram_87 : decode prog_2_method_9_code 87 = .ok (.iload_n 1, 1) := by decide +kernel
theorem d_E_completeTelegram_88 : decode prog_2_method_9_code 88 = .ok (.sipush 255, 3) := by decide +kernel
theorem d_E_completeTelegram_91 : decode prog_2_method_9_code 91 = .ok (.if_icmp .ne 15, 3) := by decide +kernel
theorem d_E_completeTelegram_94 : decode prog_2_method_9_code 94 = .ok (.aload_n 0, 1) := by decide +kernel
theorem d_E_completeTelegram_95 : decode prog_2_method_9_code 95 = .ok (.getfield 34, 3) := by decide +kernel
theorem d_E_completeTelegram_98 : decode prog_2_method_9_code 98 = .ok (.iload_n 2, 1) := by decide +kernel
theorem d_E_completeTelegram_99 : decode prog_2_method_9_code 99 = .ok (.if_icmp .ne 7, 3) := by decide +kernel
theorem d_E_completeTelegram_102 : decode prog_2_method_9_code 102 = .ok (.iconst 1, 1) := by decide +kernel
theorem d_E_completeTelegram_103 : decode prog_2_method_9_code 103 = .ok (.goto 4, 3) := by decide +kernel
theorem d_E_completeTelegram_106 : decode prog_2_method_9_code 106 = .ok (.iconst 0, 1) := by decide +kernel
theorem d_E_completeTelegram_107 : decode prog_2_method_9_code 107 = .ok (.putfield 53, 3) := by decide +kernel
theorem d_E_completeTelegram_110 : decode prog_2_method_9_code 110 = .ok (.aload_n 0, 1) := by decide +kernel
theorem d_E_completeTelegram_111 : decode prog_2_method_9_code 111 = .ok (.getfield 18, 3) := by decide +kernel
theorem d_E_completeTelegram_114 : decode prog_2_method_9_code 114 = .ok (.iconst 0, 1) := by decide +kernel
theorem d_E_completeTelegram_115 : decode prog_2_method_9_code 115 = .ok (.dup2, 1) := by decide +kernel
theorem d_E_completeTelegram_116 : decode prog_2_method_9_code 116 = .ok (.iaload, 1) := by decide +kernel
theorem d_E_completeTelegram_117 : decode prog_2_method_9_code 117 = .ok (.iconst 1, 1) := by decide +kernel
theorem d_E_completeTelegram_118 : decode prog_2_method_9_code 118 = .ok (.iadd, 1) := by decide +kernel
theorem d_E_completeTelegram_119 : decode prog_2_method_9_code 119 = .ok (.iastore, 1) := by decide +kernel
theorem d_E_completeTelegram_120 : decode prog_2_method_9_code 120 = .ok (.aload_n 0, 1) := by decide +kernel
theorem d_E_completeTelegram_121 : decode prog_2_method_9_code 121 = .ok (.getfield 53, 3) := by decide +kernel
theorem d_E_completeTelegram_124 : decode prog_2_method_9_code 124 = .ok (.ifCond .eq 13, 3) := by decide +kernel
theorem d_E_completeTelegram_127 : decode prog_2_method_9_code 127 = .ok (.aload_n 0, 1) := by decide +kernel
theorem d_E_completeTelegram_128 : decode prog_2_method_9_code 128 = .ok (.getfield 18, 3) := by decide +kernel
theorem d_E_completeTelegram_131 : decode prog_2_method_9_code 131 = .ok (.iconst 1, 1) := by decide +kernel
theorem d_E_completeTelegram_132 : decode prog_2_method_9_code 132 = .ok (.dup2, 1) := by decide +kernel
theorem d_E_completeTelegram_133 : decode prog_2_method_9_code 133 = .ok (.iaload, 1) := by decide +kernel
theorem d_E_completeTelegram_134 : decode prog_2_method_9_code 134 = .ok (.iconst 1, 1) := by decide +kernel
theorem d_E_completeTelegram_135 : decode prog_2_method_9_code 135 = .ok (.iadd, 1) := by decide +kernel
theorem d_E_completeTelegram_136 : decode prog_2_method_9_code 136 = .ok (.iastore, 1) := by decide +kernel
theorem d_E_completeTelegram_137 : decode prog_2_method_9_code 137 = .ok (.return_, 1) := by decide +kernel
def b_E_completeTelegram_137 (post : Option Value → Mm → Prop) : Kk := (i_vret post)
theorem t_E_completeTelegram_137 {Z : Zt} {X0 : Mm} {post : Option Value → Mm → Prop} (g : Good Z prog_2_method_9_code 3 "BusTelegrams$Ear" 0) (hq : RetZ Z true X0 0 0 post) (hr : (zM Z).sig.returnType = none) : Snd Z 3 137 (b_E_completeTelegram_137 post) := by
  unfold b_E_completeTelegram_137
  exact (s_vret0 g hq hr d_E_completeTelegram_137)
def b_E_completeTelegram_107 (post : Option Value → Mm → Prop) : Kk := (i_putZ 0 13 (i_aload 0 (i_getR 0 2 (i_push (.int 0) (i_dup2 (i_ald 10 (i_push (.int 1) (i_bin (fun x y => x + y) (i_ast (i_aload 0 (i_getI 0 13 (i_if (fun x y => x = y) (b_E_completeTelegram_137 post) (i_aload 0 (i_getR 0 2 (i_push (.int 1) (i_dup2 (i_ald 10 (i_push (.int 1) (i_bin (fun x y => x + y) (i_ast (b_E_completeTelegram_137 post)))))))))))))))))))))
theorem t_E_completeTelegram_107 {Z : Zt} {X0 : Mm} {post : Option Value → Mm → Prop} (g : Good Z prog_2_method_9_code 3 "BusTelegrams$Ear" 0) (hq : RetZ Z true X0 0 0 post) (hr : (zM Z).sig.returnType = none) : Snd Z 3 107 (b_E_completeTelegram_107 post) := by
  unfold b_E_completeTelegram_107
  exact (s_putZ g (c := 0) (j := 13) cok_0 (by decide) rfl rfl rfl mw_43 rfl d_E_completeTelegram_107 (s_aload_n g d_E_completeTelegram_110 rfl (s_getR g (c := 0) (j := 2) cok_0 (by decide) rfl mw_31 rfl d_E_completeTelegram_111 (s_push_iconst g d_E_completeTelegram_114 (by decide) (s_dup2 g d_E_completeTelegram_115 (s_iald g d_E_completeTelegram_116 (s_push_iconst g d_E_completeTelegram_117 (by decide) (s_iadd g d_E_completeTelegram_118 (s_iast g d_E_completeTelegram_119 (s_aload_n g d_E_completeTelegram_120 rfl (s_getI g (c := 0) (j := 13) cok_0 (by decide) rfl mw_43 rfl d_E_completeTelegram_121 (s_if_eq g d_E_completeTelegram_124 (by decide) (t_E_completeTelegram_137 g hq hr) (s_aload_n g d_E_completeTelegram_127 rfl (s_getR g (c := 0) (j := 2) cok_0 (by decide) rfl mw_31 rfl d_E_completeTelegram_128 (s_push_iconst g d_E_completeTelegram_131 (by decide) (s_dup2 g d_E_completeTelegram_132 (s_iald g d_E_completeTelegram_133 (s_push_iconst g d_E_completeTelegram_134 (by decide) (s_iadd g d_E_completeTelegram_135 (s_iast g d_E_completeTelegram_136 (t_E_completeTelegram_137 g hq hr)))))))))))))))))))))
def b_E_completeTelegram_106 (post : Option Value → Mm → Prop) : Kk := (i_push (.int 0) (b_E_completeTelegram_107 post))
theorem t_E_completeTelegram_106 {Z : Zt} {X0 : Mm} {post : Option Value → Mm → Prop} (g : Good Z prog_2_method_9_code 3 "BusTelegrams$Ear" 0) (hq : RetZ Z true X0 0 0 post) (hr : (zM Z).sig.returnType = none) : Snd Z 3 106 (b_E_completeTelegram_106 post) := by
  unfold b_E_completeTelegram_106
  exact (s_push_iconst g d_E_completeTelegram_106 (by decide) (t_E_completeTelegram_107 g hq hr))
def b_E_completeTelegram_46 (post : Option Value → Mm → Prop) : Kk := (i_aload 0 (i_aload 0 (i_getI 0 7 (i_putI 0 11 (i_aload 0 (i_aload 0 (i_getI 0 10 (i_putI 0 12 (i_aload 0 (i_push (.int (-1)) (i_putI 0 14 (i_aload 0 (i_push (.int 0) (i_putZ 0 15 (i_push (.int 8) (i_aload 0 (i_getR 0 1 (i_push (.int 5) (i_ald 10 (i_push (.int 128) (i_binz (fun x y => x - x / y * y) (i_bin (fun x y => x + y) (i_istore 2 (i_aload 0 (i_iload 1 (i_push (.int 255) (i_icmp (fun x y => x = y) (i_aload 0 (i_getI 0 7 (i_iload 2 (i_icmp (fun x y => x = y) (i_push (.int 1) (b_E_completeTelegram_107 post)) (b_E_completeTelegram_106 post))))) (b_E_completeTelegram_106 post))))))))))))))))))))))))))))
theorem t_E_completeTelegram_46 {Z : Zt} {X0 : Mm} {post : Option Value → Mm → Prop} (g : Good Z prog_2_method_9_code 3 "BusTelegrams$Ear" 0) (hq : RetZ Z true X0 0 0 post) (hr : (zM Z).sig.returnType = none) : Snd Z 3 46 (b_E_completeTelegram_46 post) := by
  unfold b_E_completeTelegram_46
  exact (s_aload_n g d_E_completeTelegram_46 rfl (s_aload_n g d_E_completeTelegram_47 rfl (s_getI g (c := 0) (j := 7) cok_0 (by decide) rfl mw_36 rfl d_E_completeTelegram_48 (s_putI g (c := 0) (j := 11) cok_0 (by decide) rfl rfl rfl mw_40 rfl d_E_completeTelegram_51 (s_aload_n g d_E_completeTelegram_54 rfl (s_aload_n g d_E_completeTelegram_55 rfl (s_getI g (c := 0) (j := 10) cok_0 (by decide) rfl mw_39 rfl d_E_completeTelegram_56 (s_putI g (c := 0) (j := 12) cok_0 (by decide) rfl rfl rfl mw_42 rfl d_E_completeTelegram_59 (s_aload_n g d_E_completeTelegram_62 rfl (s_push_iconst g d_E_completeTelegram_63 (by decide) (s_putI g (c := 0) (j := 14) cok_0 (by decide) rfl rfl rfl mw_45 rfl d_E_completeTelegram_64 (s_aload_n g d_E_completeTelegram_67 rfl (s_push_iconst g d_E_completeTelegram_68 (by decide) (s_putZ g (c := 0) (j := 15) cok_0 (by decide) rfl rfl rfl mw_47 rfl d_E_completeTelegram_69 (s_push_bipush g d_E_completeTelegram_72 (by decide) (s_aload_n g d_E_completeTelegram_74 rfl (s_getR g (c := 0) (j := 1) cok_0 (by decide) rfl mw_30 rfl d_E_completeTelegram_75 (s_push_iconst g d_E_completeTelegram_78 (by decide) (s_iald g d_E_completeTelegram_79 (s_push_sipush g d_E_completeTelegram_80 (by decide) (s_irem g d_E_completeTelegram_83 (s_iadd g d_E_completeTelegram_84 (s_istore_n g (by decide) d_E_completeTelegram_85 rfl (s_aload_n g d_E_completeTelegram_86 rfl (s_iload_n g d_E_completeTelegram_87 rfl (s_push_sipush g d_E_completeTelegram_88 (by decide) (s_icmp_ne g d_E_completeTelegram_91 (by decide) (t_E_completeTelegram_106 g hq hr) (s_aload_n g d_E_completeTelegram_94 rfl (s_getI g (c := 0) (j := 7) cok_0 (by decide) rfl mw_36 rfl d_E_completeTelegram_95 (s_iload_n g d_E_completeTelegram_98 rfl (s_icmp_ne g d_E_completeTelegram_99 (by decide) (t_E_completeTelegram_106 g hq hr) (s_push_iconst g d_E_completeTelegram_102 (by decide) (s_goto g d_E_completeTelegram_103 (by decide) (t_E_completeTelegram_107 g hq hr))))))))))))))))))))))))))))))))))
def b_E_completeTelegram_4 (post : Option Value → Mm → Prop) : Kk := i_loop [0, 1, 2] (fun k4 => (i_iload 2 (i_aload 0 (i_getI 0 7 (i_icmp (fun x y => y ≤ x) (b_E_completeTelegram_46 post) (i_iload 2 (i_push (.int 600) (i_icmp (fun x y => y ≤ x) (b_E_completeTelegram_46 post) (i_aload 0 (i_getR 0 1 (i_iload 2 (i_aload 0 (i_getR 0 0 (i_iload 2 (i_ald 10 (i_ast (i_iload 1 (i_aload 0 (i_getR 0 0 (i_iload 2 (i_ald 10 (i_bin (fun x y => x ^^^ y) (i_istore 1 (i_iinc 2 1 k4))))))))))))))))))))))))
theorem t_E_completeTelegram_4 {Z : Zt} {X0 : Mm} {post : Option Value → Mm → Prop} (g : Good Z prog_2_method_9_code 3 "BusTelegrams$Ear" 0) (hq : RetZ Z true X0 0 0 post) (hr : (zM Z).sig.returnType = none) : Snd Z 3 4 (b_E_completeTelegram_4 post) := by
  unfold b_E_completeTelegram_4
  exact s_loop (fun k4 hk4 => (s_iload_n g d_E_completeTelegram_4 rfl (s_aload_n g d_E_completeTelegram_5 rfl (s_getI g (c := 0) (j := 7) cok_0 (by decide) rfl mw_36 rfl d_E_completeTelegram_6 (s_icmp_ge g d_E_completeTelegram_9 (by decide) (t_E_completeTelegram_46 g hq hr) (s_iload_n g d_E_completeTelegram_12 rfl (s_push_sipush g d_E_completeTelegram_13 (by decide) (s_icmp_ge g d_E_completeTelegram_16 (by decide) (t_E_completeTelegram_46 g hq hr) (s_aload_n g d_E_completeTelegram_19 rfl (s_getR g (c := 0) (j := 1) cok_0 (by decide) rfl mw_30 rfl d_E_completeTelegram_20 (s_iload_n g d_E_completeTelegram_23 rfl (s_aload_n g d_E_completeTelegram_24 rfl (s_getR g (c := 0) (j := 0) cok_0 (by decide) rfl mw_29 rfl d_E_completeTelegram_25 (s_iload_n g d_E_completeTelegram_28 rfl (s_iald g d_E_completeTelegram_29 (s_iast g d_E_completeTelegram_30 (s_iload_n g d_E_completeTelegram_31 rfl (s_aload_n g d_E_completeTelegram_32 rfl (s_getR g (c := 0) (j := 0) cok_0 (by decide) rfl mw_29 rfl d_E_completeTelegram_33 (s_iload_n g d_E_completeTelegram_36 rfl (s_iald g d_E_completeTelegram_37 (s_ixor g d_E_completeTelegram_38 (s_istore_n g (by decide) d_E_completeTelegram_39 rfl (s_iinc g (by decide) d_E_completeTelegram_40 (by decide) (s_goto g d_E_completeTelegram_43 (by decide) hk4)))))))))))))))))))))))))
def b_E_completeTelegram_0 (post : Option Value → Mm → Prop) : Kk := (i_push (.int 0) (i_istore 1 (i_push (.int 0) (i_istore 2 (b_E_completeTelegram_4 post)))))
theorem t_E_completeTelegram_0 {Z : Zt} {X0 : Mm} {post : Option Value → Mm → Prop} (g : Good Z prog_2_method_9_code 3 "BusTelegrams$Ear" 0) (hq : RetZ Z true X0 0 0 post) (hr : (zM Z).sig.returnType = none) : Snd Z 3 0 (b_E_completeTelegram_0 post) := by
  unfold b_E_completeTelegram_0
  exact (s_push_iconst g d_E_completeTelegram_0 (by decide) (s_istore_n g (by decide) d_E_completeTelegram_1 rfl (s_push_iconst g d_E_completeTelegram_2 (by decide) (s_istore_n g (by decide) d_E_completeTelegram_3 rfl (t_E_completeTelegram_4 g hq hr)))))
def w_E_completeTelegram : Wp := wpOf 3 (fun _ post => b_E_completeTelegram_0 post)
theorem C_E_completeTelegram (l : Launch) : MetS l ({ cls := "BusTelegrams$Ear", name := "completeTelegram", desc := "()V" } : Jvm.MethodName) prog_2_method_9_code 3 none true 0 0 0 w_E_completeTelegram := metS_of (by decide +kernel) (fun Z X0 post hZ g hq hr _ => t_E_completeTelegram_0 g hq hr)
theorem hd_E_completeTelegram : (({ cls := "BusTelegrams$Ear", name := "completeTelegram", desc := "()V" } : Jvm.MethodName)).cls = "BusTelegrams$Ear" ∧ (({ cls := "BusTelegrams$Ear", name := "completeTelegram", desc := "()V" } : Jvm.MethodName)).cls ≠ "java/lang/invoke/MethodHandle" ∧ (({ cls := "BusTelegrams$Ear", name := "completeTelegram", desc := "()V" } : Jvm.MethodName)).cls ≠ "java/lang/invoke/VarHandle" ∧ (parseMethodDescriptor (({ cls := "BusTelegrams$Ear", name := "completeTelegram", desc := "()V" } : Jvm.MethodName)).desc).map (fun d => d.parameters.length) = some 0 := ⟨rfl, by decide, by decide, by decide +kernel⟩
theorem d_E_isAccepted_0 : decode prog_2_method_11_code 0 = .ok (.iload_n 1, 1) := by decide +kernel
theorem d_E_isAccepted_1 : decode prog_2_method_11_code 1 = .ok (.aload_n 0, 1) := by decide +kernel
theorem d_E_isAccepted_2 : decode prog_2_method_11_code 2 = .ok (.getfield 50, 3) := by decide +kernel
theorem d_E_isAccepted_5 : decode prog_2_method_11_code 5 = .ok (.bipush 28, 2) := by decide +kernel
theorem d_E_isAccepted_7 : decode prog_2_method_11_code 7 = .ok (.iadd, 1) := by decide +kernel
theorem d_E_isAccepted_8 : decode prog_2_method_11_code 8 = .ok (.if_icmp .ne 17, 3) := by decide +kernel
theorem d_E_isAccepted_11 : decode prog_2_method_11_code 11 = .ok (.aload_n 0, 1) := by decide +kernel
theorem d_E_isAccepted_12 : decode prog_2_method_11_code 12 = .ok (.getfield 56, 3) := by decide +kernel
theorem d_E_isAccepted_15 : decode prog_2_method_11_code 15 = .ok (.sipush 204, 3) := by decide +kernel
theorem d_E_isAccepted_18 : decode prog_2_method_11_code 18 = .ok (.if_icmp .ne 7, 3) := by decide +kernel
theorem d_E_isAccepted_21 : decode prog_2_method_11_code 21 = .ok (.iconst 1, 1) := by decide +kernel
theorem d_E_isAccepted_22 : decode prog_2_method_11_code 22 = .ok (.goto 4, 3) := by decide +kernel
theorem d_E_isAccepted_25 : decode prog_2_method_11_code 25 = .ok (.iconst 0, 1) := by decide +kernel
theorem d_E_isAccepted_26 : decode prog_2_method_11_code 26 = .ok (.ireturn, 1) := by decide +kernel
def b_E_isAccepted_26 (post : Option Value → Mm → Prop) : Kk := (i_zret post)
theorem t_E_isAccepted_26 {Z : Zt} {X0 : Mm} {post : Option Value → Mm → Prop} (g : Good Z prog_2_method_11_code 2 "BusTelegrams$Ear" 0) (hq : RetZ Z true X0 0 0 post) (hr : (zM Z).sig.returnType = (some .boolean)) : Snd Z 2 26 (b_E_isAccepted_26 post) := by
  unfold b_E_isAccepted_26
  exact (s_zret0 g hq hr d_E_isAccepted_26)
def b_E_isAccepted_25 (post : Option Value → Mm → Prop) : Kk := (i_push (.int 0) (b_E_isAccepted_26 post))
theorem t_E_isAccepted_25 {Z : Zt} {X0 : Mm} {post : Option Value → Mm → Prop} (g : Good Z prog_2_method_11_code 2 "BusTelegrams$Ear" 0) (hq : RetZ Z true X0 0 0 post) (hr : (zM Z).sig.returnType = (some .boolean)) : Snd Z 2 25 (b_E_isAccepted_25 post) := by
  unfold b_E_isAccepted_25
  exact (s_push_iconst g d_E_isAccepted_25 (by decide) (t_E_isAccepted_26 g hq hr))
def b_E_isAccepted_0 (post : Option Value → Mm → Prop) : Kk := (i_iload 1 (i_aload 0 (i_getI 0 12 (i_push (.int 28) (i_bin (fun x y => x + y) (i_icmp (fun x y => x = y) (i_aload 0 (i_getI 0 14 (i_push (.int 204) (i_icmp (fun x y => x = y) (i_push (.int 1) (b_E_isAccepted_26 post)) (b_E_isAccepted_25 post))))) (b_E_isAccepted_25 post)))))))
theorem t_E_isAccepted_0 {Z : Zt} {X0 : Mm} {post : Option Value → Mm → Prop} (g : Good Z prog_2_method_11_code 2 "BusTelegrams$Ear" 0) (hq : RetZ Z true X0 0 0 post) (hr : (zM Z).sig.returnType = (some .boolean)) : Snd Z 2 0 (b_E_isAccepted_0 post) := by
  unfold b_E_isAccepted_0
  exact (s_iload_n g d_E_isAccepted_0 rfl (s_aload_n g d_E_isAccepted_1 rfl (s_getI g (c := 0) (j := 12) cok_0 (by decide) rfl mw_42 rfl d_E_isAccepted_2 (s_push_bipush g d_E_isAccepted_5 (by decide) (s_iadd g d_E_isAccepted_7 (s_icmp_ne g d_E_isAccepted_8 (by decide) (t_E_isAccepted_25 g hq hr) (s_aload_n g d_E_isAccepted_11 rfl (s_getI g (c := 0) (j := 14) cok_0 (by decide) rfl mw_45 rfl d_E_isAccepted_12 (s_push_sipush g d_E_isAccepted_15 (by decide) (s_icmp_ne g d_E_isAccepted_18 (by decide) (t_E_isAccepted_25 g hq hr) (s_push_iconst g d_E_isAccepted_21 (by decide) (s_goto g d_E_isAccepted_22 (by decide) (t_E_isAccepted_26 g hq hr)))))))))))))
def w_E_isAccepted : Wp := wpOf 2 (fun _ post => b_E_isAccepted_0 post)
theorem C_E_isAccepted (l : Launch) : MetS l ({ cls := "BusTelegrams$Ear", name := "isAccepted", desc := "(I)Z" } : Jvm.MethodName) prog_2_method_11_code 2 (some .boolean) true 0 0 0 w_E_isAccepted := metS_of (by decide +kernel) (fun Z X0 post hZ g hq hr _ => t_E_isAccepted_0 g hq hr)
theorem hd_E_isAccepted : (({ cls := "BusTelegrams$Ear", name := "isAccepted", desc := "(I)Z" } : Jvm.MethodName)).cls = "BusTelegrams$Ear" ∧ (({ cls := "BusTelegrams$Ear", name := "isAccepted", desc := "(I)Z" } : Jvm.MethodName)).cls ≠ "java/lang/invoke/MethodHandle" ∧ (({ cls := "BusTelegrams$Ear", name := "isAccepted", desc := "(I)Z" } : Jvm.MethodName)).cls ≠ "java/lang/invoke/VarHandle" ∧ (parseMethodDescriptor (({ cls := "BusTelegrams$Ear", name := "isAccepted", desc := "(I)Z" } : Jvm.MethodName)).desc).map (fun d => d.parameters.length) = some 1 := ⟨rfl, by decide, by decide, by decide +kernel⟩
theorem d_S_removeFirst_0 : decode prog_3_method_10_code 0 = .ok (.aload_n 0, 1) := by decide +kernel
theorem d_S_removeFirst_1 : decode prog_3_method_10_code 1 = .ok (.aload_n 0, 1) := by decide +kernel
theorem d_S_removeFirst_2 : decode prog_3_method_10_code 2 = .ok (.getfield 25, 3) := by decide +kernel
theorem d_S_removeFirst_5 : decode prog_3_method_10_code 5 = .ok (.iconst 1, 1) := by decide +kernel
theorem d_S_removeFirst_6 : decode prog_3_method_10_code 6 = .ok (.iadd, 1) := by decide +kernel
theorem d_S_removeFirst_7 : decode prog_3_method_10_code 7 = .ok (.bipush 6, 2) := by decide +kernel
theorem d_S_removeFirst_9 : decode prog_3_method_10_code 9 = .ok (.irem, 1) := by decide +kernel
theorem d_S_removeFirst_10 : decode prog_3_method_10_code 10 = .ok (.putfield 25, 3) := by decide +kernel
theorem d_S_removeFirst_13 : decode prog_3_method_10_code 13 = .ok (.aload_n 0, 1) := by decide +kernel
theorem d_S_removeFirst_14 : decode prog_3_method_10_code 14 = .ok (.dup, 1) := by decide +kernel
theorem d_S_removeFirst_15 : decode prog_3_method_10_code 15 = .ok (.getfield 29, 3) := by decide +kernel
theorem d_S_removeFirst_18 : decode prog_3_method_10_code 18 = .ok (.iconst 1, 1) := by decide +kernel
theorem d_S_removeFirst_19 : decode prog_3_method_10_code 19 = .ok (.isub, 1) := by decide +kernel
theorem d_S_removeFirst_20 : decode prog_3_method_10_code 20 = .ok (.putfield 29, 3) := by decide +kernel
theorem d_S_removeFirst_23 : decode prog_3_method_10_code 23 = .ok (.return_, 1) := by decide +kernel
def b_S_removeFirst_0 (post : Option Value → Mm → Prop) : Kk := (i_aload 0 (i_aload 0 (i_getI 1 4 (i_push (.int 1) (i_bin (fun x y => x + y) (i_push (.int 6) (i_binz (fun x y => x - x / y * y) (i_putI 1 4 (i_aload 0 (i_dup (i_getI 1 5 (i_push (.int 1) (i_bin (fun x y => x - y) (i_putI 1 5 (i_vret post)))))))))))))))
theorem t_S_removeFirst_0 {Z : Zt} {X0 : Mm} {post : Option Value → Mm → Prop} (g : Good Z prog_3_method_10_code 1 "BusTelegrams$Station" 0) (hq : RetZ Z true X0 0 0 post) (hr : (zM Z).sig.returnType = none) : Snd Z 1 0 (b_S_removeFirst_0 post) := by
  unfold b_S_removeFirst_0
  exact (s_aload_n g d_S_removeFirst_0 rfl (s_aload_n g d_S_removeFirst_1 rfl (s_getI g (c := 1) (j := 4) cok_1 (by decide) rfl mw_116 rfl d_S_removeFirst_2 (s_push_iconst g d_S_removeFirst_5 (by decide) (s_iadd g d_S_removeFirst_6 (s_push_bipush g d_S_removeFirst_7 (by decide) (s_irem g d_S_removeFirst_9 (s_putI g (c := 1) (j := 4) cok_1 (by decide) rfl rfl rfl mw_116 rfl d_S_removeFirst_10 (s_aload_n g d_S_removeFirst_13 rfl (s_dup g d_S_removeFirst_14 (s_getI g (c := 1) (j := 5) cok_1 (by decide) rfl mw_117 rfl d_S_removeFirst_15 (s_push_iconst g d_S_removeFirst_18 (by decide) (s_isub g d_S_removeFirst_19 (s_putI g (c := 1) (j := 5) cok_1 (by decide) rfl rfl rfl mw_117 rfl d_S_removeFirst_20 (s_vret0 g hq hr d_S_removeFirst_23)))))))))))))))
def w_S_removeFirst : Wp := wpOf 1 (fun _ post => b_S_removeFirst_0 post)
theorem C_S_removeFirst (l : Launch) : MetS l ({ cls := "BusTelegrams$Station", name := "removeFirst", desc := "()V" } : Jvm.MethodName) prog_3_method_10_code 1 none true 0 0 0 w_S_removeFirst := metS_of (by decide +kernel) (fun Z X0 post hZ g hq hr _ => t_S_removeFirst_0 g hq hr)
theorem hd_S_removeFirst : (({ cls := "BusTelegrams$Station", name := "removeFirst", desc := "()V" } : Jvm.MethodName)).cls = "BusTelegrams$Station" ∧ (({ cls := "BusTelegrams$Station", name := "removeFirst", desc := "()V" } : Jvm.MethodName)).cls ≠ "java/lang/invoke/MethodHandle" ∧ (({ cls := "BusTelegrams$Station", name := "removeFirst", desc := "()V" } : Jvm.MethodName)).cls ≠ "java/lang/invoke/VarHandle" ∧ (parseMethodDescriptor (({ cls := "BusTelegrams$Station", name := "removeFirst", desc := "()V" } : Jvm.MethodName)).desc).map (fun d => d.parameters.length) = some 0 := ⟨rfl, by decide, by decide, by decide +kernel⟩
theorem d_B_bitPlace_0 : decode prog_1_method_17_code 0 = .ok (.iload_n 0, 1) := by decide +kernel
theorem d_B_bitPlace_1 : decode prog_1_method_17_code 1 = .ok (.bipush 63, 2) := by decide +kernel
theorem d_B_bitPlace_3 : decode prog_1_method_17_code 3 = .ok (.iand, 1) := by decide +kernel
theorem d_B_bitPlace_4 : decode prog_1_method_17_code 4 = .ok (.ireturn, 1) := by decide +kernel
def b_B_bitPlace_0 (post : Option Value → Mm → Prop) : Kk := (i_iload 0 (i_push (.int 63) (i_bin (fun x y => x &&& y) (i_iret post))))
theorem t_B_bitPlace_0 {Z : Zt} {X0 : Mm} {post : Option Value → Mm → Prop} (g : Good Z prog_1_method_17_code 1 "BusTelegrams" 0) (hq : RetZ Z true X0 0 0 post) (hr : (zM Z).sig.returnType = (some .int)) : Snd Z 1 0 (b_B_bitPlace_0 post) := by
  unfold b_B_bitPlace_0
  exact (s_iload_n g d_B_bitPlace_0 rfl (s_push_bipush g d_B_bitPlace_1 (by decide) (s_iand g d_B_bitPlace_3 (s_iret0 g hq hr d_B_bitPlace_4))))
def w_B_bitPlace : Wp := wpOf 1 (fun _ post => b_B_bitPlace_0 post)
theorem C_B_bitPlace (l : Launch) : MetS l ({ cls := "BusTelegrams", name := "bitPlace", desc := "(I)I" } : Jvm.MethodName) prog_1_method_17_code 1 (some .int) true 0 0 0 w_B_bitPlace := metS_of (by decide +kernel) (fun Z X0 post hZ g hq hr _ => t_B_bitPlace_0 g hq hr)
theorem hd_B_bitPlace : (({ cls := "BusTelegrams", name := "bitPlace", desc := "(I)I" } : Jvm.MethodName)).cls ≠ "java/lang/invoke/MethodHandle" ∧ (({ cls := "BusTelegrams", name := "bitPlace", desc := "(I)I" } : Jvm.MethodName)).cls ≠ "java/lang/invoke/VarHandle" ∧ (parseMethodDescriptor (({ cls := "BusTelegrams", name := "bitPlace", desc := "(I)I" } : Jvm.MethodName)).desc).map (fun d => d.parameters.length) = some 1 := ⟨by decide, by decide, by decide +kernel⟩
theorem d_S_factOf_0 : decode prog_3_method_11_code 0 = .ok (.iload_n 1, 1) := by decide +kernel
theorem d_S_factOf_1 : decode prog_3_method_11_code 1 = .ok (.tableswitch 77 0 4 #[35, 40, 54, 67, 72], 35) := by decide +kernel
theorem d_S_factOf_36 : decode prog_3_method_11_code 36 = .ok (.aload_n 0, 1) := by decide +kernel
theorem d_S_factOf_37 : decode prog_3_method_11_code 37 = .ok (.getfield 29, 3) := by decide +kernel
theorem d_S_factOf_40 : decode prog_3_method_11_code 40 = .ok (.ireturn, 1) := by decide +kernel
theorem d_S_factOf_41 : decode prog_3_method_11_code 41 = .ok (.aload_n 0, 1) := by decide +kernel
theorem d_S_factOf_42 : decode prog_3_method_11_code 42 = .ok (.getfield 32, 3) := by decide +kernel
theorem d_S_factOf_45 : decode prog_3_method_11_code 45 = .ok (.iconst (-1), 1) := by decide +kernel
theorem d_S_factOf_46 : decode prog_3_method_11_code 46 = .ok (.if_icmp .eq 7, 3) := by decide +kernel
theorem d_S_factOf_49 : decode prog_3_method_11_code 49 = .ok (.iconst 1, 1) := by decide +kernel
theorem d_S_factOf_50 : decode prog_3_method_11_code 50 = .ok (.goto 4, 3) := by decide +kernel
theorem d_S_factOf_53 : decode prog_3_method_11_code 53 = .ok (.iconst 0, 1) := by decide +kernel
theorem d_S_factOf_54 : decode prog_3_method_11_code 54 = .ok (.ireturn, 1) := by decide +kernel
theorem d_S_factOf_55 : decode prog_3_method_11_code 55 = .ok (.aload_n 0, 1) := by decide +kernel
theorem d_S_factOf_56 : decode prog_3_method_11_code 56 = .ok (.getfield 38, 3) := by decide +kernel
theorem d_S_factOf_59 : decode prog_3_method_11_code 59 = .ok (.ifCond .eq 7, 3) := by decide +kernel
theorem d_S_factOf_62 : decode prog_3_method_11_code 62 = .ok (.iconst 1, 1) := by decide +kernel
theorem d_S_factOf_63 : decode prog_3_method_11_code 63 = .ok (.goto 4, 3) := by decide +kernel
theorem d_S_factOf_66 : decode prog_3_method_11_code 66 = .ok (.iconst 0, 1) := by decide +kernel
theorem d_S_factOf_67 : decode prog_3_method_11_code 67 = .ok (.ireturn, 1) := by decide +kernel
theorem d_S_factOf_68 : decode prog_3_method_11_code 68 = .ok (.aload_n 0, 1) := by decide +kernel
theorem d_S_factOf_69 : decode prog_3_method_11_code 69 = .ok (.getfield 50, 3) := by decide +kernel
theorem d_S_factOf_72 : decode prog_3_method_11_code 72 = .ok (.ireturn, 1) := by decide +kernel
theorem d_S_factOf_73 : decode prog_3_method_11_code 73 = .ok (.aload_n 0, 1) := by decide +kernel
theorem d_S_factOf_74 : decode prog_3_method_11_code 74 = .ok (.getfield 53, 3) := by decide +kernel
theorem d_S_factOf_77 : decode prog_3_method_11_code 77 = .ok (.ireturn, 1) := by decide +kernel
theorem d_S_factOf_78 : decode prog_3_method_11_code 78 = .ok (.aload_n 0, 1) := by decide +kernel
theorem d_S_factOf_79 : decode prog_3_method_11_code 79 = .ok (.getfield 56, 3) := by decide +kernel
theorem d_S_factOf_82 : decode prog_3_method_11_code 82 = .ok (.ireturn, 1) := by decide +kernel
def b_S_factOf_54 (post : Option Value → Mm → Prop) : Kk := (i_iret post)
theorem t_S_factOf_54 {Z : Zt} {X0 : Mm} {post : Option Value → Mm → Prop} (g : Good Z prog_3_method_11_code 2 "BusTelegrams$Station" 0) (hq : RetZ Z true X0 0 0 post) (hr : (zM Z).sig.returnType = (some .int)) : Snd Z 2 54 (b_S_factOf_54 post) := by
  unfold b_S_factOf_54
  exact (s_iret0 g hq hr d_S_factOf_54)
def b_S_factOf_67 (post : Option Value → Mm → Prop) : Kk := (i_iret post)
theorem t_S_factOf_67 {Z : Zt} {X0 : Mm} {post : Option Value → Mm → Prop} (g : Good Z prog_3_method_11_code 2 "BusTelegrams$Station" 0) (hq : RetZ Z true X0 0 0 post) (hr : (zM Z).sig.returnType = (some .int)) : Snd Z 2 67 (b_S_factOf_67 post) := by
  unfold b_S_factOf_67
  exact (s_iret0 g hq hr d_S_factOf_67)
def b_S_factOf_0 (post : Option Value → Mm → Prop) : Kk := (i_iload 1 (i_tsw 0 [(i_aload 0 (i_getI 1 5 (i_iret post))), (i_aload 0 (i_getI 1 6 (i_push (.int (-1)) (i_icmp (fun x y => x = y) (i_push (.int 0) (b_S_factOf_54 post)) (i_push (.int 1) (b_S_factOf_54 post)))))), (i_aload 0 (i_getI 1 8 (i_if (fun x y => x = y) (i_push (.int 0) (b_S_factOf_67 post)) (i_push (.int 1) (b_S_factOf_67 post))))), (i_aload 0 (i_getI 1 12 (i_iret post))), (i_aload 0 (i_getI 1 13 (i_iret post)))] (i_aload 0 (i_getI 1 14 (i_iret post)))))
theorem t_S_factOf_0 {Z : Zt} {X0 : Mm} {post : Option Value → Mm → Prop} (g : Good Z prog_3_method_11_code 2 "BusTelegrams$Station" 0) (hq : RetZ Z true X0 0 0 post) (hr : (zM Z).sig.returnType = (some .int)) : Snd Z 2 0 (b_S_factOf_0 post) := by
  unfold b_S_factOf_0
  exact (s_iload_n g d_S_factOf_0 rfl (s_tsw g d_S_factOf_1 rfl (by decide) (tsw_cons (by decide) (s_aload_n g d_S_factOf_36 rfl (s_getI g (c := 1) (j := 5) cok_1 (by decide) rfl mw_117 rfl d_S_factOf_37 (s_iret0 g hq hr d_S_factOf_40))) (tsw_cons (by decide) (s_aload_n g d_S_factOf_41 rfl (s_getI g (c := 1) (j := 6) cok_1 (by decide) rfl mw_119 rfl d_S_factOf_42 (s_push_iconst g d_S_factOf_45 (by decide) (s_icmp_eq g d_S_factOf_46 (by decide) (s_push_iconst g d_S_factOf_53 (by decide) (t_S_factOf_54 g hq hr)) (s_push_iconst g d_S_factOf_49 (by decide) (s_goto g d_S_factOf_50 (by decide) (t_S_factOf_54 g hq hr))))))) (tsw_cons (by decide) (s_aload_n g d_S_factOf_55 rfl (s_getI g (c := 1) (j := 8) cok_1 (by decide) rfl mw_121 rfl d_S_factOf_56 (s_if_eq g d_S_factOf_59 (by decide) (s_push_iconst g d_S_factOf_66 (by decide) (t_S_factOf_67 g hq hr)) (s_push_iconst g d_S_factOf_62 (by decide) (s_goto g d_S_factOf_63 (by decide) (t_S_factOf_67 g hq hr)))))) (tsw_cons (by decide) (s_aload_n g d_S_factOf_68 rfl (s_getI g (c := 1) (j := 12) cok_1 (by decide) rfl mw_125 rfl d_S_factOf_69 (s_iret0 g hq hr d_S_factOf_72))) (tsw_cons (by decide) (s_aload_n g d_S_factOf_73 rfl (s_getI g (c := 1) (j := 13) cok_1 (by decide) rfl mw_126 rfl d_S_factOf_74 (s_iret0 g hq hr d_S_factOf_77))) tsw_nil))))) (s_aload_n g d_S_factOf_78 rfl (s_getI g (c := 1) (j := 14) cok_1 (by decide) rfl mw_127 rfl d_S_factOf_79 (s_iret0 g hq hr d_S_factOf_82)))))
def w_S_factOf : Wp := wpOf 2 (fun _ post => b_S_factOf_0 post)
theorem C_S_factOf (l : Launch) : MetS l ({ cls := "BusTelegrams$Station", name := "factOf", desc := "(I)I" } : Jvm.MethodName) prog_3_method_11_code 2 (some .int) true 0 0 0 w_S_factOf := metS_of (by decide +kernel) (fun Z X0 post hZ g hq hr _ => t_S_factOf_0 g hq hr)
theorem hd_S_factOf : (({ cls := "BusTelegrams$Station", name := "factOf", desc := "(I)I" } : Jvm.MethodName)).cls = "BusTelegrams$Station" ∧ (({ cls := "BusTelegrams$Station", name := "factOf", desc := "(I)I" } : Jvm.MethodName)).cls ≠ "java/lang/invoke/MethodHandle" ∧ (({ cls := "BusTelegrams$Station", name := "factOf", desc := "(I)I" } : Jvm.MethodName)).cls ≠ "java/lang/invoke/VarHandle" ∧ (parseMethodDescriptor (({ cls := "BusTelegrams$Station", name := "factOf", desc := "(I)I" } : Jvm.MethodName)).desc).map (fun d => d.parameters.length) = some 1 := ⟨rfl, by decide, by decide, by decide +kernel⟩
theorem d_E_countOf_0 : decode prog_2_method_15_code 0 = .ok (.iload_n 1, 1) := by decide +kernel
theorem d_E_countOf_1 : decode prog_2_method_15_code 1 = .ok (.ifCond .lt 8, 3) := by decide +kernel
theorem d_E_countOf_4 : decode prog_2_method_15_code 4 = .ok (.iload_n 1, 1) := by decide +kernel
theorem d_E_countOf_5 : decode prog_2_method_15_code 5 = .ok (.iconst 5, 1) := by decide +kernel
theorem d_E_countOf_6 : decode prog_2_method_15_code 6 = .ok (.if_icmp .lt 7, 3) := by decide +kernel
theorem d_E_countOf_9 : decode prog_2_method_15_code 9 = .ok (.iconst 0, 1) := by decide +kernel
theorem d_E_countOf_10 : decode prog_2_method_15_code 10 = .ok (.goto 9, 3) := by decide +kernel
theorem d_E_countOf_13 : decode prog_2_method_15_code 13 = .ok (.aload_n 0, 1) := by decide +kernel
theorem d_E_countOf_14 : decode prog_2_method_15_code 14 = .ok (.getfield 18, 3) := by decide +kernel
theorem d_E_countOf_17 : decode prog_2_method_15_code 17 = .ok (.iload_n 1, 1) := by decide +kernel
theorem d_E_countOf_18 : decode prog_2_method_15_code 18 = .ok (.iaload, 1) := by decide +kernel
theorem d_E_countOf_19 : decode prog_2_method_15_code 19 = .ok (.ireturn, 1) := by decide +kernel
def b_E_countOf_19 (post : Option Value → Mm → Prop) : Kk := (i_iret post)
theorem t_E_countOf_19 {Z : Zt} {X0 : Mm} {post : Option Value → Mm → Prop} (g : Good Z prog_2_method_15_code 2 "BusTelegrams$Ear" 0) (hq : RetZ Z true X0 0 0 post) (hr : (zM Z).sig.returnType = (some .int)) : Snd Z 2 19 (b_E_countOf_19 post) := by
  unfold b_E_countOf_19
  exact (s_iret0 g hq hr d_E_countOf_19)
def b_E_countOf_9 (post : Option Value → Mm → Prop) : Kk := (i_push (.int 0) (b_E_countOf_19 post))
theorem t_E_countOf_9 {Z : Zt} {X0 : Mm} {post : Option Value → Mm → Prop} (g : Good Z prog_2_method_15_code 2 "BusTelegrams$Ear" 0) (hq : RetZ Z true X0 0 0 post) (hr : (zM Z).sig.returnType = (some .int)) : Snd Z 2 9 (b_E_countOf_9 post) := by
  unfold b_E_countOf_9
  exact (s_push_iconst g d_E_countOf_9 (by decide) (s_goto g d_E_countOf_10 (by decide) (t_E_countOf_19 g hq hr)))
def b_E_countOf_0 (post : Option Value → Mm → Prop) : Kk := (i_iload 1 (i_if (fun x y => x < y) (b_E_countOf_9 post) (i_iload 1 (i_push (.int 5) (i_icmp (fun x y => x < y) (i_aload 0 (i_getR 0 2 (i_iload 1 (i_ald 10 (b_E_countOf_19 post))))) (b_E_countOf_9 post))))))
theorem t_E_countOf_0 {Z : Zt} {X0 : Mm} {post : Option Value → Mm → Prop} (g : Good Z prog_2_method_15_code 2 "BusTelegrams$Ear" 0) (hq : RetZ Z true X0 0 0 post) (hr : (zM Z).sig.returnType = (some .int)) : Snd Z 2 0 (b_E_countOf_0 post) := by
  unfold b_E_countOf_0
  exact (s_iload_n g d_E_countOf_0 rfl (s_if_lt g d_E_countOf_1 (by decide) (t_E_countOf_9 g hq hr) (s_iload_n g d_E_countOf_4 rfl (s_push_iconst g d_E_countOf_5 (by decide) (s_icmp_lt g d_E_countOf_6 (by decide) (s_aload_n g d_E_countOf_13 rfl (s_getR g (c := 0) (j := 2) cok_0 (by decide) rfl mw_31 rfl d_E_countOf_14 (s_iload_n g d_E_countOf_17 rfl (s_iald g d_E_countOf_18 (t_E_countOf_19 g hq hr))))) (t_E_countOf_9 g hq hr))))))
def w_E_countOf : Wp := wpOf 2 (fun _ post => b_E_countOf_0 post)
theorem C_E_countOf (l : Launch) : MetS l ({ cls := "BusTelegrams$Ear", name := "countOf", desc := "(I)I" } : Jvm.MethodName) prog_2_method_15_code 2 (some .int) true 0 0 0 w_E_countOf := metS_of (by decide +kernel) (fun Z X0 post hZ g hq hr _ => t_E_countOf_0 g hq hr)
theorem hd_E_countOf : (({ cls := "BusTelegrams$Ear", name := "countOf", desc := "(I)I" } : Jvm.MethodName)).cls = "BusTelegrams$Ear" ∧ (({ cls := "BusTelegrams$Ear", name := "countOf", desc := "(I)I" } : Jvm.MethodName)).cls ≠ "java/lang/invoke/MethodHandle" ∧ (({ cls := "BusTelegrams$Ear", name := "countOf", desc := "(I)I" } : Jvm.MethodName)).cls ≠ "java/lang/invoke/VarHandle" ∧ (parseMethodDescriptor (({ cls := "BusTelegrams$Ear", name := "countOf", desc := "(I)I" } : Jvm.MethodName)).desc).map (fun d => d.parameters.length) = some 1 := ⟨rfl, by decide, by decide, by decide +kernel⟩
theorem d_E_latestByte_0 : decode prog_2_method_14_code 0 = .ok (.iload_n 1, 1) := by decide +kernel
theorem d_E_latestByte_1 : decode prog_2_method_14_code 1 = .ok (.ifCond .lt 10, 3) := by decide +kernel
theorem d_E_latestByte_4 : decode prog_2_method_14_code 4 = .ok (.iload_n 1, 1) := by decide +kernel
theorem d_E_latestByte_5 : decode prog_2_method_14_code 5 = .ok (.sipush 600, 3) := by decide +kernel
theorem d_E_latestByte_8 : decode prog_2_method_14_code 8 = .ok (.if_icmp .lt 7, 3) := by decide +kernel
theorem d_E_latestByte_11 : decode prog_2_method_14_code 11 = .ok (.iconst 0, 1) := by decide +kernel
theorem d_E_latestByte_12 : decode prog_2_method_14_code 12 = .ok (.goto 9, 3) := by decide +kernel
theorem d_E_latestByte_15 : decode prog_2_method_14_code 15 = .ok (.aload_n 0, 1) := by decide +kernel
theorem d_E_latestByte_16 : decode prog_2_method_14_code 16 = .ok (.getfield 15, 3) := by decide +kernel
theorem d_E_latestByte_19 : decode prog_2_method_14_code 19 = .ok (.iload_n 1, 1) := by decide +kernel
theorem d_E_latestByte_20 : decode prog_2_method_14_code 20 = .ok (.iaload, 1) := by decide +kernel
theorem d_E_latestByte_21 : decode prog_2_method_14_code 21 = .ok (.ireturn, 1) := by decide +kernel
def b_E_latestByte_21 (post : Option Value → Mm → Prop) : Kk := (i_iret post)
theorem t_E_latestByte_21 {Z : Zt} {X0 : Mm} {post : Option Value → Mm → Prop} (g : Good Z prog_2_method_14_code 2 "BusTelegrams$Ear" 0) (hq : RetZ Z true X0 0 0 post) (hr : (zM Z).sig.returnType = (some .int)) : Snd Z 2 21 (b_E_latestByte_21 post) := by
  unfold b_E_latestByte_21
  exact (s_iret0 g hq hr d_E_latestByte_21)
def b_E_latestByte_11 (post : Option Value → Mm → Prop) : Kk := (i_push (.int 0) (b_E_latestByte_21 post))
theorem t_E_latestByte_11 {Z : Zt} {X0 : Mm} {post : Option Value → Mm → Prop} (g : Good Z prog_2_method_14_code 2 "BusTelegrams$Ear" 0) (hq : RetZ Z true X0 0 0 post) (hr : (zM Z).sig.returnType = (some .int)) : Snd Z 2 11 (b_E_latestByte_11 post) := by
  unfold b_E_latestByte_11
  exact (s_push_iconst g d_E_latestByte_11 (by decide) (s_goto g d_E_latestByte_12 (by decide) (t_E_latestByte_21 g hq hr)))
def b_E_latestByte_0 (post : Option Value → Mm → Prop) : Kk := (i_iload 1 (i_if (fun x y => x < y) (b_E_latestByte_11 post) (i_iload 1 (i_push (.int 600) (i_icmp (fun x y => x < y) (i_aload 0 (i_getR 0 1 (i_iload 1 (i_ald 10 (b_E_latestByte_21 post))))) (b_E_latestByte_11 post))))))
theorem t_E_latestByte_0 {Z : Zt} {X0 : Mm} {post : Option Value → Mm → Prop} (g : Good Z prog_2_method_14_code 2 "BusTelegrams$Ear" 0) (hq : RetZ Z true X0 0 0 post) (hr : (zM Z).sig.returnType = (some .int)) : Snd Z 2 0 (b_E_latestByte_0 post) := by
  unfold b_E_latestByte_0
  exact (s_iload_n g d_E_latestByte_0 rfl (s_if_lt g d_E_latestByte_1 (by decide) (t_E_latestByte_11 g hq hr) (s_iload_n g d_E_latestByte_4 rfl (s_push_sipush g d_E_latestByte_5 (by decide) (s_icmp_lt g d_E_latestByte_8 (by decide) (s_aload_n g d_E_latestByte_15 rfl (s_getR g (c := 0) (j := 1) cok_0 (by decide) rfl mw_30 rfl d_E_latestByte_16 (s_iload_n g d_E_latestByte_19 rfl (s_iald g d_E_latestByte_20 (t_E_latestByte_21 g hq hr))))) (t_E_latestByte_11 g hq hr))))))
def w_E_latestByte : Wp := wpOf 2 (fun _ post => b_E_latestByte_0 post)
theorem C_E_latestByte (l : Launch) : MetS l ({ cls := "BusTelegrams$Ear", name := "latestByte", desc := "(I)I" } : Jvm.MethodName) prog_2_method_14_code 2 (some .int) true 0 0 0 w_E_latestByte := metS_of (by decide +kernel) (fun Z X0 post hZ g hq hr _ => t_E_latestByte_0 g hq hr)
theorem hd_E_latestByte : (({ cls := "BusTelegrams$Ear", name := "latestByte", desc := "(I)I" } : Jvm.MethodName)).cls = "BusTelegrams$Ear" ∧ (({ cls := "BusTelegrams$Ear", name := "latestByte", desc := "(I)I" } : Jvm.MethodName)).cls ≠ "java/lang/invoke/MethodHandle" ∧ (({ cls := "BusTelegrams$Ear", name := "latestByte", desc := "(I)I" } : Jvm.MethodName)).cls ≠ "java/lang/invoke/VarHandle" ∧ (parseMethodDescriptor (({ cls := "BusTelegrams$Ear", name := "latestByte", desc := "(I)I" } : Jvm.MethodName)).desc).map (fun d => d.parameters.length) = some 1 := ⟨rfl, by decide, by decide, by decide +kernel⟩
theorem d_B_pack_0 : decode prog_1_method_13_code 0 = .ok (.dload_n 1, 1) := by decide +kernel
theorem d_B_pack_1 : decode prog_1_method_13_code 1 = .ok (.dload_n 1, 1) := by decide +kernel
theorem d_B_pack_2 : decode prog_1_method_13_code 2 = .ok (.dcmp .l, 1) := by decide +kernel
theorem d_B_pack_3 : decode prog_1_method_13_code 3 = .ok (.ifCond .eq 5, 3) := by decide +kernel
theorem d_B_pack_6 : decode prog_1_method_13_code 6 = .ok (.iconst 0, 1) := by decide +kernel
theorem d_B_pack_7 : decode prog_1_method_13_code 7 = .ok (.ireturn, 1) := by decide +kernel
theorem d_B_pack_8 : decode prog_1_method_13_code 8 = .ok (.ldc2_w 142, 3) := by decide +kernel
theorem d_B_pack_11 : decode prog_1_method_13_code 11 = .ok (.dload_n 1, 1) := by decide +kernel
theorem d_B_pack_12 : decode prog_1_method_13_code 12 = .ok (.dmul, 1) := by decide +kernel
theorem d_B_pack_13 : decode prog_1_method_13_code 13 = .ok (.dstore_n 3, 1) := by decide +kernel
theorem d_B_pack_14 : decode prog_1_method_13_code 14 = .ok (.iconst 0, 1) := by decide +kernel
theorem d_B_pack_15 : decode prog_1_method_13_code 15 = .ok (.istore 5, 2) := by decide +kernel
theorem d_B_pack_17 : decode prog_1_method_13_code 17 = .ok (.iload 5, 2) := by decide +kernel
theorem d_B_pack_19 : decode prog_1_method_13_code 19 = .ok (.bipush 15, 2) := by decide +kernel
theorem d_B_pack_21 : decode prog_1_method_13_code 21 = .ok (.if_icmp .gt 51, 3) := by decide +kernel
theorem d_B_pack_24 : decode prog_1_method_13_code 24 = .ok (.dload_n 3, 1) := by decide +kernel
theorem d_B_pack_25 : decode prog_1_method_13_code 25 = .ok (.iconst 1, 1) := by decide +kernel
theorem d_B_pack_26 : decode prog_1_method_13_code 26 = .ok (.iload 5, 2) := by decide +kernel
theorem d_B_pack_28 : decode prog_1_method_13_code 28 = .ok (.ishl, 1) := by decide +kernel
theorem d_B_pack_29 : decode prog_1_method_13_code 29 = .ok (.i2d, 1) := by decide +kernel
theorem d_B_pack_30 : decode prog_1_method_13_code 30 = .ok (.ddiv, 1) := by decide +kernel
theorem d_B_pack_31 : decode prog_1_method_13_code 31 = .ok (.ldc2_w 144, 3) := by decide +kernel
theorem d_B_pack_34 : decode prog_1_method_13_code 34 = .ok (.dadd, 1) := by decide +kernel
theorem d_B_pack_35 : decode prog_1_method_13_code 35 = .ok (.dstore 6, 2) := by decide +kernel
theorem d_B_pack_37 : decode prog_1_method_13_code 37 = .ok (.dload 6, 2) := by decide +kernel
theorem d_B_pack_39 : decode prog_1_method_13_code 39 = .ok (.ldc2_w 146, 3) := by decide +kernel
theorem d_B_pack_42 : decode prog_1_method_13_code 42 = .ok (.dcmp .l, 1) := by decide +kernel
theorem d_B_pack_43 : decode prog_1_method_13_code 43 = .ok (.ifCond .lt 23, 3) := by decide +kernel
theorem d_B_pack_46 : decode prog_1_method_13_code 46 = .ok (.dload 6, 2) := by decide +kernel
theorem d_B_pack_48 : decode prog_1_method_13_code 48 = .ok (.ldc2_w 148, 3) := by decide +kernel
theorem d_B_pack_51 : decode prog_1_method_13_code 51 = .ok (.dcmp .g, 1) := by decide +kernel
theorem d_B_pack_52 : decode prog_1_method_13_code 52 = .ok (.ifCond .ge 14, 3) := by decide +kernel
theorem d_B_pack_55 : decode prog_1_method_13_code 55 = .ok (.dload 6, 2) := by decide +kernel
theorem d_B_pack_57 : decode prog_1_method_13_code 57 = .ok (.invokestatic 150, 3) := by decide +kernel
theorem d_B_pack_60 : decode prog_1_method_13_code 60 = .ok (.iload 5, 2) := by decide +kernel
theorem d_B_pack_62 : decode prog_1_method_13_code 62 = .ok (.invokestatic 154, 3) := by decide +kernel
theorem d_B_pack_65 : decode prog_1_method_13_code 65 = .ok (.ireturn, 1) := by decide +kernel
theorem d_B_pack_66 : decode prog_1_method_13_code 66 = .ok (.iinc 5 1, 3) := by decide +kernel
theorem d_B_pack_69 : decode prog_1_method_13_code 69 = .ok (.goto (-52), 3) := by decide +kernel
theorem d_B_pack_72 : decode prog_1_method_13_code 72 = .ok (.dload_n 1, 1) := by decide +kernel
theorem d_B_pack_73 : decode prog_1_method_13_code 73 = .ok (.dconst 0, 1) := by decide +kernel
theorem d_B_pack_74 : decode prog_1_method_13_code 74 = .ok (.dcmp .g, 1) := by decide +kernel
theorem d_B_pack_75 : decode prog_1_method_13_code 75 = .ok (.ifCond .ge 9, 3) := by decide +kernel
theorem d_B_pack_78 : decode prog_1_method_13_code 78 = .ok (.sipush (-2048), 3) := by decide +kernel
theorem d_B_pack_81 : decode prog_1_method_13_code 81 = .ok (.goto 6, 3) := by decide +kernel
theorem d_B_pack_84 : decode prog_1_method_13_code 84 = .ok (.sipush 2047, 3) := by decide +kernel
theorem d_B_pack_87 : decode prog_1_method_13_code 87 = .ok (.bipush 15, 2) := by decide +kernel
theorem d_B_pack_89 : decode prog_1_method_13_code 89 = .ok (.invokestatic 154, 3) := by decide +kernel
theorem d_B_pack_92 : decode prog_1_method_13_code 92 = .ok (.ireturn, 1) := by decide +kernel
def b_B_pack_87 (post : Option Value → Mm → Prop) : Kk := (i_push (.int 15) (i_callS 2 w_B_packedOf (i_iret post)))
theorem t_B_pack_87 {Z : Zt} {X0 : Mm} {post : Option Value → Mm → Prop} (g : Good Z prog_1_method_13_code 8 "BusTelegrams" 1) (hq : RetZ Z true X0 0 0 post) (hr : (zM Z).sig.returnType = (some .int)) : Snd Z 8 87 (b_B_pack_87 post) := by
  unfold b_B_pack_87
  exact (s_push_bipush g d_B_pack_87 (by decide) (s_callS g (C_B_packedOf (zl Z)) (gin_S mw_196 mw_197 mw_1 mw_198) hd_B_packedOf (by decide) (by decide) d_B_pack_89 (s_iret0 g hq hr d_B_pack_92)))
def b_B_pack_66 (post : Option Value → Mm → Prop) (k17 : Kk) : Kk := (i_iinc 5 1 k17)
theorem t_B_pack_66 {Z : Zt} {X0 : Mm} {post : Option Value → Mm → Prop} {k17 : Kk} (g : Good Z prog_1_method_13_code 8 "BusTelegrams" 1) (hq : RetZ Z true X0 0 0 post) (hr : (zM Z).sig.returnType = (some .int)) (hk17 : Snd Z 8 17 k17) : Snd Z 8 66 (b_B_pack_66 post k17) := by
  unfold b_B_pack_66
  exact (s_iinc g (by decide) d_B_pack_66 (by decide) (s_goto g d_B_pack_69 (by decide) hk17))
def b_B_pack_17 (post : Option Value → Mm → Prop) : Kk := i_loop [0, 1, 3, 5] (fun k17 => (i_iload 5 (i_push (.int 15) (i_icmp (fun x y => y < x) (i_dload 1 (i_push (.double FP.dconst0) (i_dcmp .g (i_if (fun x y => y ≤ x) (i_push (.int 2047) (b_B_pack_87 post)) (i_push (.int (-2048)) (b_B_pack_87 post)))))) (i_dload 3 (i_push (.int 1) (i_iload 5 (i_bin (fun x y => x <<< (y &&& 31)) (i_i2d (i_dbin FP.ddiv (i_push (.double 4602678819172646912) (i_dbin FP.dadd (i_dstore 6 (i_dload 6 (i_push (.double 13880094051555868672) (i_dcmp .l (i_if (fun x y => x < y) (b_B_pack_66 post k17) (i_dload 6 (i_push (.double 4656722014701092864) (i_dcmp .g (i_if (fun x y => y ≤ x) (b_B_pack_66 post k17) (i_dload 6 (i_callS 1 w_B_wholeNotAbove (i_iload 5 (i_callS 2 w_B_packedOf (i_iret post))))))))))))))))))))))))))
theorem t_B_pack_17 {Z : Zt} {X0 : Mm} {post : Option Value → Mm → Prop} (g : Good Z prog_1_method_13_code 8 "BusTelegrams" 1) (hq : RetZ Z true X0 0 0 post) (hr : (zM Z).sig.returnType = (some .int)) : Snd Z 8 17 (b_B_pack_17 post) := by
  unfold b_B_pack_17
  exact s_loop (fun k17 hk17 => (s_iload g d_B_pack_17 (s_push_bipush g d_B_pack_19 (by decide) (s_icmp_gt g d_B_pack_21 (by decide) (s_dload_n g d_B_pack_72 rfl (s_push_dconst0 g d_B_pack_73 (s_dcmp g d_B_pack_74 (s_if_ge g d_B_pack_75 (by decide) (s_push_sipush g d_B_pack_84 (by decide) (t_B_pack_87 g hq hr)) (s_push_sipush g d_B_pack_78 (by decide) (s_goto g d_B_pack_81 (by decide) (t_B_pack_87 g hq hr))))))) (s_dload_n g d_B_pack_24 rfl (s_push_iconst g d_B_pack_25 (by decide) (s_iload g d_B_pack_26 (s_ishl g d_B_pack_28 (s_i2d g d_B_pack_29 (s_ddiv g d_B_pack_30 (s_push_ldc2 g mw_190 d_B_pack_31 (s_dadd g d_B_pack_34 (s_dstore g (by decide) d_B_pack_35 (s_dload g d_B_pack_37 (s_push_ldc2 g mw_191 d_B_pack_39 (s_dcmp g d_B_pack_42 (s_if_lt g d_B_pack_43 (by decide) (t_B_pack_66 g hq hr hk17) (s_dload g d_B_pack_46 (s_push_ldc2 g mw_192 d_B_pack_48 (s_dcmp g d_B_pack_51 (s_if_ge g d_B_pack_52 (by decide) (t_B_pack_66 g hq hr hk17) (s_dload g d_B_pack_55 (s_callS g (C_B_wholeNotAbove (zl Z)) (gin_S mw_193 mw_194 mw_1 mw_195) hd_B_wholeNotAbove (by decide) (by decide) d_B_pack_57 (s_iload g d_B_pack_60 (s_callS g (C_B_packedOf (zl Z)) (gin_S mw_196 mw_197 mw_1 mw_198) hd_B_packedOf (by decide) (by decide) d_B_pack_62 (s_iret0 g hq hr d_B_pack_65))))))))))))))))))))))))))
def b_B_pack_0 (post : Option Value → Mm → Prop) : Kk := (i_dload 1 (i_dload 1 (i_dcmp .l (i_if (fun x y => x = y) (i_push (.double 4636737291354636288) (i_dload 1 (i_dbin FP.dmul (i_dstore 3 (i_push (.int 0) (i_istore 5 (b_B_pack_17 post))))))) (i_push (.int 0) (i_iret post))))))
theorem t_B_pack_0 {Z : Zt} {X0 : Mm} {post : Option Value → Mm → Prop} (g : Good Z prog_1_method_13_code 8 "BusTelegrams" 1) (hq : RetZ Z true X0 0 0 post) (hr : (zM Z).sig.returnType = (some .int)) : Snd Z 8 0 (b_B_pack_0 post) := by
  unfold b_B_pack_0
  exact (s_dload_n g d_B_pack_0 rfl (s_dload_n g d_B_pack_1 rfl (s_dcmp g d_B_pack_2 (s_if_eq g d_B_pack_3 (by decide) (s_push_ldc2 g mw_189 d_B_pack_8 (s_dload_n g d_B_pack_11 rfl (s_dmul g d_B_pack_12 (s_dstore_n g (by decide) d_B_pack_13 rfl (s_push_iconst g d_B_pack_14 (by decide) (s_istore g (by decide) d_B_pack_15 (t_B_pack_17 g hq hr))))))) (s_push_iconst g d_B_pack_6 (by decide) (s_iret0 g hq hr d_B_pack_7))))))
def w_B_pack : Wp := wpOf 8 (fun _ post => b_B_pack_0 post)
theorem C_B_pack (l : Launch) : MetS l ({ cls := "BusTelegrams", name := "pack", desc := "(D)I" } : Jvm.MethodName) prog_1_method_13_code 8 (some .int) true 1 0 0 w_B_pack := metS_of (by decide +kernel) (fun Z X0 post hZ g hq hr _ => t_B_pack_0 g hq hr)
theorem hd_B_pack : (({ cls := "BusTelegrams", name := "pack", desc := "(D)I" } : Jvm.MethodName)).cls = "BusTelegrams" ∧ (({ cls := "BusTelegrams", name := "pack", desc := "(D)I" } : Jvm.MethodName)).cls ≠ "java/lang/invoke/MethodHandle" ∧ (({ cls := "BusTelegrams", name := "pack", desc := "(D)I" } : Jvm.MethodName)).cls ≠ "java/lang/invoke/VarHandle" ∧ (parseMethodDescriptor (({ cls := "BusTelegrams", name := "pack", desc := "(D)I" } : Jvm.MethodName)).desc).map (fun d => d.parameters.length) = some 1 := ⟨rfl, by decide, by decide, by decide +kernel⟩
theorem d_S_queueAt_0 : decode prog_3_method_3_code 0 = .ok (.aload_n 0, 1) := by decide +kernel
theorem d_S_queueAt_1 : decode prog_3_method_3_code 1 = .ok (.getfield 17, 3) := by decide +kernel
theorem d_S_queueAt_4 : decode prog_3_method_3_code 4 = .ok (.aload_n 0, 1) := by decide +kernel
theorem d_S_queueAt_5 : decode prog_3_method_3_code 5 = .ok (.getfield 25, 3) := by decide +kernel
theorem d_S_queueAt_8 : decode prog_3_method_3_code 8 = .ok (.iload_n 1, 1) := by decide +kernel
theorem d_S_queueAt_9 : decode prog_3_method_3_code 9 = .ok (.iadd, 1) := by decide +kernel
theorem d_S_queueAt_10 : decode prog_3_method_3_code 10 = .ok (.bipush 6, 2) := by decide +kernel
theorem d_S_queueAt_12 : decode prog_3_method_3_code 12 = .ok (.invokestatic 67, 3) := by decide +kernel
theorem d_S_queueAt_15 : decode prog_3_method_3_code 15 = .ok (.aaload, 1) := by decide +kernel
theorem d_S_queueAt_16 : decode prog_3_method_3_code 16 = .ok (.areturn, 1) := by decide +kernel
def b_S_queueAt_0 (post : Option Value → Mm → Prop) : Kk := (i_aload 0 (i_getR 1 1 (i_aload 0 (i_getI 1 4 (i_iload 1 (i_bin (fun x y => x + y) (i_push (.int 6) (i_callS 2 w_J_floorMod (i_aald 13 (i_aret post))))))))))
theorem t_S_queueAt_0 {Z : Zt} {X0 : Mm} {post : Option Value → Mm → Prop} (g : Good Z prog_3_method_3_code 2 "BusTelegrams$Station" 1) (hq : RetZ Z true X0 0 0 post) (hr : (zM Z).sig.returnType = (some (.object "BusTelegrams$Telegram"))) : Snd Z 2 0 (b_S_queueAt_0 post) := by
  unfold b_S_queueAt_0
  exact (s_aload_n g d_S_queueAt_0 rfl (s_getR g (c := 1) (j := 1) cok_1 (by decide) rfl mw_111 rfl d_S_queueAt_1 (s_aload_n g d_S_queueAt_4 rfl (s_getI g (c := 1) (j := 4) cok_1 (by decide) rfl mw_116 rfl d_S_queueAt_5 (s_iload_n g d_S_queueAt_8 rfl (s_iadd g d_S_queueAt_9 (s_push_bipush g d_S_queueAt_10 (by decide) (s_callS g (C_J_floorMod (zl Z)) (gin_S mw_330 mw_331 mw_11 mw_332) hd_J_floorMod (by decide) (by decide) d_S_queueAt_12 (s_aald13 g d_S_queueAt_15 (s_aret0 g hq hr d_S_queueAt_16))))))))))
def w_S_queueAt : Wp := wpOf 2 (fun _ post => b_S_queueAt_0 post)
theorem C_S_queueAt (l : Launch) : MetS l ({ cls := "BusTelegrams$Station", name := "queueAt", desc := "(I)LBusTelegrams$Telegram;" } : Jvm.MethodName) prog_3_method_3_code 2 (some (.object "BusTelegrams$Telegram")) true 1 0 0 w_S_queueAt := metS_of (by decide +kernel) (fun Z X0 post hZ g hq hr _ => t_S_queueAt_0 g hq hr)
theorem hd_S_queueAt : (({ cls := "BusTelegrams$Station", name := "queueAt", desc := "(I)LBusTelegrams$Telegram;" } : Jvm.MethodName)).cls = "BusTelegrams$Station" ∧ (({ cls := "BusTelegrams$Station", name := "queueAt", desc := "(I)LBusTelegrams$Telegram;" } : Jvm.MethodName)).cls ≠ "java/lang/invoke/MethodHandle" ∧ (({ cls := "BusTelegrams$Station", name := "queueAt", desc := "(I)LBusTelegrams$Telegram;" } : Jvm.MethodName)).cls ≠ "java/lang/invoke/VarHandle" ∧ (parseMethodDescriptor (({ cls := "BusTelegrams$Station", name := "queueAt", desc := "(I)LBusTelegrams$Telegram;" } : Jvm.MethodName)).desc).map (fun d => d.parameters.length) = some 1 := ⟨rfl, by decide, by decide, by decide +kernel⟩
theorem d_T_setData_0 : decode prog_4_method_3_code 0 = .ok (.iconst 1, 1) := by decide +kernel
theorem d_T_setData_1 : decode prog_4_method_3_code 1 = .ok (.iload_n 2, 1) := by decide +kernel
theorem d_T_setData_2 : decode prog_4_method_3_code 2 = .ok (.bipush 14, 2) := by decide +kernel
theorem d_T_setData_4 : decode prog_4_method_3_code 4 = .ok (.invokestatic 25, 3) := by decide +kernel
theorem d_T_setData_7 : decode prog_4_method_3_code 7 = .ok (.invokestatic 31, 3) := by decide +kernel
theorem d_T_setData_10 : decode prog_4_method_3_code 10 = .ok (.istore 4, 2) := by decide +kernel
theorem d_T_setData_12 : decode prog_4_method_3_code 12 = .ok (.aload_n 0, 1) := by decide +kernel
theorem d_T_setData_13 : decode prog_4_method_3_code 13 = .ok (.getfield 9, 3) := by decide +kernel
theorem d_T_setData_16 : decode prog_4_method_3_code 16 = .ok (.iconst 5, 1) := by decide +kernel
theorem d_T_setData_17 : decode prog_4_method_3_code 17 = .ok (.iload_n 1, 1) := by decide +kernel
theorem d_T_setData_18 : decode prog_4_method_3_code 18 = .ok (.ifCond .eq 9, 3) := by decide +kernel
theorem d_T_setData_21 : decode prog_4_method_3_code 21 = .ok (.sipush 128, 3) := by decide +kernel
theorem d_T_setData_24 : decode prog_4_method_3_code 24 = .ok (.goto 4, 3) := by decide +kernel
theorem d_T_setData_27 : decode prog_4_method_3_code 27 = .ok (.iconst 0, 1) := by decide +kernel
theorem d_T_setData_28 : decode prog_4_method_3_code 28 = .ok (.iload 4, 2) := by decide +kernel
theorem d_T_setData_30 : decode prog_4_method_3_code 30 = .ok (.iadd, 1) := by decide +kernel
theorem d_T_setData_31 : decode prog_4_method_3_code 31 = .ok (.iconst 1, 1) := by decide +kernel
theorem d_T_setData_32 : decode prog_4_method_3_code 32 = .ok (.isub, 1) := by decide +kernel
theorem d_T_setData_33 : decode prog_4_method_3_code 33 = .ok (.iastore, 1) := by decide +kernel
theorem d_T_setData_34 : decode prog_4_method_3_code 34 = .ok (.iconst 0, 1) := by decide +kernel
theorem d_T_setData_35 : decode prog_4_method_3_code 35 = .ok (.istore 5, 2) := by decide +kernel
theorem d_T_setData_37 : decode prog_4_method_3_code 37 = .ok (.iload 5, 2) := by decide +kernel
theorem d_T_setData_39 : decode prog_4_method_3_code 39 = .ok (.iload 4, 2) := by decide +kernel
theorem d_T_setData_41 : decode prog_4_method_3_code 41 = .ok (.if_icmp .ge 27, 3) := by decide +kernel
theorem d_T_setData_44 : decode prog_4_method_3_code 44 = .ok (.aload_n 0, 1) := by decide +kernel
theorem d_T_setData_45 : decode prog_4_method_3_code 45 = .ok (.getfield 9, 3) := by decide +kernel
theorem d_T_setData_48 : decode prog_4_method_3_code 48 = .ok (.bipush 6, 2) := by decide +kernel
theorem d_T_setData_50 : decode prog_4_method_3_code 50 = .ok (.iload 5, 2) := by decide +kernel
theorem d_T_setData_52 : decode prog_4_method_3_code 52 = .ok (.iadd, 1) := by decide +kernel
theorem d_T_setData_53 : decode prog_4_method_3_code 53 = .ok (.iload_n 3, 1) := by decide +kernel
theorem d_T_setData_54 : decode prog_4_method_3_code 54 = .ok (.iload 5, 2) := by decide +kernel
theorem d_T_setData_56 : decode prog_4_method_3_code 56 = .ok (.iadd, 1) := by decide +kernel
theorem d_T_setData_57 : decode prog_4_method_3_code 57 = .ok (.sipush 255, 3) := by decide +kernel
theorem d_T_setData_60 : decode prog_4_method_3_code 60 = .ok (.iand, 1) := by decide +kernel
theorem d_T_setData_61 : decode prog_4_method_3_code 61 = .ok (.iastore, 1) := by decide +kernel
theorem d_T_setData_62 : decode prog_4_method_3_code 62 = .ok (.iinc 5 1, 3) := by decide +kernel
theorem d_T_setData_65 : decode prog_4_method_3_code 65 = .ok (.goto (-28), 3) := by decide +kernel
theorem d_T_setData_68 : decode prog_4_method_3_code 68 = .ok (.aload_n 0, 1) := by decide +kernel
theorem d_T_setData_69 : decode prog_4_method_3_code 69 = .ok (.bipush 7, 2) := by decide +kernel
theorem d_T_setData_71 : decode prog_4_method_3_code 71 = .ok (.iload 4, 2) := by decide +kernel
theorem d_T_setData_73 : decode prog_4_method_3_code 73 = .ok (.iadd, 1) := by decide +kernel
theorem d_T_setData_74 : decode prog_4_method_3_code 74 = .ok (.putfield 15, 3) := by decide +kernel
theorem d_T_setData_77 : decode prog_4_method_3_code 77 = .ok (.return_, 1) := by decide +kernel
def b_T_setData_37 (post : Option Value → Mm → Prop) : Kk := i_loop [0, 1, 2, 3, 4, 5] (fun k37 => (i_iload 5 (i_iload 4 (i_icmp (fun x y => y ≤ x) (i_aload 0 (i_push (.int 7) (i_iload 4 (i_bin (fun x y => x + y) (i_putI 2 1 (i_vret post)))))) (i_aload 0 (i_getR 2 0 (i_push (.int 6) (i_iload 5 (i_bin (fun x y => x + y) (i_iload 3 (i_iload 5 (i_bin (fun x y => x + y) (i_push (.int 255) (i_bin (fun x y => x &&& y) (i_ast (i_iinc 5 1 k37))))))))))))))))
theorem t_T_setData_37 {Z : Zt} {X0 : Mm} {post : Option Value → Mm → Prop} (g : Good Z prog_4_method_3_code 6 "BusTelegrams$Telegram" 1) (hq : RetZ Z true X0 0 0 post) (hr : (zM Z).sig.returnType = none) : Snd Z 6 37 (b_T_setData_37 post) := by
  unfold b_T_setData_37
  exact s_loop (fun k37 hk37 => (s_iload g d_T_setData_37 (s_iload g d_T_setData_39 (s_icmp_ge g d_T_setData_41 (by decide) (s_aload_n g d_T_setData_68 rfl (s_push_bipush g d_T_setData_69 (by decide) (s_iload g d_T_setData_71 (s_iadd g d_T_setData_73 (s_putI g (c := 2) (j := 1) cok_2 (by decide) rfl rfl rfl mw_95 rfl d_T_setData_74 (s_vret0 g hq hr d_T_setData_77)))))) (s_aload_n g d_T_setData_44 rfl (s_getR g (c := 2) (j := 0) cok_2 (by decide) rfl mw_94 rfl d_T_setData_45 (s_push_bipush g d_T_setData_48 (by decide) (s_iload g d_T_setData_50 (s_iadd g d_T_setData_52 (s_iload_n g d_T_setData_53 rfl (s_iload g d_T_setData_54 (s_iadd g d_T_setData_56 (s_push_sipush g d_T_setData_57 (by decide) (s_iand g d_T_setData_60 (s_iast g d_T_setData_61 (s_iinc g (by decide) d_T_setData_62 (by decide) (s_goto g d_T_setData_65 (by decide) hk37)))))))))))))))))
def b_T_setData_28 (post : Option Value → Mm → Prop) : Kk := (i_iload 4 (i_bin (fun x y => x + y) (i_push (.int 1) (i_bin (fun x y => x - y) (i_ast (i_push (.int 0) (i_istore 5 (b_T_setData_37 post))))))))
theorem t_T_setData_28 {Z : Zt} {X0 : Mm} {post : Option Value → Mm → Prop} (g : Good Z prog_4_method_3_code 6 "BusTelegrams$Telegram" 1) (hq : RetZ Z true X0 0 0 post) (hr : (zM Z).sig.returnType = none) : Snd Z 6 28 (b_T_setData_28 post) := by
  unfold b_T_setData_28
  exact (s_iload g d_T_setData_28 (s_iadd g d_T_setData_30 (s_push_iconst g d_T_setData_31 (by decide) (s_isub g d_T_setData_32 (s_iast g d_T_setData_33 (s_push_iconst g d_T_setData_34 (by decide) (s_istore g (by decide) d_T_setData_35 (t_T_setData_37 g hq hr))))))))
def b_T_setData_0 (post : Option Value → Mm → Prop) : Kk := (i_push (.int 1) (i_iload 2 (i_push (.int 14) (i_callS 2 w_J_min (i_callS 2 w_J_max (i_istore 4 (i_aload 0 (i_getR 2 0 (i_push (.int 5) (i_iload 1 (i_if (fun x y => x = y) (i_push (.int 0) (b_T_setData_28 post)) (i_push (.int 128) (b_T_setData_28 post)))))))))))))
theorem t_T_setData_0 {Z : Zt} {X0 : Mm} {post : Option Value → Mm → Prop} (g : Good Z prog_4_method_3_code 6 "BusTelegrams$Telegram" 1) (hq : RetZ Z true X0 0 0 post) (hr : (zM Z).sig.returnType = none) : Snd Z 6 0 (b_T_setData_0 post) := by
  unfold b_T_setData_0
  exact (s_push_iconst g d_T_setData_0 (by decide) (s_iload_n g d_T_setData_1 rfl (s_push_bipush g d_T_setData_2 (by decide) (s_callS g (C_J_min (zl Z)) (gin_S mw_341 mw_342 mw_11 mw_343) hd_J_min (by decide) (by decide) d_T_setData_4 (s_callS g (C_J_max (zl Z)) (gin_S mw_344 mw_345 mw_11 mw_346) hd_J_max (by decide) (by decide) d_T_setData_7 (s_istore g (by decide) d_T_setData_10 (s_aload_n g d_T_setData_12 rfl (s_getR g (c := 2) (j := 0) cok_2 (by decide) rfl mw_94 rfl d_T_setData_13 (s_push_iconst g d_T_setData_16 (by decide) (s_iload_n g d_T_setData_17 rfl (s_if_eq g d_T_setData_18 (by decide) (s_push_iconst g d_T_setData_27 (by decide) (t_T_setData_28 g hq hr)) (s_push_sipush g d_T_setData_21 (by decide) (s_goto g d_T_setData_24 (by decide) (t_T_setData_28 g hq hr))))))))))))))
def w_T_setData : Wp := wpOf 6 (fun _ post => b_T_setData_0 post)
theorem C_T_setData (l : Launch) : MetS l ({ cls := "BusTelegrams$Telegram", name := "setData", desc := "(ZII)V" } : Jvm.MethodName) prog_4_method_3_code 6 none true 1 0 0 w_T_setData := metS_of (by decide +kernel) (fun Z X0 post hZ g hq hr _ => t_T_setData_0 g hq hr)
theorem hd_T_setData : (({ cls := "BusTelegrams$Telegram", name := "setData", desc := "(ZII)V" } : Jvm.MethodName)).cls = "BusTelegrams$Telegram" ∧ (({ cls := "BusTelegrams$Telegram", name := "setData", desc := "(ZII)V" } : Jvm.MethodName)).cls ≠ "java/lang/invoke/MethodHandle" ∧ (({ cls := "BusTelegrams$Telegram", name := "setData", desc := "(ZII)V" } : Jvm.MethodName)).cls ≠ "java/lang/invoke/VarHandle" ∧ (parseMethodDescriptor (({ cls := "BusTelegrams$Telegram", name := "setData", desc := "(ZII)V" } : Jvm.MethodName)).desc).map (fun d => d.parameters.length) = some 3 := ⟨rfl, by decide, by decide, by decide +kernel⟩
theorem d_T_seal_0 : decode prog_4_method_4_code 0 = .ok (.aload_n 0, 1) := by decide +kernel
theorem d_T_seal_1 : decode prog_4_method_4_code 1 = .ok (.getfield 9, 3) := by decide +kernel
theorem d_T_seal_4 : decode prog_4_method_4_code 4 = .ok (.iconst 0, 1) := by decide +kernel
theorem d_T_seal_5 : decode prog_4_method_4_code 5 = .ok (.sipush 176, 3) := by decide +kernel
theorem d_T_seal_8 : decode prog_4_method_4_code 8 = .ok (.iconst 4, 1) := by decide +kernel
theorem d_T_seal_9 : decode prog_4_method_4_code 9 = .ok (.aload_n 0, 1) := by decide +kernel
theorem d_T_seal_10 : decode prog_4_method_4_code 10 = .ok (.getfield 19, 3) := by decide +kernel
theorem d_T_seal_13 : decode prog_4_method_4_code 13 = .ok (.imul, 1) := by decide +kernel
theorem d_T_seal_14 : decode prog_4_method_4_code 14 = .ok (.iadd, 1) := by decide +kernel
theorem d_T_seal_15 : decode prog_4_method_4_code 15 = .ok (.aload_n 0, 1) := by decide +kernel
theorem d_T_seal_16 : decode prog_4_method_4_code 16 = .ok (.getfield 22, 3) := by decide +kernel
theorem d_T_seal_19 : decode prog_4_method_4_code 19 = .ok (.ifCond .le 8, 3) := by decide +kernel
theorem d_T_seal_22 : decode prog_4_method_4_code 22 = .ok (.bipush 32, 2) := by decide +kernel
theorem d_T_seal_24 : decode prog_4_method_4_code 24 = .ok (.goto 4, 3) := by decide +kernel
theorem d_T_seal_27 : decode prog_4_method_4_code 27 = .ok (.iconst 0, 1) := by decide +kernel
theorem d_T_seal_28 : decode prog_4_method_4_code 28 = .ok (.isub, 1) := by decide +kernel
theorem d_T_seal_29 : decode prog_4_method_4_code 29 = .ok (.iastore, 1) := by decide +kernel
theorem d_T_seal_30 : decode prog_4_method_4_code 30 = .ok (.iconst 0, 1) := by decide +kernel
theorem d_T_seal_31 : decode prog_4_method_4_code 31 = .ok (.aload_n 0, 1) := by decide +kernel
theorem d_T_seal_32 : decode prog_4_method_4_code 32 = .ok (.getfield 15, 3) := by decide +kernel
theorem d_T_seal_35 : decode prog_4_method_4_code 35 = .ok (.aload_n 0, 1) := by decide +kernel
theorem d_T_seal_36 : decode prog_4_method_4_code 36 = .ok (.getfield 9, 3) := by decide +kernel
theorem d_T_seal_39 : decode prog_4_method_4_code 39 = .ok (.arraylength, 1) := by decide +kernel
theorem d_T_seal_40 : decode prog_4_method_4_code 40 = .ok (.invokestatic 25, 3) := by decide +kernel
theorem d_T_seal_43 : decode prog_4_method_4_code 43 = .ok (.iconst 1, 1) := by decide +kernel
theorem d_T_seal_44 : decode prog_4_method_4_code 44 = .ok (.isub, 1) := by decide +kernel
theorem d_T_seal_45 : decode prog_4_method_4_code 45 = .ok (.invokestatic 31, 3) := by decide +kernel
theorem d_T_seal_48 : decode prog_4_method_4_code 48 = .ok (.istore_n 1, 1) := by decide +kernel
theorem d_T_seal_49 : decode prog_4_method_4_code 49 = .ok (.sipush 255, 3) := by decide +kernel
theorem d_T_seal_52 : decode prog_4_method_4_code 52 = .ok (.istore_n 2, 1) := by decide +kernel
theorem d_T_seal_53 : decode prog_4_method_4_code 53 = .ok (.iconst 0, 1) := by decide +kernel
theorem d_T_seal_54 : decode prog_4_method_4_code 54 = .ok (.istore_n 3, 1) := by decide +kernel
theorem d_T_seal_55 : decode prog_4_method_4_code 55 = .ok (.iload_n 3, 1) := by decide +kernel
theorem d_T_seal_56 : decode prog_4_method_4_code 56 = .ok (.iload_n 1, 1) := by decide +kernel
theorem d_T_seal_57 : decode prog_4_method_4_code 57 = .ok (.if_icmp .ge 18, 3) := by decide +kernel
theorem d_T_seal_60 : decode prog_4_method_4_code 60 = .ok (.iload_n 2, 1) := by decide +kernel
theorem d_T_seal_61 : decode prog_4_method_4_code 61 = .ok (.aload_n 0, 1) := by decide +kernel
theorem d_T_seal_62 : decode prog_4_method_4_code 62 = .ok (.getfield 9, 3) := by decide +kernel
theorem d_T_seal_65 : decode prog_4_method_4_code 65 = .ok (.iload_n 3, 1) := by decide +kernel
theorem d_T_seal_66 : decode prog_4_method_4_code 66 = .ok (.iaload, 1) := by decide +kernel
theorem d_T_seal_67 : decode prog_4_method_4_code 67 = .ok (.ixor, 1) := by decide +kernel
theorem d_T_seal_68 : decode prog_4_method_4_code 68 = .ok (.istore_n 2, 1) := by decide +kernel
theorem d_T_seal_69 : decode prog_4_method_4_code 69 = .ok (.iinc 3 1, 3) := by decide +kernel
theorem d_T_seal_72 : decode prog_4_method_4_code 72 = .ok (.goto (-17), 3) := by decide +kernel
theorem d_T_seal_75 : decode prog_4_method_4_code 75 = .ok (.aload_n 0, 1) := by decide +kernel
theorem d_T_seal_76 : decode prog_4_method_4_code 76 = .ok (.getfield 9, 3) := by decide +kernel
theorem d_T_seal_79 : decode prog_4_method_4_code 79 = .ok (.iload_n 1, 1) := by decide +kernel
theorem d_T_seal_80 : decode prog_4_method_4_code 80 = .ok (.iload_n 2, 1) := by decide +kernel
theorem d_T_seal_81 : decode prog_4_method_4_code 81 = .ok (.iastore, 1) := by decide +kernel
theorem d_T_seal_82 : decode prog_4_method_4_code 82 = .ok (.return_, 1) := by decide +kernel
def b_T_seal_55 (post : Option Value → Mm → Prop) : Kk := i_loop [0, 1, 2, 3] (fun k55 => (i_iload 3 (i_iload 1 (i_icmp (fun x y => y ≤ x) (i_aload 0 (i_getR 2 0 (i_iload 1 (i_iload 2 (i_ast (i_vret post)))))) (i_iload 2 (i_aload 0 (i_getR 2 0 (i_iload 3 (i_ald 10 (i_bin (fun x y => x ^^^ y) (i_istore 2 (i_iinc 3 1 k55))))))))))))
theorem t_T_seal_55 {Z : Zt} {X0 : Mm} {post : Option Value → Mm → Prop} (g : Good Z prog_4_method_4_code 4 "BusTelegrams$Telegram" 1) (hq : RetZ Z true X0 0 0 post) (hr : (zM Z).sig.returnType = none) : Snd Z 4 55 (b_T_seal_55 post) := by
  unfold b_T_seal_55
  exact s_loop (fun k55 hk55 => (s_iload_n g d_T_seal_55 rfl (s_iload_n g d_T_seal_56 rfl (s_icmp_ge g d_T_seal_57 (by decide) (s_aload_n g d_T_seal_75 rfl (s_getR g (c := 2) (j := 0) cok_2 (by decide) rfl mw_94 rfl d_T_seal_76 (s_iload_n g d_T_seal_79 rfl (s_iload_n g d_T_seal_80 rfl (s_iast g d_T_seal_81 (s_vret0 g hq hr d_T_seal_82)))))) (s_iload_n g d_T_seal_60 rfl (s_aload_n g d_T_seal_61 rfl (s_getR g (c := 2) (j := 0) cok_2 (by decide) rfl mw_94 rfl d_T_seal_62 (s_iload_n g d_T_seal_65 rfl (s_iald g d_T_seal_66 (s_ixor g d_T_seal_67 (s_istore_n g (by decide) d_T_seal_68 rfl (s_iinc g (by decide) d_T_seal_69 (by decide) (s_goto g d_T_seal_72 (by decide) hk55)))))))))))))
def b_T_seal_28 (post : Option Value → Mm → Prop) : Kk := (i_bin (fun x y => x - y) (i_ast (i_push (.int 0) (i_aload 0 (i_getI 2 1 (i_aload 0 (i_getR 2 0 (i_alen (i_callS 2 w_J_min (i_push (.int 1) (i_bin (fun x y => x - y) (i_callS 2 w_J_max (i_istore 1 (i_push (.int 255) (i_istore 2 (i_push (.int 0) (i_istore 3 (b_T_seal_55 post))))))))))))))))))
theorem t_T_seal_28 {Z : Zt} {X0 : Mm} {post : Option Value → Mm → Prop} (g : Good Z prog_4_method_4_code 4 "BusTelegrams$Telegram" 1) (hq : RetZ Z true X0 0 0 post) (hr : (zM Z).sig.returnType = none) : Snd Z 4 28 (b_T_seal_28 post) := by
  unfold b_T_seal_28
  exact (s_isub g d_T_seal_28 (s_iast g d_T_seal_29 (s_push_iconst g d_T_seal_30 (by decide) (s_aload_n g d_T_seal_31 rfl (s_getI g (c := 2) (j := 1) cok_2 (by decide) rfl mw_95 rfl d_T_seal_32 (s_aload_n g d_T_seal_35 rfl (s_getR g (c := 2) (j := 0) cok_2 (by decide) rfl mw_94 rfl d_T_seal_36 (s_alen g d_T_seal_39 (s_callS g (C_J_min (zl Z)) (gin_S mw_341 mw_342 mw_11 mw_343) hd_J_min (by decide) (by decide) d_T_seal_40 (s_push_iconst g d_T_seal_43 (by decide) (s_isub g d_T_seal_44 (s_callS g (C_J_max (zl Z)) (gin_S mw_344 mw_345 mw_11 mw_346) hd_J_max (by decide) (by decide) d_T_seal_45 (s_istore_n g (by decide) d_T_seal_48 rfl (s_push_sipush g d_T_seal_49 (by decide) (s_istore_n g (by decide) d_T_seal_52 rfl (s_push_iconst g d_T_seal_53 (by decide) (s_istore_n g (by decide) d_T_seal_54 rfl (t_T_seal_55 g hq hr))))))))))))))))))
def b_T_seal_0 (post : Option Value → Mm → Prop) : Kk := (i_aload 0 (i_getR 2 0 (i_push (.int 0) (i_push (.int 176) (i_push (.int 4) (i_aload 0 (i_getI 2 2 (i_bin (fun x y => x * y) (i_bin (fun x y => x + y) (i_aload 0 (i_getI 2 3 (i_if (fun x y => x ≤ y) (i_push (.int 0) (b_T_seal_28 post)) (i_push (.int 32) (b_T_seal_28 post))))))))))))))
theorem t_T_seal_0 {Z : Zt} {X0 : Mm} {post : Option Value → Mm → Prop} (g : Good Z prog_4_method_4_code 4 "BusTelegrams$Telegram" 1) (hq : RetZ Z true X0 0 0 post) (hr : (zM Z).sig.returnType = none) : Snd Z 4 0 (b_T_seal_0 post) := by
  unfold b_T_seal_0
  exact (s_aload_n g d_T_seal_0 rfl (s_getR g (c := 2) (j := 0) cok_2 (by decide) rfl mw_94 rfl d_T_seal_1 (s_push_iconst g d_T_seal_4 (by decide) (s_push_sipush g d_T_seal_5 (by decide) (s_push_iconst g d_T_seal_8 (by decide) (s_aload_n g d_T_seal_9 rfl (s_getI g (c := 2) (j := 2) cok_2 (by decide) rfl mw_96 rfl d_T_seal_10 (s_imul g d_T_seal_13 (s_iadd g d_T_seal_14 (s_aload_n g d_T_seal_15 rfl (s_getI g (c := 2) (j := 3) cok_2 (by decide) rfl mw_97 rfl d_T_seal_16 (s_if_le g d_T_seal_19 (by decide) (s_push_iconst g d_T_seal_27 (by decide) (t_T_seal_28 g hq hr)) (s_push_bipush g d_T_seal_22 (by decide) (s_goto g d_T_seal_24 (by decide) (t_T_seal_28 g hq hr)))))))))))))))
def w_T_seal : Wp := wpOf 4 (fun _ post => b_T_seal_0 post)
theorem C_T_seal (l : Launch) : MetS l ({ cls := "BusTelegrams$Telegram", name := "seal", desc := "()V" } : Jvm.MethodName) prog_4_method_4_code 4 none true 1 0 0 w_T_seal := metS_of (by decide +kernel) (fun Z X0 post hZ g hq hr _ => t_T_seal_0 g hq hr)
theorem hd_T_seal : (({ cls := "BusTelegrams$Telegram", name := "seal", desc := "()V" } : Jvm.MethodName)).cls = "BusTelegrams$Telegram" ∧ (({ cls := "BusTelegrams$Telegram", name := "seal", desc := "()V" } : Jvm.MethodName)).cls ≠ "java/lang/invoke/MethodHandle" ∧ (({ cls := "BusTelegrams$Telegram", name := "seal", desc := "()V" } : Jvm.MethodName)).cls ≠ "java/lang/invoke/VarHandle" ∧ (parseMethodDescriptor (({ cls := "BusTelegrams$Telegram", name := "seal", desc := "()V" } : Jvm.MethodName)).desc).map (fun d => d.parameters.length) = some 0 := ⟨rfl, by decide, by decide, by decide +kernel⟩
theorem d_B_beginAnswers_0 : decode prog_1_method_22_code 0 = .ok (.aload_n 0, 1) := by decide +kernel
theorem d_B_beginAnswers_1 : decode prog_1_method_22_code 1 = .ok (.getfield 18, 3) := by decide +kernel
theorem d_B_beginAnswers_4 : decode prog_1_method_22_code 4 = .ok (.aload_n 0, 1) := by decide +kernel
theorem d_B_beginAnswers_5 : decode prog_1_method_22_code 5 = .ok (.getfield 34, 3) := by decide +kernel
theorem d_B_beginAnswers_8 : decode prog_1_method_22_code 8 = .ok (.invokevirtual 192, 3) := by decide +kernel
theorem d_B_beginAnswers_11 : decode prog_1_method_22_code 11 = .ok (.ifCond .ne 4, 3) := by decide +kernel
theorem d_B_beginAnswers_14 : decode prog_1_method_22_code 14 = .ok (.return_, 1) := by decide +kernel
theorem d_B_beginAnswers_15 : decode prog_1_method_22_code 15 = .ok (.iconst 0, 1) := by decide +kernel
theorem d_B_beginAnswers_16 : decode prog_1_method_22_code 16 = .ok (.istore_n 1, 1) := by decide +kernel
theorem d_B_beginAnswers_17 : decode prog_1_method_22_code 17 = .ok (.iload_n 1, 1) := by decide +kernel
theorem d_B_beginAnswers_18 : decode prog_1_method_22_code 18 = .ok (.bipush 8, 2) := by decide +kernel
theorem d_B_beginAnswers_20 : decode prog_1_method_22_code 20 = .ok (.if_icmp .ge 48, 3) := by decide +kernel
theorem d_B_beginAnswers_23 : decode prog_1_method_22_code 23 = .ok (.aload_n 0, 1) := by decide +kernel
theorem d_B_beginAnswers_24 : decode prog_1_method_22_code 24 = .ok (.getfield 11, 3) := by decide +kernel
theorem d_B_beginAnswers_27 : decode prog_1_method_22_code 27 = .ok (.iload_n 1, 1) := by decide +kernel
theorem d_B_beginAnswers_28 : decode prog_1_method_22_code 28 = .ok (.aaload, 1) := by decide +kernel
theorem d_B_beginAnswers_29 : decode prog_1_method_22_code 29 = .ok (.astore_n 2, 1) := by decide +kernel
theorem d_B_beginAnswers_30 : decode prog_1_method_22_code 30 = .ok (.aload_n 2, 1) := by decide +kernel
theorem d_B_beginAnswers_31 : decode prog_1_method_22_code 31 = .ok (.aload_n 0, 1) := by decide +kernel
theorem d_B_beginAnswers_32 : decode prog_1_method_22_code 32 = .ok (.getfield 18, 3) := by decide +kernel
theorem d_B_beginAnswers_35 : decode prog_1_method_22_code 35 = .ok (.invokevirtual 195, 3) := by decide +kernel
theorem d_B_beginAnswers_38 : decode prog_1_method_22_code 38 = .ok (.aload_n 0, 1) := by decide +kernel
theorem d_B_beginAnswers_39 : decode prog_1_method_22_code 39 = .ok (.getfield 18, 3) := by decide +kernel
theorem d_B_beginAnswers_42 : decode prog_1_method_22_code 42 = .ok (.invokevirtual 198, 3) := by decide +kernel
theorem d_B_beginAnswers_45 : decode prog_1_method_22_code 45 = .ok (.invokevirtual 201, 3) := by decide +kernel
theorem d_B_beginAnswers_48 : decode prog_1_method_22_code 48 = .ok (.ifCond .eq 14, 3) := by decide +kernel
theorem d_B_beginAnswers_51 : decode prog_1_method_22_code 51 = .ok (.aload_n 2, 1) := by decide +kernel
theorem d_B_beginAnswers_52 : decode prog_1_method_22_code 52 = .ok (.aload_n 0, 1) := by decide +kernel
theorem d_B_beginAnswers_53 : decode prog_1_method_22_code 53 = .ok (.getfield 18, 3) := by decide +kernel
theorem d_B_beginAnswers_56 : decode prog_1_method_22_code 56 = .ok (.getfield 205, 3) := by decide +kernel
theorem d_B_beginAnswers_59 : decode prog_1_method_22_code 59 = .ok (.invokevirtual 208, 3) := by decide +kernel
theorem d_B_beginAnswers_62 : decode prog_1_method_22_code 62 = .ok (.iinc 1 1, 3) := by decide +kernel
theorem d_B_beginAnswers_65 : decode prog_1_method_22_code 65 = .ok (.goto (-48), 3) := by decide +kernel
theorem d_B_beginAnswers_68 : decode prog_1_method_22_code 68 = .ok (.return_, 1) := by decide +kernel
def b_B_beginAnswers_62 (post : Option Value → Mm → Prop) (k17 : Kk) : Kk := (i_iinc 1 1 k17)
theorem t_B_beginAnswers_62 {Z : Zt} {X0 : Mm} {post : Option Value → Mm → Prop} {k17 : Kk} (g : Good Z prog_1_method_22_code 3 "BusTelegrams" 1) (hq : RetZ Z true X0 0 0 post) (hr : (zM Z).sig.returnType = none) (hk17 : Snd Z 3 17 k17) : Snd Z 3 62 (b_B_beginAnswers_62 post k17) := by
  unfold b_B_beginAnswers_62
  exact (s_iinc g (by decide) d_B_beginAnswers_62 (by decide) (s_goto g d_B_beginAnswers_65 (by decide) hk17))
def b_B_beginAnswers_17 (post : Option Value → Mm → Prop) : Kk := i_loop [0, 1] (fun k17 => (i_iload 1 (i_push (.int 8) (i_icmp (fun x y => y ≤ x) (i_vret post) (i_aload 0 (i_getR 3 0 (i_iload 1 (i_aald 12 (i_astore 2 (i_aload 2 (i_aload 0 (i_getR 3 1 (i_callV 0 0 w_E_latestAim (i_aload 0 (i_getR 3 1 (i_callV 0 0 w_E_isLatestForGroup (i_callV 2 1 w_S_isMeant (i_if (fun x y => x = y) (b_B_beginAnswers_62 post k17) (i_aload 2 (i_aload 0 (i_getR 3 1 (i_getI 0 13 (i_callV 1 1 w_S_beginAnswer (b_B_beginAnswers_62 post k17))))))))))))))))))))))))
theorem t_B_beginAnswers_17 {Z : Zt} {X0 : Mm} {post : Option Value → Mm → Prop} (g : Good Z prog_1_method_22_code 3 "BusTelegrams" 1) (hq : RetZ Z true X0 0 0 post) (hr : (zM Z).sig.returnType = none) : Snd Z 3 17 (b_B_beginAnswers_17 post) := by
  unfold b_B_beginAnswers_17
  exact s_loop (fun k17 hk17 => (s_iload_n g d_B_beginAnswers_17 rfl (s_push_bipush g d_B_beginAnswers_18 (by decide) (s_icmp_ge g d_B_beginAnswers_20 (by decide) (s_vret0 g hq hr d_B_beginAnswers_68) (s_aload_n g d_B_beginAnswers_23 rfl (s_getR g (c := 3) (j := 0) cok_3 (by decide) rfl mw_159 rfl d_B_beginAnswers_24 (s_iload_n g d_B_beginAnswers_27 rfl (s_aald12 g d_B_beginAnswers_28 (s_astore_n g (by decide) d_B_beginAnswers_29 rfl (s_aload_n g d_B_beginAnswers_30 rfl (s_aload_n g d_B_beginAnswers_31 rfl (s_getR g (c := 3) (j := 1) cok_3 (by decide) rfl mw_160 rfl d_B_beginAnswers_32 (s_callV g (C_E_latestAim (zl Z)) (gin_V mw_385 mw_386 mw_387 mw_2 mw_388) hd_E_latestAim rfl (by decide) (by decide) (by decide) d_B_beginAnswers_35 (s_aload_n g d_B_beginAnswers_38 rfl (s_getR g (c := 3) (j := 1) cok_3 (by decide) rfl mw_160 rfl d_B_beginAnswers_39 (s_callV g (C_E_isLatestForGroup (zl Z)) (gin_V mw_389 mw_390 mw_391 mw_2 mw_392) hd_E_isLatestForGroup rfl (by decide) (by decide) (by decide) d_B_beginAnswers_42 (s_callV g (C_S_isMeant (zl Z)) (gin_V mw_393 mw_394 mw_395 mw_3 mw_396) hd_S_isMeant rfl (by decide) (by decide) (by decide) d_B_beginAnswers_45 (s_if_eq g d_B_beginAnswers_48 (by decide) (t_B_beginAnswers_62 g hq hr hk17) (s_aload_n g d_B_beginAnswers_51 rfl (s_aload_n g d_B_beginAnswers_52 rfl (s_getR g (c := 3) (j := 1) cok_3 (by decide) rfl mw_160 rfl d_B_beginAnswers_53 (s_getIN g (c := 0) (j := 13) cok_0 (by decide) rfl mn_44 rfl d_B_beginAnswers_56 (s_callV g (C_S_beginAnswer (zl Z)) (gin_V mw_397 mw_398 mw_399 mw_3 mw_400) hd_S_beginAnswer rfl (by decide) (by decide) (by decide) d_B_beginAnswers_59 (t_B_beginAnswers_62 g hq hr hk17))))))))))))))))))))))))
def b_B_beginAnswers_0 (post : Option Value → Mm → Prop) : Kk := (i_aload 0 (i_getR 3 1 (i_aload 0 (i_getI 3 5 (i_callV 1 0 w_E_isAnswerDue (i_if (fun x y => x = y) (i_vret post) (i_push (.int 0) (i_istore 1 (b_B_beginAnswers_17 post)))))))))
theorem t_B_beginAnswers_0 {Z : Zt} {X0 : Mm} {post : Option Value → Mm → Prop} (g : Good Z prog_1_method_22_code 3 "BusTelegrams" 1) (hq : RetZ Z true X0 0 0 post) (hr : (zM Z).sig.returnType = none) : Snd Z 3 0 (b_B_beginAnswers_0 post) := by
  unfold b_B_beginAnswers_0
  exact (s_aload_n g d_B_beginAnswers_0 rfl (s_getR g (c := 3) (j := 1) cok_3 (by decide) rfl mw_160 rfl d_B_beginAnswers_1 (s_aload_n g d_B_beginAnswers_4 rfl (s_getI g (c := 3) (j := 5) cok_3 (by decide) rfl mw_164 rfl d_B_beginAnswers_5 (s_callV g (C_E_isAnswerDue (zl Z)) (gin_V mw_381 mw_382 mw_383 mw_2 mw_384) hd_E_isAnswerDue rfl (by decide) (by decide) (by decide) d_B_beginAnswers_8 (s_if_ne g d_B_beginAnswers_11 (by decide) (s_push_iconst g d_B_beginAnswers_15 (by decide) (s_istore_n g (by decide) d_B_beginAnswers_16 rfl (t_B_beginAnswers_17 g hq hr))) (s_vret0 g hq hr d_B_beginAnswers_14)))))))
def w_B_beginAnswers : Wp := wpOf 3 (fun _ post => b_B_beginAnswers_0 post)
theorem C_B_beginAnswers (l : Launch) : MetS l ({ cls := "BusTelegrams", name := "beginAnswers", desc := "()V" } : Jvm.MethodName) prog_1_method_22_code 3 none true 1 0 0 w_B_beginAnswers := metS_of (by decide +kernel) (fun Z X0 post hZ g hq hr _ => t_B_beginAnswers_0 g hq hr)
theorem hd_B_beginAnswers : (({ cls := "BusTelegrams", name := "beginAnswers", desc := "()V" } : Jvm.MethodName)).cls = "BusTelegrams" ∧ (({ cls := "BusTelegrams", name := "beginAnswers", desc := "()V" } : Jvm.MethodName)).cls ≠ "java/lang/invoke/MethodHandle" ∧ (({ cls := "BusTelegrams", name := "beginAnswers", desc := "()V" } : Jvm.MethodName)).cls ≠ "java/lang/invoke/VarHandle" ∧ (parseMethodDescriptor (({ cls := "BusTelegrams", name := "beginAnswers", desc := "()V" } : Jvm.MethodName)).desc).map (fun d => d.parameters.length) = some 0 := ⟨rfl, by decide, by decide, by decide +kernel⟩
theorem d_B_characterBit_0 : decode prog_1_method_20_code 0 = .ok (.iload_n 1, 1) := by decide +kernel
theorem d_B_characterBit_1 : decode prog_1_method_20_code 1 = .ok (.ifCond .ne 5, 3) := by decide +kernel
theorem d_B_characterBit_4 : decode prog_1_method_20_code 4 = .ok (.iconst 0, 1) := by decide +kernel
theorem d_B_characterBit_5 : decode prog_1_method_20_code 5 = .ok (.ireturn, 1) := by decide +kernel
theorem d_B_characterBit_6 : decode prog_1_method_20_code 6 = .ok (.iload_n 1, 1) := by decide +kernel
theorem d_B_characterBit_7 : decode prog_1_method_20_code 7 = .ok (.iconst 1, 1) := by decide +kernel
theorem d_B_characterBit_8 : decode prog_1_method_20_code 8 = .ok (.if_icmp .lt 17, 3) := by decide +kernel
theorem d_B_characterBit_11 : decode prog_1_method_20_code 11 = .ok (.iload_n 1, 1) := by decide +kernel
theorem d_B_characterBit_12 : decode prog_1_method_20_code 12 = .ok (.bipush 8, 2) := by decide +kernel
theorem d_B_characterBit_14 : decode prog_1_method_20_code 14 = .ok (.if_icmp .gt 11, 3) := by decide +kernel
theorem d_B_characterBit_17 : decode prog_1_method_20_code 17 = .ok (.iload_n 0, 1) := by decide +kernel
theorem d_B_characterBit_18 : decode prog_1_method_20_code 18 = .ok (.iload_n 1, 1) := by decide +kernel
theorem d_B_characterBit_19 : decode prog_1_method_20_code 19 = .ok (.iconst 1, 1) := by decide +kernel
theorem d_B_characterBit_20 : decode prog_1_method_20_code 20 = .ok (.isub, 1) := by decide +kernel
theorem d_B_characterBit_21 : decode prog_1_method_20_code 21 = .ok (.ishr, 1) := by decide +kernel
theorem d_B_characterBit_22 : decode prog_1_method_20_code 22 = .ok (.iconst 1, 1) := by decide +kernel
theorem d_B_characterBit_23 : decode prog_1_method_20_code 23 = .ok (.iand, 1) := by decide +kernel
theorem d_B_characterBit_24 : decode prog_1_method_20_code 24 = .ok (.ireturn, 1) := by decide +kernel
theorem d_B_characterBit_25 : decode prog_1_method_20_code 25 = .ok (.iload_n 1, 1) := by decide +kernel
theorem d_B_characterBit_26 : decode prog_1_method_20_code 26 = .ok (.bipush 9, 2) := by decide +kernel
theorem d_B_characterBit_28 : decode prog_1_method_20_code 28 = .ok (.if_icmp .ne 12, 3) := by decide +kernel
theorem d_B_characterBit_31 : decode prog_1_method_20_code 31 = .ok (.iload_n 0, 1) := by decide +kernel
theorem d_B_characterBit_32 : decode prog_1_method_20_code 32 = .ok (.invokestatic 161, 3) := by decide +kernel
theorem d_B_characterBit_35 : decode prog_1_method_20_code 35 = .ok (.iconst 1, 1) := by decide +kernel
theorem d_B_characterBit_36 : decode prog_1_method_20_code 36 = .ok (.iand, 1) := by decide +kernel
theorem d_B_characterBit_37 : decode prog_1_method_20_code 37 = .ok (.goto 4, 3) := by decide +kernel
theorem d_B_characterBit_40 : decode prog_1_method_20_code 40 = .ok (.iconst 1, 1) := by decide +kernel
theorem d_B_characterBit_41 : decode prog_1_method_20_code 41 = .ok (.ireturn, 1) := by decide +kernel
def b_B_characterBit_41 (post : Option Value → Mm → Prop) : Kk := (i_iret post)
theorem t_B_characterBit_41 {Z : Zt} {X0 : Mm} {post : Option Value → Mm → Prop} (g : Good Z prog_1_method_20_code 2 "BusTelegrams" 1) (hq : RetZ Z true X0 0 0 post) (hr : (zM Z).sig.returnType = (some .int)) : Snd Z 2 41 (b_B_characterBit_41 post) := by
  unfold b_B_characterBit_41
  exact (s_iret0 g hq hr d_B_characterBit_41)
def b_B_characterBit_25 (post : Option Value → Mm → Prop) : Kk := (i_iload 1 (i_push (.int 9) (i_icmp (fun x y => x = y) (i_iload 0 (i_callS 1 w_J_bitCount (i_push (.int 1) (i_bin (fun x y => x &&& y) (b_B_characterBit_41 post))))) (i_push (.int 1) (b_B_characterBit_41 post)))))
theorem t_B_characterBit_25 {Z : Zt} {X0 : Mm} {post : Option Value → Mm → Prop} (g : Good Z prog_1_method_20_code 2 "BusTelegrams" 1) (hq : RetZ Z true X0 0 0 post) (hr : (zM Z).sig.returnType = (some .int)) : Snd Z 2 25 (b_B_characterBit_25 post) := by
  unfold b_B_characterBit_25
  exact (s_iload_n g d_B_characterBit_25 rfl (s_push_bipush g d_B_characterBit_26 (by decide) (s_icmp_ne g d_B_characterBit_28 (by decide) (s_push_iconst g d_B_characterBit_40 (by decide) (t_B_characterBit_41 g hq hr)) (s_iload_n g d_B_characterBit_31 rfl (s_callS g (C_J_bitCount (zl Z)) (gin_S mw_416 mw_417 mw_12 mw_418) hd_J_bitCount (by decide) (by decide) d_B_characterBit_32 (s_push_iconst g d_B_characterBit_35 (by decide) (s_iand g d_B_characterBit_36 (s_goto g d_B_characterBit_37 (by decide) (t_B_characterBit_41 g hq hr)))))))))
def b_B_characterBit_0 (post : Option Value → Mm → Prop) : Kk := (i_iload 1 (i_if (fun x y => x = y) (i_push (.int 0) (i_iret post)) (i_iload 1 (i_push (.int 1) (i_icmp (fun x y => x < y) (b_B_characterBit_25 post) (i_iload 1 (i_push (.int 8) (i_icmp (fun x y => y < x) (b_B_characterBit_25 post) (i_iload 0 (i_iload 1 (i_push (.int 1) (i_bin (fun x y => x - y) (i_bin (fun x y => x >>> (y &&& 31)) (i_push (.int 1) (i_bin (fun x y => x &&& y) (i_iret post))))))))))))))))
theorem t_B_characterBit_0 {Z : Zt} {X0 : Mm} {post : Option Value → Mm → Prop} (g : Good Z prog_1_method_20_code 2 "BusTelegrams" 1) (hq : RetZ Z true X0 0 0 post) (hr : (zM Z).sig.returnType = (some .int)) : Snd Z 2 0 (b_B_characterBit_0 post) := by
  unfold b_B_characterBit_0
  exact (s_iload_n g d_B_characterBit_0 rfl (s_if_ne g d_B_characterBit_1 (by decide) (s_iload_n g d_B_characterBit_6 rfl (s_push_iconst g d_B_characterBit_7 (by decide) (s_icmp_lt g d_B_characterBit_8 (by decide) (t_B_characterBit_25 g hq hr) (s_iload_n g d_B_characterBit_11 rfl (s_push_bipush g d_B_characterBit_12 (by decide) (s_icmp_gt g d_B_characterBit_14 (by decide) (t_B_characterBit_25 g hq hr) (s_iload_n g d_B_characterBit_17 rfl (s_iload_n g d_B_characterBit_18 rfl (s_push_iconst g d_B_characterBit_19 (by decide) (s_isub g d_B_characterBit_20 (s_ishr g d_B_characterBit_21 (s_push_iconst g d_B_characterBit_22 (by decide) (s_iand g d_B_characterBit_23 (s_iret0 g hq hr d_B_characterBit_24)))))))))))))) (s_push_iconst g d_B_characterBit_4 (by decide) (s_iret0 g hq hr d_B_characterBit_5))))
def w_B_characterBit : Wp := wpOf 2 (fun _ post => b_B_characterBit_0 post)
theorem C_B_characterBit (l : Launch) : MetS l ({ cls := "BusTelegrams", name := "characterBit", desc := "(II)I" } : Jvm.MethodName) prog_1_method_20_code 2 (some .int) true 1 0 0 w_B_characterBit := metS_of (by decide +kernel) (fun Z X0 post hZ g hq hr _ => t_B_characterBit_0 g hq hr)
theorem hd_B_characterBit : (({ cls := "BusTelegrams", name := "characterBit", desc := "(II)I" } : Jvm.MethodName)).cls ≠ "java/lang/invoke/MethodHandle" ∧ (({ cls := "BusTelegrams", name := "characterBit", desc := "(II)I" } : Jvm.MethodName)).cls ≠ "java/lang/invoke/VarHandle" ∧ (parseMethodDescriptor (({ cls := "BusTelegrams", name := "characterBit", desc := "(II)I" } : Jvm.MethodName)).desc).map (fun d => d.parameters.length) = some 2 := ⟨by decide, by decide, by decide +kernel⟩
theorem d_B_takeDisturbance_0 : decode prog_1_method_24_code 0 = .ok (.aload_n 0, 1) := by decide +kernel
theorem d_B_takeDisturbance_1 : decode prog_1_method_24_code 1 = .ok (.getfield 34, 3) := by decide +kernel
theorem d_B_takeDisturbance_4 : decode prog_1_method_24_code 4 = .ok (.invokestatic 104, 3) := by decide +kernel
theorem d_B_takeDisturbance_7 : decode prog_1_method_24_code 7 = .ok (.istore_n 1, 1) := by decide +kernel
theorem d_B_takeDisturbance_8 : decode prog_1_method_24_code 8 = .ok (.aload_n 0, 1) := by decide +kernel
theorem d_B_takeDisturbance_9 : decode prog_1_method_24_code 9 = .ok (.getfield 22, 3) := by decide +kernel
theorem d_B_takeDisturbance_12 : decode prog_1_method_24_code 12 = .ok (.iload_n 1, 1) := by decide +kernel
theorem d_B_takeDisturbance_13 : decode prog_1_method_24_code 13 = .ok (.baload, 1) := by decide +kernel
theorem d_B_takeDisturbance_14 : decode prog_1_method_24_code 14 = .ok (.ifCond .ne 5, 3) := by decide +kernel
theorem d_B_takeDisturbance_17 : decode prog_1_method_24_code 17 = .ok (.iconst 0, 1) := by decide +kernel
theorem d_B_takeDisturbance_18 : decode prog_1_method_24_code 18 = .ok (.ireturn, 1) := by decide +kernel
theorem d_B_takeDisturbance_19 : decode prog_1_method_24_code 19 = .ok (.aload_n 0, 1) := by decide +kernel
theorem d_B_takeDisturbance_20 : decode prog_1_method_24_code 20 = .ok (.getfield 22, 3) := by decide +kernel
theorem d_B_takeDisturbance_23 : decode prog_1_method_24_code 23 = .ok (.iload_n 1, 1) := by decide +kernel
theorem d_B_takeDisturbance_24 : decode prog_1_method_24_code 24 = .ok (.iconst 0, 1) := by decide +kernel
theorem d_B_takeDisturbance_25 : decode prog_1_method_24_code 25 = .ok (.bastore, 1) := by decide +kernel
theorem d_B_takeDisturbance_26 : decode prog_1_method_24_code 26 = .ok (.aload_n 0, 1) := by decide +kernel
theorem d_B_takeDisturbance_27 : decode prog_1_method_24_code 27 = .ok (.dup, 1) := by decide +kernel
theorem d_B_takeDisturbance_28 : decode prog_1_method_24_code 28 = .ok (.getfield 26, 3) := by decide +kernel
theorem d_B_takeDisturbance_31 : decode prog_1_method_24_code 31 = .ok (.iconst 1, 1) := by decide +kernel
theorem d_B_takeDisturbance_32 : decode prog_1_method_24_code 32 = .ok (.isub, 1) := by decide +kernel
theorem d_B_takeDisturbance_33 : decode prog_1_method_24_code 33 = .ok (.putfield 26, 3) := by decide +kernel
theorem d_B_takeDisturbance_36 : decode prog_1_method_24_code 36 = .ok (.iconst 1, 1) := by decide +kernel
theorem d_B_takeDisturbance_37 : decode prog_1_method_24_code 37 = .ok (.ireturn, 1) := by decide +kernel
def b_B_takeDisturbance_0 (post : Option Value → Mm → Prop) : Kk := (i_aload 0 (i_getI 3 5 (i_callS 1 w_B_disturbancePlace (i_istore 1 (i_aload 0 (i_getR 3 2 (i_iload 1 (i_ald 11 (i_if (fun x y => x = y) (i_push (.int 0) (i_zret post)) (i_aload 0 (i_getR 3 2 (i_iload 1 (i_push (.int 0) (i_zst (i_aload 0 (i_dup (i_getI 3 3 (i_push (.int 1) (i_bin (fun x y => x - y) (i_putI 3 3 (i_push (.int 1) (i_zret post))))))))))))))))))))))
theorem t_B_takeDisturbance_0 {Z : Zt} {X0 : Mm} {post : Option Value → Mm → Prop} (g : Good Z prog_1_method_24_code 2 "BusTelegrams" 1) (hq : RetZ Z true X0 0 0 post) (hr : (zM Z).sig.returnType = (some .boolean)) : Snd Z 2 0 (b_B_takeDisturbance_0 post) := by
  unfold b_B_takeDisturbance_0
  exact (s_aload_n g d_B_takeDisturbance_0 rfl (s_getI g (c := 3) (j := 5) cok_3 (by decide) rfl mw_164 rfl d_B_takeDisturbance_1 (s_callS g (C_B_disturbancePlace (zl Z)) (gin_S mw_360 mw_361 mw_1 mw_362) hd_B_disturbancePlace (by decide) (by decide) d_B_takeDisturbance_4 (s_istore_n g (by decide) d_B_takeDisturbance_7 rfl (s_aload_n g d_B_takeDisturbance_8 rfl (s_getR g (c := 3) (j := 2) cok_3 (by decide) rfl mw_161 rfl d_B_takeDisturbance_9 (s_iload_n g d_B_takeDisturbance_12 rfl (s_zald g d_B_takeDisturbance_13 (s_if_ne g d_B_takeDisturbance_14 (by decide) (s_aload_n g d_B_takeDisturbance_19 rfl (s_getR g (c := 3) (j := 2) cok_3 (by decide) rfl mw_161 rfl d_B_takeDisturbance_20 (s_iload_n g d_B_takeDisturbance_23 rfl (s_push_iconst g d_B_takeDisturbance_24 (by decide) (s_zast g d_B_takeDisturbance_25 (s_aload_n g d_B_takeDisturbance_26 rfl (s_dup g d_B_takeDisturbance_27 (s_getI g (c := 3) (j := 3) cok_3 (by decide) rfl mw_162 rfl d_B_takeDisturbance_28 (s_push_iconst g d_B_takeDisturbance_31 (by decide) (s_isub g d_B_takeDisturbance_32 (s_putI g (c := 3) (j := 3) cok_3 (by decide) rfl rfl rfl mw_162 rfl d_B_takeDisturbance_33 (s_push_iconst g d_B_takeDisturbance_36 (by decide) (s_zret0 g hq hr d_B_takeDisturbance_37))))))))))))) (s_push_iconst g d_B_takeDisturbance_17 (by decide) (s_zret0 g hq hr d_B_takeDisturbance_18)))))))))))
def w_B_takeDisturbance : Wp := wpOf 2 (fun _ post => b_B_takeDisturbance_0 post)
theorem C_B_takeDisturbance (l : Launch) : MetS l ({ cls := "BusTelegrams", name := "takeDisturbance", desc := "()Z" } : Jvm.MethodName) prog_1_method_24_code 2 (some .boolean) true 1 0 0 w_B_takeDisturbance := metS_of (by decide +kernel) (fun Z X0 post hZ g hq hr _ => t_B_takeDisturbance_0 g hq hr)
theorem hd_B_takeDisturbance : (({ cls := "BusTelegrams", name := "takeDisturbance", desc := "()Z" } : Jvm.MethodName)).cls = "BusTelegrams" ∧ (({ cls := "BusTelegrams", name := "takeDisturbance", desc := "()Z" } : Jvm.MethodName)).cls ≠ "java/lang/invoke/MethodHandle" ∧ (({ cls := "BusTelegrams", name := "takeDisturbance", desc := "()Z" } : Jvm.MethodName)).cls ≠ "java/lang/invoke/VarHandle" ∧ (parseMethodDescriptor (({ cls := "BusTelegrams", name := "takeDisturbance", desc := "()Z" } : Jvm.MethodName)).desc).map (fun d => d.parameters.length) = some 0 := ⟨rfl, by decide, by decide, by decide +kernel⟩
theorem d_E_takeInCharacter_0 : decode prog_2_method_5_code 0 = .ok (.aload_n 0, 1) := by decide +kernel
theorem d_E_takeInCharacter_1 : decode prog_2_method_5_code 1 = .ok (.dup, 1) := by decide +kernel
theorem d_E_takeInCharacter_2 : decode prog_2_method_5_code 2 = .ok (.getfield 25, 3) := by decide +kernel
theorem d_E_takeInCharacter_5 : decode prog_2_method_5_code 5 = .ok (.iconst 1, 1) := by decide +kernel
theorem d_E_takeInCharacter_6 : decode prog_2_method_5_code 6 = .ok (.iadd, 1) := by decide +kernel
theorem d_E_takeInCharacter_7 : decode prog_2_method_5_code 7 = .ok (.putfield 25, 3) := by decide +kernel
theorem d_E_takeInCharacter_10 : decode prog_2_method_5_code 10 = .ok (.aload_n 0, 1) := by decide +kernel
theorem d_E_takeInCharacter_11 : decode prog_2_method_5_code 11 = .ok (.getfield 25, 3) := by decide +kernel
theorem d_E_takeInCharacter_14 : decode prog_2_method_5_code 14 = .ok (.bipush 11, 2) := by decide +kernel
theorem d_E_takeInCharacter_16 : decode prog_2_method_5_code 16 = .ok (.if_icmp .ne 10, 3) := by decide +kernel
theorem d_E_takeInCharacter_19 : decode prog_2_method_5_code 19 = .ok (.aload_n 0, 1) := by decide +kernel
theorem d_E_takeInCharacter_20 : decode prog_2_method_5_code 20 = .ok (.iload_n 1, 1) := by decide +kernel
theorem d_E_takeInCharacter_21 : decode prog_2_method_5_code 21 = .ok (.iload_n 2, 1) := by decide +kernel
theorem d_E_takeInCharacter_22 : decode prog_2_method_5_code 22 = .ok (.invokevirtual 76, 3) := by decide +kernel
theorem d_E_takeInCharacter_25 : decode prog_2_method_5_code 25 = .ok (.return_, 1) := by decide +kernel
theorem d_E_takeInCharacter_26 : decode prog_2_method_5_code 26 = .ok (.aload_n 0, 1) := by decide +kernel
theorem d_E_takeInCharacter_27 : decode prog_2_method_5_code 27 = .ok (.dup, 1) := by decide +kernel
theorem d_E_takeInCharacter_28 : decode prog_2_method_5_code 28 = .ok (.getfield 31, 3) := by decide +kernel
theorem d_E_takeInCharacter_31 : decode prog_2_method_5_code 31 = .ok (.iload_n 1, 1) := by decide +kernel
theorem d_E_takeInCharacter_32 : decode prog_2_method_5_code 32 = .ok (.iadd, 1) := by decide +kernel
theorem d_E_takeInCharacter_33 : decode prog_2_method_5_code 33 = .ok (.putfield 31, 3) := by decide +kernel
theorem d_E_takeInCharacter_36 : decode prog_2_method_5_code 36 = .ok (.aload_n 0, 1) := by decide +kernel
theorem d_E_takeInCharacter_37 : decode prog_2_method_5_code 37 = .ok (.getfield 25, 3) := by decide +kernel
theorem d_E_takeInCharacter_40 : decode prog_2_method_5_code 40 = .ok (.bipush 10, 2) := by decide +kernel
theorem d_E_takeInCharacter_42 : decode prog_2_method_5_code 42 = .ok (.if_icmp .ge 20, 3) := by decide +kernel
theorem d_E_takeInCharacter_45 : decode prog_2_method_5_code 45 = .ok (.aload_n 0, 1) := by decide +kernel
theorem d_E_takeInCharacter_46 : decode prog_2_method_5_code 46 = .ok (.dup, 1) := by decide +kernel
theorem d_E_takeInCharacter_47 : decode prog_2_method_5_code 47 = .ok (.getfield 28, 3) := by decide +kernel
theorem d_E_takeInCharacter_50 : decode prog_2_method_5_code 50 = .ok (.iload_n 1, 1) := by decide +kernel
theorem d_E_takeInCharacter_51 : decode prog_2_method_5_code 51 = .ok (.aload_n 0, 1) := by decide +kernel
theorem d_E_takeInCharacter_52 : decode prog_2_method_5_code 52 = .ok (.getfield 25, 3) := by decide +kernel
theorem d_E_takeInCharacter_55 : decode prog_2_method_5_code 55 = .ok (.iconst 2, 1) := by decide +kernel
theorem d_E_takeInCharacter_56 : decode prog_2_method_5_code 56 = .ok (.isub, 1) := by decide +kernel
theorem d_E_takeInCharacter_57 : decode prog_2_method_5_code 57 = .ok (.ishl, 1) := by decide +kernel
theorem d_E_takeInCharacter_58 : decode prog_2_method_5_code 58 = .ok (.iadd, 1) := by decide +kernel
theorem d_E_takeInCharacter_59 : decode prog_2_method_5_code 59 = .ok (.putfield 28, 3) := by decide +kernel
theorem d_E_takeInCharacter_62 : decode prog_2_method_5_code 62 = .ok (.return_, 1) := by decide +kernel
def b_E_takeInCharacter_62 (post : Option Value → Mm → Prop) : Kk := (i_vret post)
theorem t_E_takeInCharacter_62 {Z : Zt} {X0 : Mm} {post : Option Value → Mm → Prop} (g : Good Z prog_2_method_5_code 3 "BusTelegrams$Ear" 1) (hq : RetZ Z true X0 0 0 post) (hr : (zM Z).sig.returnType = none) : Snd Z 3 62 (b_E_takeInCharacter_62 post) := by
  unfold b_E_takeInCharacter_62
  exact (s_vret0 g hq hr d_E_takeInCharacter_62)
def b_E_takeInCharacter_0 (post : Option Value → Mm → Prop) : Kk := (i_aload 0 (i_dup (i_getI 0 4 (i_push (.int 1) (i_bin (fun x y => x + y) (i_putI 0 4 (i_aload 0 (i_getI 0 4 (i_push (.int 11) (i_icmp (fun x y => x = y) (i_aload 0 (i_iload 1 (i_iload 2 (i_callV 2 0 w_E_endCharacter (i_vret post))))) (i_aload 0 (i_dup (i_getI 0 6 (i_iload 1 (i_bin (fun x y => x + y) (i_putI 0 6 (i_aload 0 (i_getI 0 4 (i_push (.int 10) (i_icmp (fun x y => y ≤ x) (b_E_takeInCharacter_62 post) (i_aload 0 (i_dup (i_getI 0 5 (i_iload 1 (i_aload 0 (i_getI 0 4 (i_push (.int 2) (i_bin (fun x y => x - y) (i_bin (fun x y => x <<< (y &&& 31)) (i_bin (fun x y => x + y) (i_putI 0 5 (b_E_takeInCharacter_62 post))))))))))))))))))))))))))))))))
theorem t_E_takeInCharacter_0 {Z : Zt} {X0 : Mm} {post : Option Value → Mm → Prop} (g : Good Z prog_2_method_5_code 3 "BusTelegrams$Ear" 1) (hq : RetZ Z true X0 0 0 post) (hr : (zM Z).sig.returnType = none) : Snd Z 3 0 (b_E_takeInCharacter_0 post) := by
  unfold b_E_takeInCharacter_0
  exact (s_aload_n g d_E_takeInCharacter_0 rfl (s_dup g d_E_takeInCharacter_1 (s_getI g (c := 0) (j := 4) cok_0 (by decide) rfl mw_33 rfl d_E_takeInCharacter_2 (s_push_iconst g d_E_takeInCharacter_5 (by decide) (s_iadd g d_E_takeInCharacter_6 (s_putI g (c := 0) (j := 4) cok_0 (by decide) rfl rfl rfl mw_33 rfl d_E_takeInCharacter_7 (s_aload_n g d_E_takeInCharacter_10 rfl (s_getI g (c := 0) (j := 4) cok_0 (by decide) rfl mw_33 rfl d_E_takeInCharacter_11 (s_push_bipush g d_E_takeInCharacter_14 (by decide) (s_icmp_ne g d_E_takeInCharacter_16 (by decide) (s_aload_n g d_E_takeInCharacter_26 rfl (s_dup g d_E_takeInCharacter_27 (s_getI g (c := 0) (j := 6) cok_0 (by decide) rfl mw_35 rfl d_E_takeInCharacter_28 (s_iload_n g d_E_takeInCharacter_31 rfl (s_iadd g d_E_takeInCharacter_32 (s_putI g (c := 0) (j := 6) cok_0 (by decide) rfl rfl rfl mw_35 rfl d_E_takeInCharacter_33 (s_aload_n g d_E_takeInCharacter_36 rfl (s_getI g (c := 0) (j := 4) cok_0 (by decide) rfl mw_33 rfl d_E_takeInCharacter_37 (s_push_bipush g d_E_takeInCharacter_40 (by decide) (s_icmp_ge g d_E_takeInCharacter_42 (by decide) (t_E_takeInCharacter_62 g hq hr) (s_aload_n g d_E_takeInCharacter_45 rfl (s_dup g d_E_takeInCharacter_46 (s_getI g (c := 0) (j := 5) cok_0 (by decide) rfl mw_34 rfl d_E_takeInCharacter_47 (s_iload_n g d_E_takeInCharacter_50 rfl (s_aload_n g d_E_takeInCharacter_51 rfl (s_getI g (c := 0) (j := 4) cok_0 (by decide) rfl mw_33 rfl d_E_takeInCharacter_52 (s_push_iconst g d_E_takeInCharacter_55 (by decide) (s_isub g d_E_takeInCharacter_56 (s_ishl g d_E_takeInCharacter_57 (s_iadd g d_E_takeInCharacter_58 (s_putI g (c := 0) (j := 5) cok_0 (by decide) rfl rfl rfl mw_34 rfl d_E_takeInCharacter_59 (t_E_takeInCharacter_62 g hq hr)))))))))))))))))))))) (s_aload_n g d_E_takeInCharacter_19 rfl (s_iload_n g d_E_takeInCharacter_20 rfl (s_iload_n g d_E_takeInCharacter_21 rfl (s_callV g (C_E_endCharacter (zl Z)) (gin_V mw_456 mw_458 ms_8 mw_2 mw_459) hd_E_endCharacter rfl (by decide) (by decide) (by decide) d_E_takeInCharacter_22 (s_vret0 g hq hr d_E_takeInCharacter_25)))))))))))))))
def w_E_takeInCharacter : Wp := wpOf 3 (fun _ post => b_E_takeInCharacter_0 post)
theorem C_E_takeInCharacter (l : Launch) : MetS l ({ cls := "BusTelegrams$Ear", name := "takeInCharacter", desc := "(II)V" } : Jvm.MethodName) prog_2_method_5_code 3 none true 1 0 0 w_E_takeInCharacter := metS_of (by decide +kernel) (fun Z X0 post hZ g hq hr _ => t_E_takeInCharacter_0 g hq hr)
theorem hd_E_takeInCharacter : (({ cls := "BusTelegrams$Ear", name := "takeInCharacter", desc := "(II)V" } : Jvm.MethodName)).cls = "BusTelegrams$Ear" ∧ (({ cls := "BusTelegrams$Ear", name := "takeInCharacter", desc := "(II)V" } : Jvm.MethodName)).cls ≠ "java/lang/invoke/MethodHandle" ∧ (({ cls := "BusTelegrams$Ear", name := "takeInCharacter", desc := "(II)V" } : Jvm.MethodName)).cls ≠ "java/lang/invoke/VarHandle" ∧ (parseMethodDescriptor (({ cls := "BusTelegrams$Ear", name := "takeInCharacter", desc := "(II)V" } : Jvm.MethodName)).desc).map (fun d => d.parameters.length) = some 2 := ⟨rfl, by decide, by decide, by decide +kernel⟩
theorem d_E_complete_0 : decode prog_2_method_8_code 0 = .ok (.aload_n 0, 1) := by decide +kernel
theorem d_E_complete_1 : decode prog_2_method_8_code 1 = .ok (.getfield 37, 3) := by decide +kernel
theorem d_E_complete_4 : decode prog_2_method_8_code 4 = .ok (.ifCond .ne 17, 3) := by decide +kernel
theorem d_E_complete_7 : decode prog_2_method_8_code 7 = .ok (.aload_n 0, 1) := by decide +kernel
theorem d_E_complete_8 : decode prog_2_method_8_code 8 = .ok (.getfield 34, 3) := by decide +kernel
theorem d_E_complete_11 : decode prog_2_method_8_code 11 = .ok (.bipush 8, 2) := by decide +kernel
theorem d_E_complete_13 : decode prog_2_method_8_code 13 = .ok (.if_icmp .lt 8, 3) := by decide +kernel
theorem d_E_complete_16 : decode prog_2_method_8_code 16 = .ok (.aload_n 0, 1) := by decide +kernel
theorem d_E_complete_17 : decode prog_2_method_8_code 17 = .ok (.invokevirtual 82, 3) := by decide +kernel
theorem d_E_complete_20 : decode prog_2_method_8_code 20 = .ok (.return_, 1) := by decide +kernel
theorem d_E_complete_21 : decode prog_2_method_8_code 21 = .ok (.aload_n 0, 1) := by decide +kernel
theorem d_E_complete_22 : decode prog_2_method_8_code 22 = .ok (.iconst 1, 1) := by decide +kernel
theorem d_E_complete_23 : decode prog_2_method_8_code 23 = .ok (.putfield 59, 3) := by decide +kernel
theorem d_E_complete_26 : decode prog_2_method_8_code 26 = .ok (.aload_n 0, 1) := by decide +kernel
theorem d_E_complete_27 : decode prog_2_method_8_code 27 = .ok (.getfield 37, 3) := by decide +kernel
theorem d_E_complete_30 : decode prog_2_method_8_code 30 = .ok (.ifCond .ne 62, 3) := by decide +kernel
theorem d_E_complete_33 : decode prog_2_method_8_code 33 = .ok (.aload_n 0, 1) := by decide +kernel
theorem d_E_complete_34 : decode prog_2_method_8_code 34 = .ok (.getfield 34, 3) := by decide +kernel
theorem d_E_complete_37 : decode prog_2_method_8_code 37 = .ok (.iconst 1, 1) := by decide +kernel
theorem d_E_complete_38 : decode prog_2_method_8_code 38 = .ok (.if_icmp .ne 54, 3) := by decide +kernel
theorem d_E_complete_41 : decode prog_2_method_8_code 41 = .ok (.aload_n 0, 1) := by decide +kernel
theorem d_E_complete_42 : decode prog_2_method_8_code 42 = .ok (.getfield 41, 3) := by decide +kernel
theorem d_E_complete_45 : decode prog_2_method_8_code 45 = .ok (.aload_n 0, 1) := by decide +kernel
theorem d_E_complete_46 : decode prog_2_method_8_code 46 = .ok (.getfield 50, 3) := by decide +kernel
theorem d_E_complete_49 : decode prog_2_method_8_code 49 = .ok (.bipush 14, 2) := by decide +kernel
theorem d_E_complete_51 : decode prog_2_method_8_code 51 = .ok (.iadd, 1) := by decide +kernel
theorem d_E_complete_52 : decode prog_2_method_8_code 52 = .ok (.if_icmp .ne 40, 3) := by decide +kernel
theorem d_E_complete_55 : decode prog_2_method_8_code 55 = .ok (.aload_n 0, 1) := by decide +kernel
theorem d_E_complete_56 : decode prog_2_method_8_code 56 = .ok (.aload_n 0, 1) := by decide +kernel
theorem d_E_complete_57 : decode prog_2_method_8_code 57 = .ok (.getfield 11, 3) := by decide +kernel
theorem d_E_complete_60 : decode prog_2_method_8_code 60 = .ok (.iconst 0, 1) := by decide +kernel
theorem d_E_complete_61 : decode prog_2_method_8_code 61 = .ok (.iaload, 1) := by decide +kernel
theorem d_E_complete_62 : decode prog_2_method_8_code 62 = .ok (.putfield 56, 3) := by decide +kernel
theorem d_E_complete_65 : decode prog_2_method_8_code 65 = .ok (.aload_n 0, 1) := by decide +kernel
theorem d_E_complete_66 : decode prog_2_method_8_code 66 = .ok (.getfield 18, 3) := by decide +kernel
theorem d_E_complete_69 : decode prog_2_method_8_code 69 = .ok (.aload_n 0, 1) := by decide +kernel
theorem d_E_complete_70 : decode prog_2_method_8_code 70 = .ok (.getfield 56, 3) := by decide +kernel
theorem d_E_complete_73 : decode prog_2_method_8_code 73 = .ok (.sipush 204, 3) := by decide +kernel
theorem d_E_complete_76 : decode prog_2_method_8_code 76 = .ok (.if_icmp .ne 7, 3) := by decide +kernel
theorem d_E_complete_79 : decode prog_2_method_8_code 79 = .ok (.iconst 3, 1) := by decide +kernel
theorem d_E_complete_80 : decode prog_2_method_8_code 80 = .ok (.goto 4, 3) := by decide +kernel
theorem d_E_complete_83 : decode prog_2_method_8_code 83 = .ok (.iconst 4, 1) := by decide +kernel
theorem d_E_complete_84 : decode prog_2_method_8_code 84 = .ok (.dup2, 1) := by decide +kernel
theorem d_E_complete_85 : decode prog_2_method_8_code 85 = .ok (.iaload, 1) := by decide +kernel
theorem d_E_complete_86 : decode prog_2_method_8_code 86 = .ok (.iconst 1, 1) := by decide +kernel
theorem d_E_complete_87 : decode prog_2_method_8_code 87 = .ok (.iadd, 1) := by decide +kernel
theorem d_E_complete_88 : decode prog_2_method_8_code 88 = .ok (.iastore, 1) := by decide +kernel
theorem d_E_complete_89 : decode prog_2_method_8_code 89 = .ok (.goto 13, 3) := by decide +kernel
theorem d_E_complete_92 : decode prog_2_method_8_code 92 = .ok (.aload_n 0, 1) := by decide +kernel
theorem d_E_complete_93 : decode prog_2_method_8_code 93 = .ok (.getfield 18, 3) := by decide +kernel
theorem d_E_complete_96 : decode prog_2_method_8_code 96 = .ok (.iconst 2, 1) := by decide +kernel
theorem d_E_complete_97 : decode prog_2_method_8_code 97 = .ok (.dup2, 1) := by decide +kernel
theorem d_E_complete_98 : decode prog_2_method_8_code 98 = .ok (.iaload, 1) := by decide +kernel
theorem d_E_complete_99 : decode prog_2_method_8_code 99 = .ok (.iconst 1, 1) := by decide +kernel
theorem d_E_complete_100 : decode prog_2_method_8_code 100 = .ok (.iadd, 1) := by decide +kernel
theorem d_E_complete_101 : decode prog_2_method_8_code 101 = .ok (.iastore, 1) := by decide +kernel
theorem d_E_complete_102 : decode prog_2_method_8_code 102 = .ok (.return_, 1) := by decide +kernel
def b_E_complete_102 (post : Option Value → Mm → Prop) : Kk := (i_vret post)
theorem t_E_complete_102 {Z : Zt} {X0 : Mm} {post : Option Value → Mm → Prop} (g : Good Z prog_2_method_8_code 1 "BusTelegrams$Ear" 1) (hq : RetZ Z true X0 0 0 post) (hr : (zM Z).sig.returnType = none) : Snd Z 1 102 (b_E_complete_102 post) := by
  unfold b_E_complete_102
  exact (s_vret0 g hq hr d_E_complete_102)
def b_E_complete_92 (post : Option Value → Mm → Prop) : Kk := (i_aload 0 (i_getR 0 2 (i_push (.int 2) (i_dup2 (i_ald 10 (i_push (.int 1) (i_bin (fun x y => x + y) (i_ast (b_E_complete_102 post)))))))))
theorem t_E_complete_92 {Z : Zt} {X0 : Mm} {post : Option Value → Mm → Prop} (g : Good Z prog_2_method_8_code 1 "BusTelegrams$Ear" 1) (hq : RetZ Z true X0 0 0 post) (hr : (zM Z).sig.returnType = none) : Snd Z 1 92 (b_E_complete_92 post) := by
  unfold b_E_complete_92
  exact (s_aload_n g d_E_complete_92 rfl (s_getR g (c := 0) (j := 2) cok_0 (by decide) rfl mw_31 rfl d_E_complete_93 (s_push_iconst g d_E_complete_96 (by decide) (s_dup2 g d_E_complete_97 (s_iald g d_E_complete_98 (s_push_iconst g d_E_complete_99 (by decide) (s_iadd g d_E_complete_100 (s_iast g d_E_complete_101 (t_E_complete_102 g hq hr)))))))))
def b_E_complete_84 (post : Option Value → Mm → Prop) : Kk := (i_dup2 (i_ald 10 (i_push (.int 1) (i_bin (fun x y => x + y) (i_ast (b_E_complete_102 post))))))
theorem t_E_complete_84 {Z : Zt} {X0 : Mm} {post : Option Value → Mm → Prop} (g : Good Z prog_2_method_8_code 1 "BusTelegrams$Ear" 1) (hq : RetZ Z true X0 0 0 post) (hr : (zM Z).sig.returnType = none) : Snd Z 1 84 (b_E_complete_84 post) := by
  unfold b_E_complete_84
  exact (s_dup2 g d_E_complete_84 (s_iald g d_E_complete_85 (s_push_iconst g d_E_complete_86 (by decide) (s_iadd g d_E_complete_87 (s_iast g d_E_complete_88 (s_goto g d_E_complete_89 (by decide) (t_E_complete_102 g hq hr)))))))
def b_E_complete_21 (post : Option Value → Mm → Prop) : Kk := (i_aload 0 (i_push (.int 1) (i_putZ 0 15 (i_aload 0 (i_getI 0 8 (i_if (fun x y => x = y) (i_aload 0 (i_getI 0 7 (i_push (.int 1) (i_icmp (fun x y => x = y) (i_aload 0 (i_getI 0 9 (i_aload 0 (i_getI 0 12 (i_push (.int 14) (i_bin (fun x y => x + y) (i_icmp (fun x y => x = y) (i_aload 0 (i_aload 0 (i_getR 0 0 (i_push (.int 0) (i_ald 10 (i_putI 0 14 (i_aload 0 (i_getR 0 2 (i_aload 0 (i_getI 0 14 (i_push (.int 204) (i_icmp (fun x y => x = y) (i_push (.int 3) (b_E_complete_84 post)) (i_push (.int 4) (b_E_complete_84 post)))))))))))))) (b_E_complete_92 post)))))))) (b_E_complete_92 post))))) (b_E_complete_92 post)))))))
theorem t_E_complete_21 {Z : Zt} {X0 : Mm} {post : Option Value → Mm → Prop} (g : Good Z prog_2_method_8_code 1 "BusTelegrams$Ear" 1) (hq : RetZ Z true X0 0 0 post) (hr : (zM Z).sig.returnType = none) : Snd Z 1 21 (b_E_complete_21 post) := by
  unfold b_E_complete_21
  exact (s_aload_n g d_E_complete_21 rfl (s_push_iconst g d_E_complete_22 (by decide) (s_putZ g (c := 0) (j := 15) cok_0 (by decide) rfl rfl rfl mw_47 rfl d_E_complete_23 (s_aload_n g d_E_complete_26 rfl (s_getI g (c := 0) (j := 8) cok_0 (by decide) rfl mw_37 rfl d_E_complete_27 (s_if_ne g d_E_complete_30 (by decide) (t_E_complete_92 g hq hr) (s_aload_n g d_E_complete_33 rfl (s_getI g (c := 0) (j := 7) cok_0 (by decide) rfl mw_36 rfl d_E_complete_34 (s_push_iconst g d_E_complete_37 (by decide) (s_icmp_ne g d_E_complete_38 (by decide) (t_E_complete_92 g hq hr) (s_aload_n g d_E_complete_41 rfl (s_getI g (c := 0) (j := 9) cok_0 (by decide) rfl mw_38 rfl d_E_complete_42 (s_aload_n g d_E_complete_45 rfl (s_getI g (c := 0) (j := 12) cok_0 (by decide) rfl mw_42 rfl d_E_complete_46 (s_push_bipush g d_E_complete_49 (by decide) (s_iadd g d_E_complete_51 (s_icmp_ne g d_E_complete_52 (by decide) (t_E_complete_92 g hq hr) (s_aload_n g d_E_complete_55 rfl (s_aload_n g d_E_complete_56 rfl (s_getR g (c := 0) (j := 0) cok_0 (by decide) rfl mw_29 rfl d_E_complete_57 (s_push_iconst g d_E_complete_60 (by decide) (s_iald g d_E_complete_61 (s_putI g (c := 0) (j := 14) cok_0 (by decide) rfl rfl rfl mw_45 rfl d_E_complete_62 (s_aload_n g d_E_complete_65 rfl (s_getR g (c := 0) (j := 2) cok_0 (by decide) rfl mw_31 rfl d_E_complete_66 (s_aload_n g d_E_complete_69 rfl (s_getI g (c := 0) (j := 14) cok_0 (by decide) rfl mw_45 rfl d_E_complete_70 (s_push_sipush g d_E_complete_73 (by decide) (s_icmp_ne g d_E_complete_76 (by decide) (s_push_iconst g d_E_complete_83 (by decide) (t_E_complete_84 g hq hr)) (s_push_iconst g d_E_complete_79 (by decide) (s_goto g d_E_complete_80 (by decide) (t_E_complete_84 g hq hr))))))))))))))))))))))))))))))))
def b_E_complete_0 (post : Option Value → Mm → Prop) : Kk := (i_aload 0 (i_getI 0 8 (i_if (fun x y => x = y) (i_aload 0 (i_getI 0 7 (i_push (.int 8) (i_icmp (fun x y => x < y) (b_E_complete_21 post) (i_aload 0 (i_callV 0 0 w_E_completeTelegram (i_vret post))))))) (b_E_complete_21 post))))
theorem t_E_complete_0 {Z : Zt} {X0 : Mm} {post : Option Value → Mm → Prop} (g : Good Z prog_2_method_8_code 1 "BusTelegrams$Ear" 1) (hq : RetZ Z true X0 0 0 post) (hr : (zM Z).sig.returnType = none) : Snd Z 1 0 (b_E_complete_0 post) := by
  unfold b_E_complete_0
  exact (s_aload_n g d_E_complete_0 rfl (s_getI g (c := 0) (j := 8) cok_0 (by decide) rfl mw_37 rfl d_E_complete_1 (s_if_ne g d_E_complete_4 (by decide) (t_E_complete_21 g hq hr) (s_aload_n g d_E_complete_7 rfl (s_getI g (c := 0) (j := 7) cok_0 (by decide) rfl mw_36 rfl d_E_complete_8 (s_push_bipush g d_E_complete_11 (by decide) (s_icmp_lt g d_E_complete_13 (by decide) (t_E_complete_21 g hq hr) (s_aload_n g d_E_complete_16 rfl (s_callV g (C_E_completeTelegram (zl Z)) (gin_V mw_472 mw_474 ms_12 mw_2 mw_475) hd_E_completeTelegram rfl (by decide) (by decide) (by decide) d_E_complete_17 (s_vret0 g hq hr d_E_complete_20))))))))))
def w_E_complete : Wp := wpOf 1 (fun _ post => b_E_complete_0 post)
theorem C_E_complete (l : Launch) : MetS l ({ cls := "BusTelegrams$Ear", name := "complete", desc := "()V" } : Jvm.MethodName) prog_2_method_8_code 1 none true 1 0 0 w_E_complete := metS_of (by decide +kernel) (fun Z X0 post hZ g hq hr _ => t_E_complete_0 g hq hr)
theorem hd_E_complete : (({ cls := "BusTelegrams$Ear", name := "complete", desc := "()V" } : Jvm.MethodName)).cls = "BusTelegrams$Ear" ∧ (({ cls := "BusTelegrams$Ear", name := "complete", desc := "()V" } : Jvm.MethodName)).cls ≠ "java/lang/invoke/MethodHandle" ∧ (({ cls := "BusTelegrams$Ear", name := "complete", desc := "()V" } : Jvm.MethodName)).cls ≠ "java/lang/invoke/VarHandle" ∧ (parseMethodDescriptor (({ cls := "BusTelegrams$Ear", name := "complete", desc := "()V" } : Jvm.MethodName)).desc).map (fun d => d.parameters.length) = some 0 := ⟨rfl, by decide, by decide, by decide +kernel⟩
theorem d_E_begin_0 : decode prog_2_method_3_code 0 = .ok (.aload_n 0, 1) := by decide +kernel
theorem d_E_begin_1 : decode prog_2_method_3_code 1 = .ok (.iload_n 1, 1) := by decide +kernel
theorem d_E_begin_2 : decode prog_2_method_3_code 2 = .ok (.putfield 41, 3) := by decide +kernel
theorem d_E_begin_5 : decode prog_2_method_3_code 5 = .ok (.aload_n 0, 1) := by decide +kernel
theorem d_E_begin_6 : decode prog_2_method_3_code 6 = .ok (.iconst 0, 1) := by decide +kernel
theorem d_E_begin_7 : decode prog_2_method_3_code 7 = .ok (.putfield 34, 3) := by decide +kernel
theorem d_E_begin_10 : decode prog_2_method_3_code 10 = .ok (.aload_n 0, 1) := by decide +kernel
theorem d_E_begin_11 : decode prog_2_method_3_code 11 = .ok (.iconst 0, 1) := by decide +kernel
theorem d_E_begin_12 : decode prog_2_method_3_code 12 = .ok (.putfield 37, 3) := by decide +kernel
theorem d_E_begin_15 : decode prog_2_method_3_code 15 = .ok (.aload_n 0, 1) := by decide +kernel
theorem d_E_begin_16 : decode prog_2_method_3_code 16 = .ok (.invokevirtual 73, 3) := by decide +kernel
theorem d_E_begin_19 : decode prog_2_method_3_code 19 = .ok (.return_, 1) := by decide +kernel
def b_E_begin_0 (post : Option Value → Mm → Prop) : Kk := (i_aload 0 (i_iload 1 (i_putI 0 9 (i_aload 0 (i_push (.int 0) (i_putI 0 7 (i_aload 0 (i_push (.int 0) (i_putZ 0 8 (i_aload 0 (i_callV 0 0 w_E_beginCharacter (i_vret post))))))))))))
theorem t_E_begin_0 {Z : Zt} {X0 : Mm} {post : Option Value → Mm → Prop} (g : Good Z prog_2_method_3_code 2 "BusTelegrams$Ear" 1) (hq : RetZ Z true X0 0 0 post) (hr : (zM Z).sig.returnType = none) : Snd Z 2 0 (b_E_begin_0 post) := by
  unfold b_E_begin_0
  exact (s_aload_n g d_E_begin_0 rfl (s_iload_n g d_E_begin_1 rfl (s_putI g (c := 0) (j := 9) cok_0 (by decide) rfl rfl rfl mw_38 rfl d_E_begin_2 (s_aload_n g d_E_begin_5 rfl (s_push_iconst g d_E_begin_6 (by decide) (s_putI g (c := 0) (j := 7) cok_0 (by decide) rfl rfl rfl mw_36 rfl d_E_begin_7 (s_aload_n g d_E_begin_10 rfl (s_push_iconst g d_E_begin_11 (by decide) (s_putZ g (c := 0) (j := 8) cok_0 (by decide) rfl rfl rfl mw_37 rfl d_E_begin_12 (s_aload_n g d_E_begin_15 rfl (s_callV g (C_E_beginCharacter (zl Z)) (gin_V mw_464 mw_466 ms_10 mw_2 mw_467) hd_E_beginCharacter rfl (by decide) (by decide) (by decide) d_E_begin_16 (s_vret0 g hq hr d_E_begin_19))))))))))))
def w_E_begin : Wp := wpOf 2 (fun _ post => b_E_begin_0 post)
theorem C_E_begin (l : Launch) : MetS l ({ cls := "BusTelegrams$Ear", name := "begin", desc := "(I)V" } : Jvm.MethodName) prog_2_method_3_code 2 none true 1 0 0 w_E_begin := metS_of (by decide +kernel) (fun Z X0 post hZ g hq hr _ => t_E_begin_0 g hq hr)
theorem hd_E_begin : (({ cls := "BusTelegrams$Ear", name := "begin", desc := "(I)V" } : Jvm.MethodName)).cls = "BusTelegrams$Ear" ∧ (({ cls := "BusTelegrams$Ear", name := "begin", desc := "(I)V" } : Jvm.MethodName)).cls ≠ "java/lang/invoke/MethodHandle" ∧ (({ cls := "BusTelegrams$Ear", name := "begin", desc := "(I)V" } : Jvm.MethodName)).cls ≠ "java/lang/invoke/VarHandle" ∧ (parseMethodDescriptor (({ cls := "BusTelegrams$Ear", name := "begin", desc := "(I)V" } : Jvm.MethodName)).desc).map (fun d => d.parameters.length) = some 1 := ⟨rfl, by decide, by decide, by decide +kernel⟩
theorem d_S_addToQueue_0 : decode prog_3_method_2_code 0 = .ok (.aload_n 0, 1) := by decide +kernel
theorem d_S_addToQueue_1 : decode prog_3_method_2_code 1 = .ok (.aload_n 0, 1) := by decide +kernel
theorem d_S_addToQueue_2 : decode prog_3_method_2_code 2 = .ok (.getfield 29, 3) := by decide +kernel
theorem d_S_addToQueue_5 : decode prog_3_method_2_code 5 = .ok (.invokevirtual 63, 3) := by decide +kernel
theorem d_S_addToQueue_8 : decode prog_3_method_2_code 8 = .ok (.astore_n 1, 1) := by decide +kernel
theorem d_S_addToQueue_9 : decode prog_3_method_2_code 9 = .ok (.aload_n 0, 1) := by decide +kernel
theorem d_S_addToQueue_10 : decode prog_3_method_2_code 10 = .ok (.dup, 1) := by decide +kernel
theorem d_S_addToQueue_11 : decode prog_3_method_2_code 11 = .ok (.getfield 29, 3) := by decide +kernel
theorem d_S_addToQueue_14 : decode prog_3_method_2_code 14 = .ok (.iconst 1, 1) := by decide +kernel
theorem d_S_addToQueue_15 : decode prog_3_method_2_code 15 = .ok (.iadd, 1) := by decide +kernel
theorem d_S_addToQueue_16 : decode prog_3_method_2_code 16 = .ok (.putfield 29, 3) := by decide +kernel
theorem d_S_addToQueue_19 : decode prog_3_method_2_code 19 = .ok (.aload_n 1, 1) := by decide +kernel
theorem d_S_addToQueue_20 : decode prog_3_method_2_code 20 = .ok (.areturn, 1) := by decide +kernel
def b_S_addToQueue_0 (post : Option Value → Mm → Prop) : Kk := (i_aload 0 (i_aload 0 (i_getI 1 5 (i_callV 1 1 w_S_queueAt (i_astore 1 (i_aload 0 (i_dup (i_getI 1 5 (i_push (.int 1) (i_bin (fun x y => x + y) (i_putI 1 5 (i_aload 1 (i_aret post)))))))))))))
theorem t_S_addToQueue_0 {Z : Zt} {X0 : Mm} {post : Option Value → Mm → Prop} (g : Good Z prog_3_method_2_code 2 "BusTelegrams$Station" 2) (hq : RetZ Z true X0 0 0 post) (hr : (zM Z).sig.returnType = (some (.object "BusTelegrams$Telegram"))) : Snd Z 2 0 (b_S_addToQueue_0 post) := by
  unfold b_S_addToQueue_0
  exact (s_aload_n g d_S_addToQueue_0 rfl (s_aload_n g d_S_addToQueue_1 rfl (s_getI g (c := 1) (j := 5) cok_1 (by decide) rfl mw_117 rfl d_S_addToQueue_2 (s_callV g (C_S_queueAt (zl Z)) (gin_V mw_326 mw_328 ms_1 mw_3 mw_329) hd_S_queueAt rfl (by decide) (by decide) (by decide) d_S_addToQueue_5 (s_astore_n g (by decide) d_S_addToQueue_8 rfl (s_aload_n g d_S_addToQueue_9 rfl (s_dup g d_S_addToQueue_10 (s_getI g (c := 1) (j := 5) cok_1 (by decide) rfl mw_117 rfl d_S_addToQueue_11 (s_push_iconst g d_S_addToQueue_14 (by decide) (s_iadd g d_S_addToQueue_15 (s_putI g (c := 1) (j := 5) cok_1 (by decide) rfl rfl rfl mw_117 rfl d_S_addToQueue_16 (s_aload_n g d_S_addToQueue_19 rfl (s_aret0 g hq hr d_S_addToQueue_20)))))))))))))
def w_S_addToQueue : Wp := wpOf 2 (fun _ post => b_S_addToQueue_0 post)
theorem C_S_addToQueue (l : Launch) : MetS l ({ cls := "BusTelegrams$Station", name := "addToQueue", desc := "()LBusTelegrams$Telegram;" } : Jvm.MethodName) prog_3_method_2_code 2 (some (.object "BusTelegrams$Telegram")) true 2 0 0 w_S_addToQueue := metS_of (by decide +kernel) (fun Z X0 post hZ g hq hr _ => t_S_addToQueue_0 g hq hr)
theorem hd_S_addToQueue : (({ cls := "BusTelegrams$Station", name := "addToQueue", desc := "()LBusTelegrams$Telegram;" } : Jvm.MethodName)).cls = "BusTelegrams$Station" ∧ (({ cls := "BusTelegrams$Station", name := "addToQueue", desc := "()LBusTelegrams$Telegram;" } : Jvm.MethodName)).cls ≠ "java/lang/invoke/MethodHandle" ∧ (({ cls := "BusTelegrams$Station", name := "addToQueue", desc := "()LBusTelegrams$Telegram;" } : Jvm.MethodName)).cls ≠ "java/lang/invoke/VarHandle" ∧ (parseMethodDescriptor (({ cls := "BusTelegrams$Station", name := "addToQueue", desc := "()LBusTelegrams$Telegram;" } : Jvm.MethodName)).desc).map (fun d => d.parameters.length) = some 0 := ⟨rfl, by decide, by decide, by decide +kernel⟩
theorem d_S_nextAnswerBit_0 : decode prog_3_method_7_code 0 = .ok (.aload_n 0, 1) := by decide +kernel
theorem d_S_nextAnswerBit_1 : decode prog_3_method_7_code 1 = .ok (.getfield 47, 3) := by decide +kernel
theorem d_S_nextAnswerBit_4 : decode prog_3_method_7_code 4 = .ok (.aload_n 0, 1) := by decide +kernel
theorem d_S_nextAnswerBit_5 : decode prog_3_method_7_code 5 = .ok (.getfield 44, 3) := by decide +kernel
theorem d_S_nextAnswerBit_8 : decode prog_3_method_7_code 8 = .ok (.invokestatic 84, 3) := by decide +kernel
theorem d_S_nextAnswerBit_11 : decode prog_3_method_7_code 11 = .ok (.istore_n 1, 1) := by decide +kernel
theorem d_S_nextAnswerBit_12 : decode prog_3_method_7_code 12 = .ok (.aload_n 0, 1) := by decide +kernel
theorem d_S_nextAnswerBit_13 : decode prog_3_method_7_code 13 = .ok (.aload_n 0, 1) := by decide +kernel
theorem d_S_nextAnswerBit_14 : decode prog_3_method_7_code 14 = .ok (.getfield 44, 3) := by decide +kernel
theorem d_S_nextAnswerBit_17 : decode prog_3_method_7_code 17 = .ok (.iconst 1, 1) := by decide +kernel
theorem d_S_nextAnswerBit_18 : decode prog_3_method_7_code 18 = .ok (.iadd, 1) := by decide +kernel
theorem d_S_nextAnswerBit_19 : decode prog_3_method_7_code 19 = .ok (.bipush 11, 2) := by decide +kernel
theorem d_S_nextAnswerBit_21 : decode prog_3_method_7_code 21 = .ok (.if_icmp .ge 12, 3) := by decide +kernel
theorem d_S_nextAnswerBit_24 : decode prog_3_method_7_code 24 = .ok (.aload_n 0, 1) := by decide +kernel
theorem d_S_nextAnswerBit_25 : decode prog_3_method_7_code 25 = .ok (.getfield 44, 3) := by decide +kernel
theorem d_S_nextAnswerBit_28 : decode prog_3_method_7_code 28 = .ok (.iconst 1, 1) := by decide +kernel
theorem d_S_nextAnswerBit_29 : decode prog_3_method_7_code 29 = .ok (.iadd, 1) := by decide +kernel
theorem d_S_nextAnswerBit_30 : decode prog_3_method_7_code 30 = .ok (.goto 4, 3) := by decide +kernel
theorem d_S_nextAnswerBit_33 : decode prog_3_method_7_code 33 = .ok (.iconst (-1), 1) := by decide +kernel
theorem d_S_nextAnswerBit_34 : decode prog_3_method_7_code 34 = .ok (.putfield 44, 3) := by decide +kernel
theorem d_S_nextAnswerBit_37 : decode prog_3_method_7_code 37 = .ok (.iload_n 1, 1) := by decide +kernel
theorem d_S_nextAnswerBit_38 : decode prog_3_method_7_code 38 = .ok (.ireturn, 1) := by decide +kernel
def b_S_nextAnswerBit_34 (post : Option Value → Mm → Prop) : Kk := (i_putI 1 10 (i_iload 1 (i_iret post)))
theorem t_S_nextAnswerBit_34 {Z : Zt} {X0 : Mm} {post : Option Value → Mm → Prop} (g : Good Z prog_3_method_7_code 2 "BusTelegrams$Station" 2) (hq : RetZ Z true X0 0 0 post) (hr : (zM Z).sig.returnType = (some .int)) : Snd Z 2 34 (b_S_nextAnswerBit_34 post) := by
  unfold b_S_nextAnswerBit_34
  exact (s_putI g (c := 1) (j := 10) cok_1 (by decide) rfl rfl rfl mw_123 rfl d_S_nextAnswerBit_34 (s_iload_n g d_S_nextAnswerBit_37 rfl (s_iret0 g hq hr d_S_nextAnswerBit_38)))
def b_S_nextAnswerBit_0 (post : Option Value → Mm → Prop) : Kk := (i_aload 0 (i_getI 1 11 (i_aload 0 (i_getI 1 10 (i_callS 2 w_B_characterBit (i_istore 1 (i_aload 0 (i_aload 0 (i_getI 1 10 (i_push (.int 1) (i_bin (fun x y => x + y) (i_push (.int 11) (i_icmp (fun x y => y ≤ x) (i_push (.int (-1)) (b_S_nextAnswerBit_34 post)) (i_aload 0 (i_getI 1 10 (i_push (.int 1) (i_bin (fun x y => x + y) (b_S_nextAnswerBit_34 post))))))))))))))))))
theorem t_S_nextAnswerBit_0 {Z : Zt} {X0 : Mm} {post : Option Value → Mm → Prop} (g : Good Z prog_3_method_7_code 2 "BusTelegrams$Station" 2) (hq : RetZ Z true X0 0 0 post) (hr : (zM Z).sig.returnType = (some .int)) : Snd Z 2 0 (b_S_nextAnswerBit_0 post) := by
  unfold b_S_nextAnswerBit_0
  exact (s_aload_n g d_S_nextAnswerBit_0 rfl (s_getI g (c := 1) (j := 11) cok_1 (by decide) rfl mw_124 rfl d_S_nextAnswerBit_1 (s_aload_n g d_S_nextAnswerBit_4 rfl (s_getI g (c := 1) (j := 10) cok_1 (by decide) rfl mw_123 rfl d_S_nextAnswerBit_5 (s_callSN g (C_B_characterBit (zl Z)) mn_413 mw_414 mw_1 mw_415 hd_B_characterBit (by decide) (by decide) d_S_nextAnswerBit_8 (s_istore_n g (by decide) d_S_nextAnswerBit_11 rfl (s_aload_n g d_S_nextAnswerBit_12 rfl (s_aload_n g d_S_nextAnswerBit_13 rfl (s_getI g (c := 1) (j := 10) cok_1 (by decide) rfl mw_123 rfl d_S_nextAnswerBit_14 (s_push_iconst g d_S_nextAnswerBit_17 (by decide) (s_iadd g d_S_nextAnswerBit_18 (s_push_bipush g d_S_nextAnswerBit_19 (by decide) (s_icmp_ge g d_S_nextAnswerBit_21 (by decide) (s_push_iconst g d_S_nextAnswerBit_33 (by decide) (t_S_nextAnswerBit_34 g hq hr)) (s_aload_n g d_S_nextAnswerBit_24 rfl (s_getI g (c := 1) (j := 10) cok_1 (by decide) rfl mw_123 rfl d_S_nextAnswerBit_25 (s_push_iconst g d_S_nextAnswerBit_28 (by decide) (s_iadd g d_S_nextAnswerBit_29 (s_goto g d_S_nextAnswerBit_30 (by decide) (t_S_nextAnswerBit_34 g hq hr)))))))))))))))))))
def w_S_nextAnswerBit : Wp := wpOf 2 (fun _ post => b_S_nextAnswerBit_0 post)
theorem C_S_nextAnswerBit (l : Launch) : MetS l ({ cls := "BusTelegrams$Station", name := "nextAnswerBit", desc := "()I" } : Jvm.MethodName) prog_3_method_7_code 2 (some .int) true 2 0 0 w_S_nextAnswerBit := metS_of (by decide +kernel) (fun Z X0 post hZ g hq hr _ => t_S_nextAnswerBit_0 g hq hr)
theorem hd_S_nextAnswerBit : (({ cls := "BusTelegrams$Station", name := "nextAnswerBit", desc := "()I" } : Jvm.MethodName)).cls = "BusTelegrams$Station" ∧ (({ cls := "BusTelegrams$Station", name := "nextAnswerBit", desc := "()I" } : Jvm.MethodName)).cls ≠ "java/lang/invoke/MethodHandle" ∧ (({ cls := "BusTelegrams$Station", name := "nextAnswerBit", desc := "()I" } : Jvm.MethodName)).cls ≠ "java/lang/invoke/VarHandle" ∧ (parseMethodDescriptor (({ cls := "BusTelegrams$Station", name := "nextAnswerBit", desc := "()I" } : Jvm.MethodName)).desc).map (fun d => d.parameters.length) = some 0 := ⟨rfl, by decide, by decide, by decide +kernel⟩
theorem d_T_lineBit_0 : decode prog_4_method_6_code 0 = .ok (.iload_n 1, 1) := by decide +kernel
theorem d_T_lineBit_1 : decode prog_4_method_6_code 1 = .ok (.bipush 13, 2) := by decide +kernel
theorem d_T_lineBit_3 : decode prog_4_method_6_code 3 = .ok (.idiv, 1) := by decide +kernel
theorem d_T_lineBit_4 : decode prog_4_method_6_code 4 = .ok (.istore_n 2, 1) := by decide +kernel
theorem d_T_lineBit_5 : decode prog_4_method_6_code 5 = .ok (.iload_n 1, 1) := by decide +kernel
theorem d_T_lineBit_6 : decode prog_4_method_6_code 6 = .ok (.ifCond .lt 12, 3) := by decide +kernel
theorem d_T_lineBit_9 : decode prog_4_method_6_code 9 = .ok (.iload_n 2, 1) := by decide +kernel
theorem d_T_lineBit_10 : decode prog_4_method_6_code 10 = .ok (.aload_n 0, 1) := by decide +kernel
theorem d_T_lineBit_11 : decode prog_4_method_6_code 11 = .ok (.getfield 9, 3) := by decide +kernel
theorem d_T_lineBit_14 : decode prog_4_method_6_code 14 = .ok (.arraylength, 1) := by decide +kernel
theorem d_T_lineBit_15 : decode prog_4_method_6_code 15 = .ok (.if_icmp .lt 5, 3) := by decide +kernel
theorem d_T_lineBit_18 : decode prog_4_method_6_code 18 = .ok (.iconst 1, 1) := by decide +kernel
theorem d_T_lineBit_19 : decode prog_4_method_6_code 19 = .ok (.ireturn, 1) := by decide +kernel
theorem d_T_lineBit_20 : decode prog_4_method_6_code 20 = .ok (.aload_n 0, 1) := by decide +kernel
theorem d_T_lineBit_21 : decode prog_4_method_6_code 21 = .ok (.getfield 9, 3) := by decide +kernel
theorem d_T_lineBit_24 : decode prog_4_method_6_code 24 = .ok (.iload_n 2, 1) := by decide +kernel
theorem d_T_lineBit_25 : decode prog_4_method_6_code 25 = .ok (.iaload, 1) := by decide +kernel
theorem d_T_lineBit_26 : decode prog_4_method_6_code 26 = .ok (.iload_n 1, 1) := by decide +kernel
theorem d_T_lineBit_27 : decode prog_4_method_6_code 27 = .ok (.bipush 13, 2) := by decide +kernel
theorem d_T_lineBit_29 : decode prog_4_method_6_code 29 = .ok (.irem, 1) := by decide +kernel
theorem d_T_lineBit_30 : decode prog_4_method_6_code 30 = .ok (.invokestatic 34, 3) := by decide +kernel
theorem d_T_lineBit_33 : decode prog_4_method_6_code 33 = .ok (.ireturn, 1) := by decide +kernel
def b_T_lineBit_18 (post : Option Value → Mm → Prop) : Kk := (i_push (.int 1) (i_iret post))
theorem t_T_lineBit_18 {Z : Zt} {X0 : Mm} {post : Option Value → Mm → Prop} (g : Good Z prog_4_method_6_code 3 "BusTelegrams$Telegram" 2) (hq : RetZ Z true X0 0 0 post) (hr : (zM Z).sig.returnType = (some .int)) : Snd Z 3 18 (b_T_lineBit_18 post) := by
  unfold b_T_lineBit_18
  exact (s_push_iconst g d_T_lineBit_18 (by decide) (s_iret0 g hq hr d_T_lineBit_19))
def b_T_lineBit_0 (post : Option Value → Mm → Prop) : Kk := (i_iload 1 (i_push (.int 13) (i_binz (fun x y => x / y) (i_istore 2 (i_iload 1 (i_if (fun x y => x < y) (b_T_lineBit_18 post) (i_iload 2 (i_aload 0 (i_getR 2 0 (i_alen (i_icmp (fun x y => x < y) (i_aload 0 (i_getR 2 0 (i_iload 2 (i_ald 10 (i_iload 1 (i_push (.int 13) (i_binz (fun x y => x - x / y * y) (i_callS 2 w_B_characterBit (i_iret post))))))))) (b_T_lineBit_18 post))))))))))))
theorem t_T_lineBit_0 {Z : Zt} {X0 : Mm} {post : Option Value → Mm → Prop} (g : Good Z prog_4_method_6_code 3 "BusTelegrams$Telegram" 2) (hq : RetZ Z true X0 0 0 post) (hr : (zM Z).sig.returnType = (some .int)) : Snd Z 3 0 (b_T_lineBit_0 post) := by
  unfold b_T_lineBit_0
  exact (s_iload_n g d_T_lineBit_0 rfl (s_push_bipush g d_T_lineBit_1 (by decide) (s_idiv g d_T_lineBit_3 (s_istore_n g (by decide) d_T_lineBit_4 rfl (s_iload_n g d_T_lineBit_5 rfl (s_if_lt g d_T_lineBit_6 (by decide) (t_T_lineBit_18 g hq hr) (s_iload_n g d_T_lineBit_9 rfl (s_aload_n g d_T_lineBit_10 rfl (s_getR g (c := 2) (j := 0) cok_2 (by decide) rfl mw_94 rfl d_T_lineBit_11 (s_alen g d_T_lineBit_14 (s_icmp_lt g d_T_lineBit_15 (by decide) (s_aload_n g d_T_lineBit_20 rfl (s_getR g (c := 2) (j := 0) cok_2 (by decide) rfl mw_94 rfl d_T_lineBit_21 (s_iload_n g d_T_lineBit_24 rfl (s_iald g d_T_lineBit_25 (s_iload_n g d_T_lineBit_26 rfl (s_push_bipush g d_T_lineBit_27 (by decide) (s_irem g d_T_lineBit_29 (s_callSN g (C_B_characterBit (zl Z)) mn_430 mw_414 mw_1 mw_415 hd_B_characterBit (by decide) (by decide) d_T_lineBit_30 (s_iret0 g hq hr d_T_lineBit_33))))))))) (t_T_lineBit_18 g hq hr))))))))))))
def w_T_lineBit : Wp := wpOf 3 (fun _ post => b_T_lineBit_0 post)
theorem C_T_lineBit (l : Launch) : MetS l ({ cls := "BusTelegrams$Telegram", name := "lineBit", desc := "(I)I" } : Jvm.MethodName) prog_4_method_6_code 3 (some .int) true 2 0 0 w_T_lineBit := metS_of (by decide +kernel) (fun Z X0 post hZ g hq hr _ => t_T_lineBit_0 g hq hr)
theorem hd_T_lineBit : (({ cls := "BusTelegrams$Telegram", name := "lineBit", desc := "(I)I" } : Jvm.MethodName)).cls = "BusTelegrams$Telegram" ∧ (({ cls := "BusTelegrams$Telegram", name := "lineBit", desc := "(I)I" } : Jvm.MethodName)).cls ≠ "java/lang/invoke/MethodHandle" ∧ (({ cls := "BusTelegrams$Telegram", name := "lineBit", desc := "(I)I" } : Jvm.MethodName)).cls ≠ "java/lang/invoke/VarHandle" ∧ (parseMethodDescriptor (({ cls := "BusTelegrams$Telegram", name := "lineBit", desc := "(I)I" } : Jvm.MethodName)).desc).map (fun d => d.parameters.length) = some 1 := ⟨rfl, by decide, by decide, by decide +kernel⟩
theorem d_T_countSaying_0 : decode prog_4_method_8_code 0 = .ok (.aload_n 0, 1) := by decide +kernel
theorem d_T_countSaying_1 : decode prog_4_method_8_code 1 = .ok (.dup, 1) := by decide +kernel
theorem d_T_countSaying_2 : decode prog_4_method_8_code 2 = .ok (.getfield 22, 3) := by decide +kernel
theorem d_T_countSaying_5 : decode prog_4_method_8_code 5 = .ok (.iconst 1, 1) := by decide +kernel
theorem d_T_countSaying_6 : decode prog_4_method_8_code 6 = .ok (.iadd, 1) := by decide +kernel
theorem d_T_countSaying_7 : decode prog_4_method_8_code 7 = .ok (.putfield 22, 3) := by decide +kernel
theorem d_T_countSaying_10 : decode prog_4_method_8_code 10 = .ok (.aload_n 0, 1) := by decide +kernel
theorem d_T_countSaying_11 : decode prog_4_method_8_code 11 = .ok (.invokevirtual 37, 3) := by decide +kernel
theorem d_T_countSaying_14 : decode prog_4_method_8_code 14 = .ok (.return_, 1) := by decide +kernel
def b_T_countSaying_0 (post : Option Value → Mm → Prop) : Kk := (i_aload 0 (i_dup (i_getI 2 3 (i_push (.int 1) (i_bin (fun x y => x + y) (i_putI 2 3 (i_aload 0 (i_callV 0 2 w_T_seal (i_vret post)))))))))
theorem t_T_countSaying_0 {Z : Zt} {X0 : Mm} {post : Option Value → Mm → Prop} (g : Good Z prog_4_method_8_code 1 "BusTelegrams$Telegram" 2) (hq : RetZ Z true X0 0 0 post) (hr : (zM Z).sig.returnType = none) : Snd Z 1 0 (b_T_countSaying_0 post) := by
  unfold b_T_countSaying_0
  exact (s_aload_n g d_T_countSaying_0 rfl (s_dup g d_T_countSaying_1 (s_getI g (c := 2) (j := 3) cok_2 (by decide) rfl mw_97 rfl d_T_countSaying_2 (s_push_iconst g d_T_countSaying_5 (by decide) (s_iadd g d_T_countSaying_6 (s_putI g (c := 2) (j := 3) cok_2 (by decide) rfl rfl rfl mw_97 rfl d_T_countSaying_7 (s_aload_n g d_T_countSaying_10 rfl (s_callV g (C_T_seal (zl Z)) (gin_V mw_447 mw_348 mw_349 mw_4 mw_350) hd_T_seal rfl (by decide) (by decide) (by decide) d_T_countSaying_11 (s_vret0 g hq hr d_T_countSaying_14)))))))))
def w_T_countSaying : Wp := wpOf 1 (fun _ post => b_T_countSaying_0 post)
theorem C_T_countSaying (l : Launch) : MetS l ({ cls := "BusTelegrams$Telegram", name := "countSaying", desc := "()V" } : Jvm.MethodName) prog_4_method_8_code 1 none true 2 0 0 w_T_countSaying := metS_of (by decide +kernel) (fun Z X0 post hZ g hq hr _ => t_T_countSaying_0 g hq hr)
theorem hd_T_countSaying : (({ cls := "BusTelegrams$Telegram", name := "countSaying", desc := "()V" } : Jvm.MethodName)).cls = "BusTelegrams$Telegram" ∧ (({ cls := "BusTelegrams$Telegram", name := "countSaying", desc := "()V" } : Jvm.MethodName)).cls ≠ "java/lang/invoke/MethodHandle" ∧ (({ cls := "BusTelegrams$Telegram", name := "countSaying", desc := "()V" } : Jvm.MethodName)).cls ≠ "java/lang/invoke/VarHandle" ∧ (parseMethodDescriptor (({ cls := "BusTelegrams$Telegram", name := "countSaying", desc := "()V" } : Jvm.MethodName)).desc).map (fun d => d.parameters.length) = some 0 := ⟨rfl, by decide, by decide, by decide +kernel⟩
theorem d_E_takeInGap_0 : decode prog_2_method_7_code 0 = .ok (.iload_n 1, 1) := by decide +kernel
theorem d_E_takeInGap_1 : decode prog_2_method_7_code 1 = .ok (.ifCond .ne 16, 3) := by decide +kernel
theorem d_E_takeInGap_4 : decode prog_2_method_7_code 4 = .ok (.aload_n 0, 1) := by decide +kernel
theorem d_E_takeInGap_5 : decode prog_2_method_7_code 5 = .ok (.getfield 25, 3) := by decide +kernel
theorem d_E_takeInGap_8 : decode prog_2_method_7_code 8 = .ok (.iconst 2, 1) := by decide +kernel
theorem d_E_takeInGap_9 : decode prog_2_method_7_code 9 = .ok (.if_icmp .ne 8, 3) := by decide +kernel
theorem d_E_takeInGap_12 : decode prog_2_method_7_code 12 = .ok (.aload_n 0, 1) := by decide +kernel
theorem d_E_takeInGap_13 : decode prog_2_method_7_code 13 = .ok (.invokevirtual 73, 3) := by decide +kernel
theorem d_E_takeInGap_16 : decode prog_2_method_7_code 16 = .ok (.return_, 1) := by decide +kernel
theorem d_E_takeInGap_17 : decode prog_2_method_7_code 17 = .ok (.iload_n 1, 1) := by decide +kernel
theorem d_E_takeInGap_18 : decode prog_2_method_7_code 18 = .ok (.iconst 1, 1) := by decide +kernel
theorem d_E_takeInGap_19 : decode prog_2_method_7_code 19 = .ok (.if_icmp .ne 22, 3) := by decide +kernel
theorem d_E_takeInGap_22 : decode prog_2_method_7_code 22 = .ok (.aload_n 0, 1) := by decide +kernel
theorem d_E_takeInGap_23 : decode prog_2_method_7_code 23 = .ok (.getfield 25, 3) := by decide +kernel
theorem d_E_takeInGap_26 : decode prog_2_method_7_code 26 = .ok (.iconst 2, 1) := by decide +kernel
theorem d_E_takeInGap_27 : decode prog_2_method_7_code 27 = .ok (.if_icmp .ge 14, 3) := by decide +kernel
theorem d_E_takeInGap_30 : decode prog_2_method_7_code 30 = .ok (.aload_n 0, 1) := by decide +kernel
theorem d_E_takeInGap_31 : decode prog_2_method_7_code 31 = .ok (.dup, 1) := by decide +kernel
theorem d_E_takeInGap_32 : decode prog_2_method_7_code 32 = .ok (.getfield 25, 3) := by decide +kernel
theorem d_E_takeInGap_35 : decode prog_2_method_7_code 35 = .ok (.iconst 1, 1) := by decide +kernel
theorem d_E_takeInGap_36 : decode prog_2_method_7_code 36 = .ok (.iadd, 1) := by decide +kernel
theorem d_E_takeInGap_37 : decode prog_2_method_7_code 37 = .ok (.putfield 25, 3) := by decide +kernel
theorem d_E_takeInGap_40 : decode prog_2_method_7_code 40 = .ok (.return_, 1) := by decide +kernel
theorem d_E_takeInGap_41 : decode prog_2_method_7_code 41 = .ok (.aload_n 0, 1) := by decide +kernel
theorem d_E_takeInGap_42 : decode prog_2_method_7_code 42 = .ok (.iconst 0, 1) := by decide +kernel
theorem d_E_takeInGap_43 : decode prog_2_method_7_code 43 = .ok (.putfield 21, 3) := by decide +kernel
theorem d_E_takeInGap_46 : decode prog_2_method_7_code 46 = .ok (.aload_n 0, 1) := by decide +kernel
theorem d_E_takeInGap_47 : decode prog_2_method_7_code 47 = .ok (.invokevirtual 79, 3) := by decide +kernel
theorem d_E_takeInGap_50 : decode prog_2_method_7_code 50 = .ok (.iload_n 1, 1) := by decide +kernel
theorem d_E_takeInGap_51 : decode prog_2_method_7_code 51 = .ok (.ifCond .ne 8, 3) := by decide +kernel
theorem d_E_takeInGap_54 : decode prog_2_method_7_code 54 = .ok (.aload_n 0, 1) := by decide +kernel
theorem d_E_takeInGap_55 : decode prog_2_method_7_code 55 = .ok (.iload_n 2, 1) := by decide +kernel
theorem d_E_takeInGap_56 : decode prog_2_method_7_code 56 = .ok (.invokevirtual 69, 3) := by decide +kernel
theorem d_E_takeInGap_59 : decode prog_2_method_7_code 59 = .ok (.return_, 1) := by decide +kernel
def b_E_takeInGap_59 (post : Option Value → Mm → Prop) : Kk := (i_vret post)
theorem t_E_takeInGap_59 {Z : Zt} {X0 : Mm} {post : Option Value → Mm → Prop} (g : Good Z prog_2_method_7_code 3 "BusTelegrams$Ear" 2) (hq : RetZ Z true X0 0 0 post) (hr : (zM Z).sig.returnType = none) : Snd Z 3 59 (b_E_takeInGap_59 post) := by
  unfold b_E_takeInGap_59
  exact (s_vret0 g hq hr d_E_takeInGap_59)
def b_E_takeInGap_41 (post : Option Value → Mm → Prop) : Kk := (i_aload 0 (i_push (.int 0) (i_putI 0 3 (i_aload 0 (i_callV 0 0 w_E_complete (i_iload 1 (i_if (fun x y => x = y) (i_aload 0 (i_iload 2 (i_callV 1 0 w_E_begin (b_E_takeInGap_59 post)))) (b_E_takeInGap_59 post))))))))
theorem t_E_takeInGap_41 {Z : Zt} {X0 : Mm} {post : Option Value → Mm → Prop} (g : Good Z prog_2_method_7_code 3 "BusTelegrams$Ear" 2) (hq : RetZ Z true X0 0 0 post) (hr : (zM Z).sig.returnType = none) : Snd Z 3 41 (b_E_takeInGap_41 post) := by
  unfold b_E_takeInGap_41
  exact (s_aload_n g d_E_takeInGap_41 rfl (s_push_iconst g d_E_takeInGap_42 (by decide) (s_putI g (c := 0) (j := 3) cok_0 (by decide) rfl rfl rfl mw_32 rfl d_E_takeInGap_43 (s_aload_n g d_E_takeInGap_46 rfl (s_callV g (C_E_complete (zl Z)) (gin_V mw_468 mw_470 ms_11 mw_2 mw_471) hd_E_complete rfl (by decide) (by decide) (by decide) d_E_takeInGap_47 (s_iload_n g d_E_takeInGap_50 rfl (s_if_ne g d_E_takeInGap_51 (by decide) (t_E_takeInGap_59 g hq hr) (s_aload_n g d_E_takeInGap_54 rfl (s_iload_n g d_E_takeInGap_55 rfl (s_callV g (C_E_begin (zl Z)) (gin_V mw_476 mw_478 ms_13 mw_2 mw_479) hd_E_begin rfl (by decide) (by decide) (by decide) d_E_takeInGap_56 (t_E_takeInGap_59 g hq hr)))))))))))
def b_E_takeInGap_17 (post : Option Value → Mm → Prop) : Kk := (i_iload 1 (i_push (.int 1) (i_icmp (fun x y => x = y) (i_aload 0 (i_getI 0 4 (i_push (.int 2) (i_icmp (fun x y => y ≤ x) (b_E_takeInGap_41 post) (i_aload 0 (i_dup (i_getI 0 4 (i_push (.int 1) (i_bin (fun x y => x + y) (i_putI 0 4 (i_vret post))))))))))) (b_E_takeInGap_41 post))))
theorem t_E_takeInGap_17 {Z : Zt} {X0 : Mm} {post : Option Value → Mm → Prop} (g : Good Z prog_2_method_7_code 3 "BusTelegrams$Ear" 2) (hq : RetZ Z true X0 0 0 post) (hr : (zM Z).sig.returnType = none) : Snd Z 3 17 (b_E_takeInGap_17 post) := by
  unfold b_E_takeInGap_17
  exact (s_iload_n g d_E_takeInGap_17 rfl (s_push_iconst g d_E_takeInGap_18 (by decide) (s_icmp_ne g d_E_takeInGap_19 (by decide) (t_E_takeInGap_41 g hq hr) (s_aload_n g d_E_takeInGap_22 rfl (s_getI g (c := 0) (j := 4) cok_0 (by decide) rfl mw_33 rfl d_E_takeInGap_23 (s_push_iconst g d_E_takeInGap_26 (by decide) (s_icmp_ge g d_E_takeInGap_27 (by decide) (t_E_takeInGap_41 g hq hr) (s_aload_n g d_E_takeInGap_30 rfl (s_dup g d_E_takeInGap_31 (s_getI g (c := 0) (j := 4) cok_0 (by decide) rfl mw_33 rfl d_E_takeInGap_32 (s_push_iconst g d_E_takeInGap_35 (by decide) (s_iadd g d_E_takeInGap_36 (s_putI g (c := 0) (j := 4) cok_0 (by decide) rfl rfl rfl mw_33 rfl d_E_takeInGap_37 (s_vret0 g hq hr d_E_takeInGap_40))))))))))))))
def b_E_takeInGap_0 (post : Option Value → Mm → Prop) : Kk := (i_iload 1 (i_if (fun x y => x = y) (i_aload 0 (i_getI 0 4 (i_push (.int 2) (i_icmp (fun x y => x = y) (i_aload 0 (i_callV 0 0 w_E_beginCharacter (i_vret post))) (b_E_takeInGap_17 post))))) (b_E_takeInGap_17 post)))
theorem t_E_takeInGap_0 {Z : Zt} {X0 : Mm} {post : Option Value → Mm → Prop} (g : Good Z prog_2_method_7_code 3 "BusTelegrams$Ear" 2) (hq : RetZ Z true X0 0 0 post) (hr : (zM Z).sig.returnType = none) : Snd Z 3 0 (b_E_takeInGap_0 post) := by
  unfold b_E_takeInGap_0
  exact (s_iload_n g d_E_takeInGap_0 rfl (s_if_ne g d_E_takeInGap_1 (by decide) (t_E_takeInGap_17 g hq hr) (s_aload_n g d_E_takeInGap_4 rfl (s_getI g (c := 0) (j := 4) cok_0 (by decide) rfl mw_33 rfl d_E_takeInGap_5 (s_push_iconst g d_E_takeInGap_8 (by decide) (s_icmp_ne g d_E_takeInGap_9 (by decide) (t_E_takeInGap_17 g hq hr) (s_aload_n g d_E_takeInGap_12 rfl (s_callV g (C_E_beginCharacter (zl Z)) (gin_V mw_464 mw_466 ms_10 mw_2 mw_467) hd_E_beginCharacter rfl (by decide) (by decide) (by decide) d_E_takeInGap_13 (s_vret0 g hq hr d_E_takeInGap_16)))))))))
def w_E_takeInGap : Wp := wpOf 3 (fun _ post => b_E_takeInGap_0 post)
theorem C_E_takeInGap (l : Launch) : MetS l ({ cls := "BusTelegrams$Ear", name := "takeInGap", desc := "(II)V" } : Jvm.MethodName) prog_2_method_7_code 3 none true 2 0 0 w_E_takeInGap := metS_of (by decide +kernel) (fun Z X0 post hZ g hq hr _ => t_E_takeInGap_0 g hq hr)
theorem hd_E_takeInGap : (({ cls := "BusTelegrams$Ear", name := "takeInGap", desc := "(II)V" } : Jvm.MethodName)).cls = "BusTelegrams$Ear" ∧ (({ cls := "BusTelegrams$Ear", name := "takeInGap", desc := "(II)V" } : Jvm.MethodName)).cls ≠ "java/lang/invoke/MethodHandle" ∧ (({ cls := "BusTelegrams$Ear", name := "takeInGap", desc := "(II)V" } : Jvm.MethodName)).cls ≠ "java/lang/invoke/VarHandle" ∧ (parseMethodDescriptor (({ cls := "BusTelegrams$Ear", name := "takeInGap", desc := "(II)V" } : Jvm.MethodName)).desc).map (fun d => d.parameters.length) = some 2 := ⟨rfl, by decide, by decide, by decide +kernel⟩
theorem d_S_endWait_0 : decode prog_3_method_9_code 0 = .ok (.aload_n 0, 1) := by decide +kernel
theorem d_S_endWait_1 : decode prog_3_method_9_code 1 = .ok (.getfield 38, 3) := by decide +kernel
theorem d_S_endWait_4 : decode prog_3_method_9_code 4 = .ok (.ifCond .eq 11, 3) := by decide +kernel
theorem d_S_endWait_7 : decode prog_3_method_9_code 7 = .ok (.iload_n 2, 1) := by decide +kernel
theorem d_S_endWait_8 : decode prog_3_method_9_code 8 = .ok (.aload_n 0, 1) := by decide +kernel
theorem d_S_endWait_9 : decode prog_3_method_9_code 9 = .ok (.getfield 41, 3) := by decide +kernel
theorem d_S_endWait_12 : decode prog_3_method_9_code 12 = .ok (.if_icmp .ge 4, 3) := by decide +kernel
theorem d_S_endWait_15 : decode prog_3_method_9_code 15 = .ok (.return_, 1) := by decide +kernel
theorem d_S_endWait_16 : decode prog_3_method_9_code 16 = .ok (.aload_n 0, 1) := by decide +kernel
theorem d_S_endWait_17 : decode prog_3_method_9_code 17 = .ok (.iconst 0, 1) := by decide +kernel
theorem d_S_endWait_18 : decode prog_3_method_9_code 18 = .ok (.putfield 38, 3) := by decide +kernel
theorem d_S_endWait_21 : decode prog_3_method_9_code 21 = .ok (.iload_n 1, 1) := by decide +kernel
theorem d_S_endWait_22 : decode prog_3_method_9_code 22 = .ok (.ifCond .eq 20, 3) := by decide +kernel
theorem d_S_endWait_25 : decode prog_3_method_9_code 25 = .ok (.aload_n 0, 1) := by decide +kernel
theorem d_S_endWait_26 : decode prog_3_method_9_code 26 = .ok (.dup, 1) := by decide +kernel
theorem d_S_endWait_27 : decode prog_3_method_9_code 27 = .ok (.getfield 50, 3) := by decide +kernel
theorem d_S_endWait_30 : decode prog_3_method_9_code 30 = .ok (.iconst 1, 1) := by decide +kernel
theorem d_S_endWait_31 : decode prog_3_method_9_code 31 = .ok (.iadd, 1) := by decide +kernel
theorem d_S_endWait_32 : decode prog_3_method_9_code 32 = .ok (.putfield 50, 3) := by decide +kernel
theorem d_S_endWait_35 : decode prog_3_method_9_code 35 = .ok (.aload_n 0, 1) := by decide +kernel
theorem d_S_endWait_36 : decode prog_3_method_9_code 36 = .ok (.invokevirtual 93, 3) := by decide +kernel
theorem d_S_endWait_39 : decode prog_3_method_9_code 39 = .ok (.goto 29, 3) := by decide +kernel
theorem d_S_endWait_42 : decode prog_3_method_9_code 42 = .ok (.aload_n 0, 1) := by decide +kernel
theorem d_S_endWait_43 : decode prog_3_method_9_code 43 = .ok (.iconst 0, 1) := by decide +kernel
theorem d_S_endWait_44 : decode prog_3_method_9_code 44 = .ok (.invokevirtual 63, 3) := by decide +kernel
theorem d_S_endWait_47 : decode prog_3_method_9_code 47 = .ok (.getfield 96, 3) := by decide +kernel
theorem d_S_endWait_50 : decode prog_3_method_9_code 50 = .ok (.iconst 4, 1) := by decide +kernel
theorem d_S_endWait_51 : decode prog_3_method_9_code 51 = .ok (.if_icmp .lt 17, 3) := by decide +kernel
theorem d_S_endWait_54 : decode prog_3_method_9_code 54 = .ok (.aload_n 0, 1) := by decide +kernel
theorem d_S_endWait_55 : decode prog_3_method_9_code 55 = .ok (.dup, 1) := by decide +kernel
theorem d_S_endWait_56 : decode prog_3_method_9_code 56 = .ok (.getfield 53, 3) := by decide +kernel
theorem d_S_endWait_59 : decode prog_3_method_9_code 59 = .ok (.iconst 1, 1) := by decide +kernel
theorem d_S_endWait_60 : decode prog_3_method_9_code 60 = .ok (.iadd, 1) := by decide +kernel
theorem d_S_endWait_61 : decode prog_3_method_9_code 61 = .ok (.putfield 53, 3) := by decide +kernel
theorem d_S_endWait_64 : decode prog_3_method_9_code 64 = .ok (.aload_n 0, 1) := by decide +kernel
theorem d_S_endWait_65 : decode prog_3_method_9_code 65 = .ok (.invokevirtual 93, 3) := by decide +kernel
theorem d_S_endWait_68 : decode prog_3_method_9_code 68 = .ok (.return_, 1) := by decide +kernel
def b_S_endWait_15 (post : Option Value → Mm → Prop) : Kk := (i_vret post)
theorem t_S_endWait_15 {Z : Zt} {X0 : Mm} {post : Option Value → Mm → Prop} (g : Good Z prog_3_method_9_code 3 "BusTelegrams$Station" 2) (hq : RetZ Z true X0 0 0 post) (hr : (zM Z).sig.returnType = none) : Snd Z 3 15 (b_S_endWait_15 post) := by
  unfold b_S_endWait_15
  exact (s_vret0 g hq hr d_S_endWait_15)
def b_S_endWait_68 (post : Option Value → Mm → Prop) : Kk := (i_vret post)
theorem t_S_endWait_68 {Z : Zt} {X0 : Mm} {post : Option Value → Mm → Prop} (g : Good Z prog_3_method_9_code 3 "BusTelegrams$Station" 2) (hq : RetZ Z true X0 0 0 post) (hr : (zM Z).sig.returnType = none) : Snd Z 3 68 (b_S_endWait_68 post) := by
  unfold b_S_endWait_68
  exact (s_vret0 g hq hr d_S_endWait_68)
def b_S_endWait_0 (post : Option Value → Mm → Prop) : Kk := (i_aload 0 (i_getI 1 8 (i_if (fun x y => x = y) (b_S_endWait_15 post) (i_iload 2 (i_aload 0 (i_getI 1 9 (i_icmp (fun x y => y ≤ x) (i_aload 0 (i_push (.int 0) (i_putZ 1 8 (i_iload 1 (i_if (fun x y => x = y) (i_aload 0 (i_push (.int 0) (i_callV 1 1 w_S_queueAt (i_getI 2 3 (i_push (.int 4) (i_icmp (fun x y => x < y) (b_S_endWait_68 post) (i_aload 0 (i_dup (i_getI 1 13 (i_push (.int 1) (i_bin (fun x y => x + y) (i_putI 1 13 (i_aload 0 (i_callV 0 1 w_S_removeFirst (b_S_endWait_68 post))))))))))))))) (i_aload 0 (i_dup (i_getI 1 12 (i_push (.int 1) (i_bin (fun x y => x + y) (i_putI 1 12 (i_aload 0 (i_callV 0 1 w_S_removeFirst (b_S_endWait_68 post)))))))))))))) (b_S_endWait_15 post))))))))
theorem t_S_endWait_0 {Z : Zt} {X0 : Mm} {post : Option Value → Mm → Prop} (g : Good Z prog_3_method_9_code 3 "BusTelegrams$Station" 2) (hq : RetZ Z true X0 0 0 post) (hr : (zM Z).sig.returnType = none) : Snd Z 3 0 (b_S_endWait_0 post) := by
  unfold b_S_endWait_0
  exact (s_aload_n g d_S_endWait_0 rfl (s_getI g (c := 1) (j := 8) cok_1 (by decide) rfl mw_121 rfl d_S_endWait_1 (s_if_eq g d_S_endWait_4 (by decide) (t_S_endWait_15 g hq hr) (s_iload_n g d_S_endWait_7 rfl (s_aload_n g d_S_endWait_8 rfl (s_getI g (c := 1) (j := 9) cok_1 (by decide) rfl mw_122 rfl d_S_endWait_9 (s_icmp_ge g d_S_endWait_12 (by decide) (s_aload_n g d_S_endWait_16 rfl (s_push_iconst g d_S_endWait_17 (by decide) (s_putZ g (c := 1) (j := 8) cok_1 (by decide) rfl rfl rfl mw_121 rfl d_S_endWait_18 (s_iload_n g d_S_endWait_21 rfl (s_if_eq g d_S_endWait_22 (by decide) (s_aload_n g d_S_endWait_42 rfl (s_push_iconst g d_S_endWait_43 (by decide) (s_callV g (C_S_queueAt (zl Z)) (gin_V mw_326 mw_328 ms_1 mw_3 mw_329) hd_S_queueAt rfl (by decide) (by decide) (by decide) d_S_endWait_44 (s_getIN g (c := 2) (j := 3) cok_2 (by decide) rfl mn_98 rfl d_S_endWait_47 (s_push_iconst g d_S_endWait_50 (by decide) (s_icmp_lt g d_S_endWait_51 (by decide) (t_S_endWait_68 g hq hr) (s_aload_n g d_S_endWait_54 rfl (s_dup g d_S_endWait_55 (s_getI g (c := 1) (j := 13) cok_1 (by decide) rfl mw_126 rfl d_S_endWait_56 (s_push_iconst g d_S_endWait_59 (by decide) (s_iadd g d_S_endWait_60 (s_putI g (c := 1) (j := 13) cok_1 (by decide) rfl rfl rfl mw_126 rfl d_S_endWait_61 (s_aload_n g d_S_endWait_64 rfl (s_callV g (C_S_removeFirst (zl Z)) (gin_V mw_488 mw_490 ms_14 mw_3 mw_491) hd_S_removeFirst rfl (by decide) (by decide) (by decide) d_S_endWait_65 (t_S_endWait_68 g hq hr))))))))))))))) (s_aload_n g d_S_endWait_25 rfl (s_dup g d_S_endWait_26 (s_getI g (c := 1) (j := 12) cok_1 (by decide) rfl mw_125 rfl d_S_endWait_27 (s_push_iconst g d_S_endWait_30 (by decide) (s_iadd g d_S_endWait_31 (s_putI g (c := 1) (j := 12) cok_1 (by decide) rfl rfl rfl mw_125 rfl d_S_endWait_32 (s_aload_n g d_S_endWait_35 rfl (s_callV g (C_S_removeFirst (zl Z)) (gin_V mw_488 mw_490 ms_14 mw_3 mw_491) hd_S_removeFirst rfl (by decide) (by decide) (by decide) d_S_endWait_36 (s_goto g d_S_endWait_39 (by decide) (t_S_endWait_68 g hq hr))))))))))))))) (t_S_endWait_15 g hq hr))))))))
def w_S_endWait : Wp := wpOf 3 (fun _ post => b_S_endWait_0 post)
theorem C_S_endWait (l : Launch) : MetS l ({ cls := "BusTelegrams$Station", name := "endWait", desc := "(ZI)V" } : Jvm.MethodName) prog_3_method_9_code 3 none true 2 0 0 w_S_endWait := metS_of (by decide +kernel) (fun Z X0 post hZ g hq hr _ => t_S_endWait_0 g hq hr)
theorem hd_S_endWait : (({ cls := "BusTelegrams$Station", name := "endWait", desc := "(ZI)V" } : Jvm.MethodName)).cls = "BusTelegrams$Station" ∧ (({ cls := "BusTelegrams$Station", name := "endWait", desc := "(ZI)V" } : Jvm.MethodName)).cls ≠ "java/lang/invoke/MethodHandle" ∧ (({ cls := "BusTelegrams$Station", name := "endWait", desc := "(ZI)V" } : Jvm.MethodName)).cls ≠ "java/lang/invoke/VarHandle" ∧ (parseMethodDescriptor (({ cls := "BusTelegrams$Station", name := "endWait", desc := "(ZI)V" } : Jvm.MethodName)).desc).map (fun d => d.parameters.length) = some 2 := ⟨rfl, by decide, by decide, by decide +kernel⟩
theorem d_S_nextBit_0 : decode prog_3_method_6_code 0 = .ok (.aload_n 0, 1) := by decide +kernel
theorem d_S_nextBit_1 : decode prog_3_method_6_code 1 = .ok (.getfield 44, 3) := by decide +kernel
theorem d_S_nextBit_4 : decode prog_3_method_6_code 4 = .ok (.iconst (-1), 1) := by decide +kernel
theorem d_S_nextBit_5 : decode prog_3_method_6_code 5 = .ok (.if_icmp .eq 8, 3) := by decide +kernel
theorem d_S_nextBit_8 : decode prog_3_method_6_code 8 = .ok (.aload_n 0, 1) := by decide +kernel
theorem d_S_nextBit_9 : decode prog_3_method_6_code 9 = .ok (.invokevirtual 73, 3) := by decide +kernel
theorem d_S_nextBit_12 : decode prog_3_method_6_code 12 = .ok (.ireturn, 1) := by decide +kernel
theorem d_S_nextBit_13 : decode prog_3_method_6_code 13 = .ok (.aload_n 0, 1) := by decide +kernel
theorem d_S_nextBit_14 : decode prog_3_method_6_code 14 = .ok (.getfield 32, 3) := by decide +kernel
theorem d_S_nextBit_17 : decode prog_3_method_6_code 17 = .ok (.iconst (-1), 1) := by decide +kernel
theorem d_S_nextBit_18 : decode prog_3_method_6_code 18 = .ok (.if_icmp .eq 16, 3) := by decide +kernel
theorem d_S_nextBit_21 : decode prog_3_method_6_code 21 = .ok (.aload_n 0, 1) := by decide +kernel
theorem d_S_nextBit_22 : decode prog_3_method_6_code 22 = .ok (.dup, 1) := by decide +kernel
theorem d_S_nextBit_23 : decode prog_3_method_6_code 23 = .ok (.getfield 32, 3) := by decide +kernel
theorem d_S_nextBit_26 : decode prog_3_method_6_code 26 = .ok (.iconst 1, 1) := by decide +kernel
theorem d_S_nextBit_27 : decode prog_3_method_6_code 27 = .ok (.iadd, 1) := by decide +kernel
theorem d_S_nextBit_28 : decode prog_3_method_6_code 28 = .ok (.putfield 32, 3) := by decide +kernel
theorem d_S_nextBit_31 : decode prog_3_method_6_code 31 = .ok (.goto 34, 3) := by decide +kernel
theorem d_S_nextBit_34 : decode prog_3_method_6_code 34 = .ok (.aload_n 0, 1) := by decide +kernel
theorem d_S_nextBit_35 : decode prog_3_method_6_code 35 = .ok (.getfield 29, 3) := by decide +kernel
theorem d_S_nextBit_38 : decode prog_3_method_6_code 38 = .ok (.ifCond .le 27, 3) := by decide +kernel
theorem d_S_nextBit_41 : decode prog_3_method_6_code 41 = .ok (.aload_n 0, 1) := by decide +kernel
theorem d_S_nextBit_42 : decode prog_3_method_6_code 42 = .ok (.getfield 38, 3) := by decide +kernel
theorem d_S_nextBit_45 : decode prog_3_method_6_code 45 = .ok (.ifCond .ne 20, 3) := by decide +kernel
theorem d_S_nextBit_48 : decode prog_3_method_6_code 48 = .ok (.iload_n 1, 1) := by decide +kernel
theorem d_S_nextBit_49 : decode prog_3_method_6_code 49 = .ok (.aload_n 0, 1) := by decide +kernel
theorem d_S_nextBit_50 : decode prog_3_method_6_code 50 = .ok (.iconst 0, 1) := by decide +kernel
theorem d_S_nextBit_51 : decode prog_3_method_6_code 51 = .ok (.invokevirtual 63, 3) := by decide +kernel
theorem d_S_nextBit_54 : decode prog_3_method_6_code 54 = .ok (.invokevirtual 77, 3) := by decide +kernel
theorem d_S_nextBit_57 : decode prog_3_method_6_code 57 = .ok (.if_icmp .lt 8, 3) := by decide +kernel
theorem d_S_nextBit_60 : decode prog_3_method_6_code 60 = .ok (.aload_n 0, 1) := by decide +kernel
theorem d_S_nextBit_61 : decode prog_3_method_6_code 61 = .ok (.iconst 0, 1) := by decide +kernel
theorem d_S_nextBit_62 : decode prog_3_method_6_code 62 = .ok (.putfield 32, 3) := by decide +kernel
theorem d_S_nextBit_65 : decode prog_3_method_6_code 65 = .ok (.aload_n 0, 1) := by decide +kernel
theorem d_S_nextBit_66 : decode prog_3_method_6_code 66 = .ok (.aload_n 0, 1) := by decide +kernel
theorem d_S_nextBit_67 : decode prog_3_method_6_code 67 = .ok (.getfield 32, 3) := by decide +kernel
theorem d_S_nextBit_70 : decode prog_3_method_6_code 70 = .ok (.iconst (-1), 1) := by decide +kernel
theorem d_S_nextBit_71 : decode prog_3_method_6_code 71 = .ok (.if_icmp .ne 7, 3) := by decide +kernel
theorem d_S_nextBit_74 : decode prog_3_method_6_code 74 = .ok (.iconst 1, 1) := by decide +kernel
theorem d_S_nextBit_75 : decode prog_3_method_6_code 75 = .ok (.goto 15, 3) := by decide +kernel
theorem d_S_nextBit_78 : decode prog_3_method_6_code 78 = .ok (.aload_n 0, 1) := by decide +kernel
theorem d_S_nextBit_79 : decode prog_3_method_6_code 79 = .ok (.iconst 0, 1) := by decide +kernel
theorem d_S_nextBit_80 : decode prog_3_method_6_code 80 = .ok (.invokevirtual 63, 3) := by decide +kernel
theorem d_S_nextBit_83 : decode prog_3_method_6_code 83 = .ok (.aload_n 0, 1) := by decide +kernel
theorem d_S_nextBit_84 : decode prog_3_method_6_code 84 = .ok (.getfield 32, 3) := by decide +kernel
theorem d_S_nextBit_87 : decode prog_3_method_6_code 87 = .ok (.invokevirtual 80, 3) := by decide +kernel
theorem d_S_nextBit_90 : decode prog_3_method_6_code 90 = .ok (.putfield 35, 3) := by decide +kernel
theorem d_S_nextBit_93 : decode prog_3_method_6_code 93 = .ok (.aload_n 0, 1) := by decide +kernel
theorem d_S_nextBit_94 : decode prog_3_method_6_code 94 = .ok (.getfield 35, 3) := by decide +kernel
theorem d_S_nextBit_97 : decode prog_3_method_6_code 97 = .ok (.ireturn, 1) := by decide +kernel
def b_S_nextBit_90 (post : Option Value → Mm → Prop) : Kk := (i_putI 1 7 (i_aload 0 (i_getI 1 7 (i_iret post))))
theorem t_S_nextBit_90 {Z : Zt} {X0 : Mm} {post : Option Value → Mm → Prop} (g : Good Z prog_3_method_6_code 2 "BusTelegrams$Station" 3) (hq : RetZ Z true X0 0 0 post) (hr : (zM Z).sig.returnType = (some .int)) : Snd Z 2 90 (b_S_nextBit_90 post) := by
  unfold b_S_nextBit_90
  exact (s_putI g (c := 1) (j := 7) cok_1 (by decide) rfl rfl rfl mw_120 rfl d_S_nextBit_90 (s_aload_n g d_S_nextBit_93 rfl (s_getI g (c := 1) (j := 7) cok_1 (by decide) rfl mw_120 rfl d_S_nextBit_94 (s_iret0 g hq hr d_S_nextBit_97))))
def b_S_nextBit_65 (post : Option Value → Mm → Prop) : Kk := (i_aload 0 (i_aload 0 (i_getI 1 6 (i_push (.int (-1)) (i_icmp (fun x y => x = y) (i_push (.int 1) (b_S_nextBit_90 post)) (i_aload 0 (i_push (.int 0) (i_callV 1 1 w_S_queueAt (i_aload 0 (i_getI 1 6 (i_callV 1 2 w_T_lineBit (b_S_nextBit_90 post))))))))))))
theorem t_S_nextBit_65 {Z : Zt} {X0 : Mm} {post : Option Value → Mm → Prop} (g : Good Z prog_3_method_6_code 2 "BusTelegrams$Station" 3) (hq : RetZ Z true X0 0 0 post) (hr : (zM Z).sig.returnType = (some .int)) : Snd Z 2 65 (b_S_nextBit_65 post) := by
  unfold b_S_nextBit_65
  exact (s_aload_n g d_S_nextBit_65 rfl (s_aload_n g d_S_nextBit_66 rfl (s_getI g (c := 1) (j := 6) cok_1 (by decide) rfl mw_119 rfl d_S_nextBit_67 (s_push_iconst g d_S_nextBit_70 (by decide) (s_icmp_ne g d_S_nextBit_71 (by decide) (s_aload_n g d_S_nextBit_78 rfl (s_push_iconst g d_S_nextBit_79 (by decide) (s_callV g (C_S_queueAt (zl Z)) (gin_V mw_326 mw_328 ms_1 mw_3 mw_329) hd_S_queueAt rfl (by decide) (by decide) (by decide) d_S_nextBit_80 (s_aload_n g d_S_nextBit_83 rfl (s_getI g (c := 1) (j := 6) cok_1 (by decide) rfl mw_119 rfl d_S_nextBit_84 (s_callV g (C_T_lineBit (zl Z)) (gin_V mw_426 mw_427 mw_428 mw_4 mw_429) hd_T_lineBit rfl (by decide) (by decide) (by decide) d_S_nextBit_87 (t_S_nextBit_90 g hq hr))))))) (s_push_iconst g d_S_nextBit_74 (by decide) (s_goto g d_S_nextBit_75 (by decide) (t_S_nextBit_90 g hq hr))))))))
def b_S_nextBit_0 (post : Option Value → Mm → Prop) : Kk := (i_aload 0 (i_getI 1 10 (i_push (.int (-1)) (i_icmp (fun x y => x = y) (i_aload 0 (i_getI 1 6 (i_push (.int (-1)) (i_icmp (fun x y => x = y) (i_aload 0 (i_getI 1 5 (i_if (fun x y => x ≤ y) (b_S_nextBit_65 post) (i_aload 0 (i_getI 1 8 (i_if (fun x y => x = y) (i_iload 1 (i_aload 0 (i_push (.int 0) (i_callV 1 1 w_S_queueAt (i_callV 0 2 w_T_idleNeeded (i_icmp (fun x y => x < y) (b_S_nextBit_65 post) (i_aload 0 (i_push (.int 0) (i_putI 1 6 (b_S_nextBit_65 post)))))))))) (b_S_nextBit_65 post))))))) (i_aload 0 (i_dup (i_getI 1 6 (i_push (.int 1) (i_bin (fun x y => x + y) (i_putI 1 6 (b_S_nextBit_65 post))))))))))) (i_aload 0 (i_callV 0 1 w_S_nextAnswerBit (i_iret post)))))))
theorem t_S_nextBit_0 {Z : Zt} {X0 : Mm} {post : Option Value → Mm → Prop} (g : Good Z prog_3_method_6_code 2 "BusTelegrams$Station" 3) (hq : RetZ Z true X0 0 0 post) (hr : (zM Z).sig.returnType = (some .int)) : Snd Z 2 0 (b_S_nextBit_0 post) := by
  unfold b_S_nextBit_0
  exact (s_aload_n g d_S_nextBit_0 rfl (s_getI g (c := 1) (j := 10) cok_1 (by decide) rfl mw_123 rfl d_S_nextBit_1 (s_push_iconst g d_S_nextBit_4 (by decide) (s_icmp_eq g d_S_nextBit_5 (by decide) (s_aload_n g d_S_nextBit_13 rfl (s_getI g (c := 1) (j := 6) cok_1 (by decide) rfl mw_119 rfl d_S_nextBit_14 (s_push_iconst g d_S_nextBit_17 (by decide) (s_icmp_eq g d_S_nextBit_18 (by decide) (s_aload_n g d_S_nextBit_34 rfl (s_getI g (c := 1) (j := 5) cok_1 (by decide) rfl mw_117 rfl d_S_nextBit_35 (s_if_le g d_S_nextBit_38 (by decide) (t_S_nextBit_65 g hq hr) (s_aload_n g d_S_nextBit_41 rfl (s_getI g (c := 1) (j := 8) cok_1 (by decide) rfl mw_121 rfl d_S_nextBit_42 (s_if_ne g d_S_nextBit_45 (by decide) (t_S_nextBit_65 g hq hr) (s_iload_n g d_S_nextBit_48 rfl (s_aload_n g d_S_nextBit_49 rfl (s_push_iconst g d_S_nextBit_50 (by decide) (s_callV g (C_S_queueAt (zl Z)) (gin_V mw_326 mw_328 ms_1 mw_3 mw_329) hd_S_queueAt rfl (by decide) (by decide) (by decide) d_S_nextBit_51 (s_callV g (C_T_idleNeeded (zl Z)) (gin_V mw_422 mw_423 mw_424 mw_4 mw_425) hd_T_idleNeeded rfl (by decide) (by decide) (by decide) d_S_nextBit_54 (s_icmp_lt g d_S_nextBit_57 (by decide) (t_S_nextBit_65 g hq hr) (s_aload_n g d_S_nextBit_60 rfl (s_push_iconst g d_S_nextBit_61 (by decide) (s_putI g (c := 1) (j := 6) cok_1 (by decide) rfl rfl rfl mw_119 rfl d_S_nextBit_62 (t_S_nextBit_65 g hq hr)))))))))))))))) (s_aload_n g d_S_nextBit_21 rfl (s_dup g d_S_nextBit_22 (s_getI g (c := 1) (j := 6) cok_1 (by decide) rfl mw_119 rfl d_S_nextBit_23 (s_push_iconst g d_S_nextBit_26 (by decide) (s_iadd g d_S_nextBit_27 (s_putI g (c := 1) (j := 6) cok_1 (by decide) rfl rfl rfl mw_119 rfl d_S_nextBit_28 (s_goto g d_S_nextBit_31 (by decide) (t_S_nextBit_65 g hq hr)))))))))))) (s_aload_n g d_S_nextBit_8 rfl (s_callV g (C_S_nextAnswerBit (zl Z)) (gin_V mw_409 mw_411 ms_5 mw_3 mw_412) hd_S_nextAnswerBit rfl (by decide) (by decide) (by decide) d_S_nextBit_9 (s_iret0 g hq hr d_S_nextBit_12)))))))
def w_S_nextBit : Wp := wpOf 2 (fun _ post => b_S_nextBit_0 post)
theorem C_S_nextBit (l : Launch) : MetS l ({ cls := "BusTelegrams$Station", name := "nextBit", desc := "(I)I" } : Jvm.MethodName) prog_3_method_6_code 2 (some .int) true 3 0 0 w_S_nextBit := metS_of (by decide +kernel) (fun Z X0 post hZ g hq hr _ => t_S_nextBit_0 g hq hr)
theorem hd_S_nextBit : (({ cls := "BusTelegrams$Station", name := "nextBit", desc := "(I)I" } : Jvm.MethodName)).cls = "BusTelegrams$Station" ∧ (({ cls := "BusTelegrams$Station", name := "nextBit", desc := "(I)I" } : Jvm.MethodName)).cls ≠ "java/lang/invoke/MethodHandle" ∧ (({ cls := "BusTelegrams$Station", name := "nextBit", desc := "(I)I" } : Jvm.MethodName)).cls ≠ "java/lang/invoke/VarHandle" ∧ (parseMethodDescriptor (({ cls := "BusTelegrams$Station", name := "nextBit", desc := "(I)I" } : Jvm.MethodName)).desc).map (fun d => d.parameters.length) = some 1 := ⟨rfl, by decide, by decide, by decide +kernel⟩
theorem d_S_seeLine_0 : decode prog_3_method_8_code 0 = .ok (.aload_n 0, 1) := by decide +kernel
theorem d_S_seeLine_1 : decode prog_3_method_8_code 1 = .ok (.getfield 32, 3) := by decide +kernel
theorem d_S_seeLine_4 : decode prog_3_method_8_code 4 = .ok (.iconst (-1), 1) := by decide +kernel
theorem d_S_seeLine_5 : decode prog_3_method_8_code 5 = .ok (.if_icmp .ne 4, 3) := by decide +kernel
theorem d_S_seeLine_8 : decode prog_3_method_8_code 8 = .ok (.return_, 1) := by decide +kernel
theorem d_S_seeLine_9 : decode prog_3_method_8_code 9 = .ok (.aload_n 0, 1) := by decide +kernel
theorem d_S_seeLine_10 : decode prog_3_method_8_code 10 = .ok (.getfield 35, 3) := by decide +kernel
theorem d_S_seeLine_13 : decode prog_3_method_8_code 13 = .ok (.iconst 1, 1) := by decide +kernel
theorem d_S_seeLine_14 : decode prog_3_method_8_code 14 = .ok (.if_icmp .ne 25, 3) := by decide +kernel
theorem d_S_seeLine_17 : decode prog_3_method_8_code 17 = .ok (.iload_n 1, 1) := by decide +kernel
theorem d_S_seeLine_18 : decode prog_3_method_8_code 18 = .ok (.ifCond .ne 21, 3) := by decide +kernel
theorem d_S_seeLine_21 : decode prog_3_method_8_code 21 = .ok (.aload_n 0, 1) := by decide +kernel
theorem d_S_seeLine_22 : decode prog_3_method_8_code 22 = .ok (.iconst (-1), 1) := by decide +kernel
theorem d_S_seeLine_23 : decode prog_3_method_8_code 23 = .ok (.putfield 32, 3) := by decide +kernel
theorem d_S_seeLine_26 : decode prog_3_method_8_code 26 = .ok (.aload_n 0, 1) := by decide +kernel
theorem d_S_seeLine_27 : decode prog_3_method_8_code 27 = .ok (.dup, 1) := by decide +kernel
theorem d_S_seeLine_28 : decode prog_3_method_8_code 28 = .ok (.getfield 56, 3) := by decide +kernel
theorem d_S_seeLine_31 : decode prog_3_method_8_code 31 = .ok (.iconst 1, 1) := by decide +kernel
theorem d_S_seeLine_32 : decode prog_3_method_8_code 32 = .ok (.iadd, 1) := by decide +kernel
theorem d_S_seeLine_33 : decode prog_3_method_8_code 33 = .ok (.putfield 56, 3) := by decide +kernel
theorem d_S_seeLine_36 : decode prog_3_method_8_code 36 = .ok (.goto 46, 3) := by decide +kernel
theorem d_S_seeLine_39 : decode prog_3_method_8_code 39 = .ok (.aload_n 0, 1) := by decide +kernel
theorem d_S_seeLine_40 : decode prog_3_method_8_code 40 = .ok (.getfield 32, 3) := by decide +kernel
theorem d_S_seeLine_43 : decode prog_3_method_8_code 43 = .ok (.iconst 1, 1) := by decide +kernel
theorem d_S_seeLine_44 : decode prog_3_method_8_code 44 = .ok (.iadd, 1) := by decide +kernel
theorem d_S_seeLine_45 : decode prog_3_method_8_code 45 = .ok (.aload_n 0, 1) := by decide +kernel
theorem d_S_seeLine_46 : decode prog_3_method_8_code 46 = .ok (.iconst 0, 1) := by decide +kernel
theorem d_S_seeLine_47 : decode prog_3_method_8_code 47 = .ok (.invokevirtual 63, 3) := by decide +kernel
theorem d_S_seeLine_50 : decode prog_3_method_8_code 50 = .ok (.invokevirtual 87, 3) := by decide +kernel
theorem d_S_seeLine_53 : decode prog_3_method_8_code 53 = .ok (.if_icmp .lt 29, 3) := by decide +kernel
theorem d_S_seeLine_56 : decode prog_3_method_8_code 56 = .ok (.aload_n 0, 1) := by decide +kernel
theorem d_S_seeLine_57 : decode prog_3_method_8_code 57 = .ok (.iconst (-1), 1) := by decide +kernel
theorem d_S_seeLine_58 : decode prog_3_method_8_code 58 = .ok (.putfield 32, 3) := by decide +kernel
theorem d_S_seeLine_61 : decode prog_3_method_8_code 61 = .ok (.aload_n 0, 1) := by decide +kernel
theorem d_S_seeLine_62 : decode prog_3_method_8_code 62 = .ok (.iconst 0, 1) := by decide +kernel
theorem d_S_seeLine_63 : decode prog_3_method_8_code 63 = .ok (.invokevirtual 63, 3) := by decide +kernel
theorem d_S_seeLine_66 : decode prog_3_method_8_code 66 = .ok (.invokevirtual 90, 3) := by decide +kernel
theorem d_S_seeLine_69 : decode prog_3_method_8_code 69 = .ok (.aload_n 0, 1) := by decide +kernel
theorem d_S_seeLine_70 : decode prog_3_method_8_code 70 = .ok (.iconst 1, 1) := by decide +kernel
theorem d_S_seeLine_71 : decode prog_3_method_8_code 71 = .ok (.putfield 38, 3) := by decide +kernel
theorem d_S_seeLine_74 : decode prog_3_method_8_code 74 = .ok (.aload_n 0, 1) := by decide +kernel
theorem d_S_seeLine_75 : decode prog_3_method_8_code 75 = .ok (.iload_n 2, 1) := by decide +kernel
theorem d_S_seeLine_76 : decode prog_3_method_8_code 76 = .ok (.bipush 28, 2) := by decide +kernel
theorem d_S_seeLine_78 : decode prog_3_method_8_code 78 = .ok (.iadd, 1) := by decide +kernel
theorem d_S_seeLine_79 : decode prog_3_method_8_code 79 = .ok (.putfield 41, 3) := by decide +kernel
theorem d_S_seeLine_82 : decode prog_3_method_8_code 82 = .ok (.return_, 1) := by decide +kernel
def b_S_seeLine_82 (post : Option Value → Mm → Prop) : Kk := (i_vret post)
theorem t_S_seeLine_82 {Z : Zt} {X0 : Mm} {post : Option Value → Mm → Prop} (g : Good Z prog_3_method_8_code 3 "BusTelegrams$Station" 3) (hq : RetZ Z true X0 0 0 post) (hr : (zM Z).sig.returnType = none) : Snd Z 3 82 (b_S_seeLine_82 post) := by
  unfold b_S_seeLine_82
  exact (s_vret0 g hq hr d_S_seeLine_82)
def b_S_seeLine_39 (post : Option Value → Mm → Prop) : Kk := (i_aload 0 (i_getI 1 6 (i_push (.int 1) (i_bin (fun x y => x + y) (i_aload 0 (i_push (.int 0) (i_callV 1 1 w_S_queueAt (i_callV 0 2 w_T_bitCount (i_icmp (fun x y => x < y) (b_S_seeLine_82 post) (i_aload 0 (i_push (.int (-1)) (i_putI 1 6 (i_aload 0 (i_push (.int 0) (i_callV 1 1 w_S_queueAt (i_callV 0 2 w_T_countSaying (i_aload 0 (i_push (.int 1) (i_putZ 1 8 (i_aload 0 (i_iload 2 (i_push (.int 28) (i_bin (fun x y => x + y) (i_putI 1 9 (b_S_seeLine_82 post)))))))))))))))))))))))))
theorem t_S_seeLine_39 {Z : Zt} {X0 : Mm} {post : Option Value → Mm → Prop} (g : Good Z prog_3_method_8_code 3 "BusTelegrams$Station" 3) (hq : RetZ Z true X0 0 0 post) (hr : (zM Z).sig.returnType = none) : Snd Z 3 39 (b_S_seeLine_39 post) := by
  unfold b_S_seeLine_39
  exact (s_aload_n g d_S_seeLine_39 rfl (s_getI g (c := 1) (j := 6) cok_1 (by decide) rfl mw_119 rfl d_S_seeLine_40 (s_push_iconst g d_S_seeLine_43 (by decide) (s_iadd g d_S_seeLine_44 (s_aload_n g d_S_seeLine_45 rfl (s_push_iconst g d_S_seeLine_46 (by decide) (s_callV g (C_S_queueAt (zl Z)) (gin_V mw_326 mw_328 ms_1 mw_3 mw_329) hd_S_queueAt rfl (by decide) (by decide) (by decide) d_S_seeLine_47 (s_callV g (C_T_bitCount (zl Z)) (gin_V mw_439 mw_440 mw_441 mw_4 mw_442) hd_T_bitCount rfl (by decide) (by decide) (by decide) d_S_seeLine_50 (s_icmp_lt g d_S_seeLine_53 (by decide) (t_S_seeLine_82 g hq hr) (s_aload_n g d_S_seeLine_56 rfl (s_push_iconst g d_S_seeLine_57 (by decide) (s_putI g (c := 1) (j := 6) cok_1 (by decide) rfl rfl rfl mw_119 rfl d_S_seeLine_58 (s_aload_n g d_S_seeLine_61 rfl (s_push_iconst g d_S_seeLine_62 (by decide) (s_callV g (C_S_queueAt (zl Z)) (gin_V mw_326 mw_328 ms_1 mw_3 mw_329) hd_S_queueAt rfl (by decide) (by decide) (by decide) d_S_seeLine_63 (s_callV g (C_T_countSaying (zl Z)) (gin_V mw_443 mw_444 mw_445 mw_4 mw_446) hd_T_countSaying rfl (by decide) (by decide) (by decide) d_S_seeLine_66 (s_aload_n g d_S_seeLine_69 rfl (s_push_iconst g d_S_seeLine_70 (by decide) (s_putZ g (c := 1) (j := 8) cok_1 (by decide) rfl rfl rfl mw_121 rfl d_S_seeLine_71 (s_aload_n g d_S_seeLine_74 rfl (s_iload_n g d_S_seeLine_75 rfl (s_push_bipush g d_S_seeLine_76 (by decide) (s_iadd g d_S_seeLine_78 (s_putI g (c := 1) (j := 9) cok_1 (by decide) rfl rfl rfl mw_122 rfl d_S_seeLine_79 (t_S_seeLine_82 g hq hr)))))))))))))))))))))))))
def b_S_seeLine_0 (post : Option Value → Mm → Prop) : Kk := (i_aload 0 (i_getI 1 6 (i_push (.int (-1)) (i_icmp (fun x y => x = y) (i_vret post) (i_aload 0 (i_getI 1 7 (i_push (.int 1) (i_icmp (fun x y => x = y) (i_iload 1 (i_if (fun x y => x = y) (i_aload 0 (i_push (.int (-1)) (i_putI 1 6 (i_aload 0 (i_dup (i_getI 1 14 (i_push (.int 1) (i_bin (fun x y => x + y) (i_putI 1 14 (b_S_seeLine_82 post)))))))))) (b_S_seeLine_39 post))) (b_S_seeLine_39 post)))))))))
theorem t_S_seeLine_0 {Z : Zt} {X0 : Mm} {post : Option Value → Mm → Prop} (g : Good Z prog_3_method_8_code 3 "BusTelegrams$Station" 3) (hq : RetZ Z true X0 0 0 post) (hr : (zM Z).sig.returnType = none) : Snd Z 3 0 (b_S_seeLine_0 post) := by
  unfold b_S_seeLine_0
  exact (s_aload_n g d_S_seeLine_0 rfl (s_getI g (c := 1) (j := 6) cok_1 (by decide) rfl mw_119 rfl d_S_seeLine_1 (s_push_iconst g d_S_seeLine_4 (by decide) (s_icmp_ne g d_S_seeLine_5 (by decide) (s_aload_n g d_S_seeLine_9 rfl (s_getI g (c := 1) (j := 7) cok_1 (by decide) rfl mw_120 rfl d_S_seeLine_10 (s_push_iconst g d_S_seeLine_13 (by decide) (s_icmp_ne g d_S_seeLine_14 (by decide) (t_S_seeLine_39 g hq hr) (s_iload_n g d_S_seeLine_17 rfl (s_if_ne g d_S_seeLine_18 (by decide) (t_S_seeLine_39 g hq hr) (s_aload_n g d_S_seeLine_21 rfl (s_push_iconst g d_S_seeLine_22 (by decide) (s_putI g (c := 1) (j := 6) cok_1 (by decide) rfl rfl rfl mw_119 rfl d_S_seeLine_23 (s_aload_n g d_S_seeLine_26 rfl (s_dup g d_S_seeLine_27 (s_getI g (c := 1) (j := 14) cok_1 (by decide) rfl mw_127 rfl d_S_seeLine_28 (s_push_iconst g d_S_seeLine_31 (by decide) (s_iadd g d_S_seeLine_32 (s_putI g (c := 1) (j := 14) cok_1 (by decide) rfl rfl rfl mw_127 rfl d_S_seeLine_33 (s_goto g d_S_seeLine_36 (by decide) (t_S_seeLine_82 g hq hr))))))))))))))))) (s_vret0 g hq hr d_S_seeLine_8)))))
def w_S_seeLine : Wp := wpOf 3 (fun _ post => b_S_seeLine_0 post)
theorem C_S_seeLine (l : Launch) : MetS l ({ cls := "BusTelegrams$Station", name := "seeLine", desc := "(II)V" } : Jvm.MethodName) prog_3_method_8_code 3 none true 3 0 0 w_S_seeLine := metS_of (by decide +kernel) (fun Z X0 post hZ g hq hr _ => t_S_seeLine_0 g hq hr)
theorem hd_S_seeLine : (({ cls := "BusTelegrams$Station", name := "seeLine", desc := "(II)V" } : Jvm.MethodName)).cls = "BusTelegrams$Station" ∧ (({ cls := "BusTelegrams$Station", name := "seeLine", desc := "(II)V" } : Jvm.MethodName)).cls ≠ "java/lang/invoke/MethodHandle" ∧ (({ cls := "BusTelegrams$Station", name := "seeLine", desc := "(II)V" } : Jvm.MethodName)).cls ≠ "java/lang/invoke/VarHandle" ∧ (parseMethodDescriptor (({ cls := "BusTelegrams$Station", name := "seeLine", desc := "(II)V" } : Jvm.MethodName)).desc).map (fun d => d.parameters.length) = some 2 := ⟨rfl, by decide, by decide, by decide +kernel⟩
theorem d_E_take_0 : decode prog_2_method_2_code 0 = .ok (.aload_n 0, 1) := by decide +kernel
theorem d_E_take_1 : decode prog_2_method_2_code 1 = .ok (.getfield 21, 3) := by decide +kernel
theorem d_E_take_4 : decode prog_2_method_2_code 4 = .ok (.iconst 1, 1) := by decide +kernel
theorem d_E_take_5 : decode prog_2_method_2_code 5 = .ok (.if_icmp .ne 12, 3) := by decide +kernel
theorem d_E_take_8 : decode prog_2_method_2_code 8 = .ok (.aload_n 0, 1) := by decide +kernel
theorem d_E_take_9 : decode prog_2_method_2_code 9 = .ok (.iload_n 1, 1) := by decide +kernel
theorem d_E_take_10 : decode prog_2_method_2_code 10 = .ok (.iload_n 2, 1) := by decide +kernel
theorem d_E_take_11 : decode prog_2_method_2_code 11 = .ok (.invokevirtual 62, 3) := by decide +kernel
theorem d_E_take_14 : decode prog_2_method_2_code 14 = .ok (.goto 29, 3) := by decide +kernel
theorem d_E_take_17 : decode prog_2_method_2_code 17 = .ok (.aload_n 0, 1) := by decide +kernel
theorem d_E_take_18 : decode prog_2_method_2_code 18 = .ok (.getfield 21, 3) := by decide +kernel
theorem d_E_take_21 : decode prog_2_method_2_code 21 = .ok (.iconst 2, 1) := by decide +kernel
theorem d_E_take_22 : decode prog_2_method_2_code 22 = .ok (.if_icmp .ne 12, 3) := by decide +kernel
theorem d_E_take_25 : decode prog_2_method_2_code 25 = .ok (.aload_n 0, 1) := by decide +kernel
theorem d_E_take_26 : decode prog_2_method_2_code 26 = .ok (.iload_n 1, 1) := by decide +kernel
theorem d_E_take_27 : decode prog_2_method_2_code 27 = .ok (.iload_n 2, 1) := by decide +kernel
theorem d_E_take_28 : decode prog_2_method_2_code 28 = .ok (.invokevirtual 66, 3) := by decide +kernel
theorem d_E_take_31 : decode prog_2_method_2_code 31 = .ok (.goto 12, 3) := by decide +kernel
theorem d_E_take_34 : decode prog_2_method_2_code 34 = .ok (.iload_n 1, 1) := by decide +kernel
theorem d_E_take_35 : decode prog_2_method_2_code 35 = .ok (.ifCond .ne 8, 3) := by decide +kernel
theorem d_E_take_38 : decode prog_2_method_2_code 38 = .ok (.aload_n 0, 1) := by decide +kernel
theorem d_E_take_39 : decode prog_2_method_2_code 39 = .ok (.iload_n 2, 1) := by decide +kernel
theorem d_E_take_40 : decode prog_2_method_2_code 40 = .ok (.invokevirtual 69, 3) := by decide +kernel
theorem d_E_take_43 : decode prog_2_method_2_code 43 = .ok (.return_, 1) := by decide +kernel
def b_E_take_43 (post : Option Value → Mm → Prop) : Kk := (i_vret post)
theorem t_E_take_43 {Z : Zt} {X0 : Mm} {post : Option Value → Mm → Prop} (g : Good Z prog_2_method_2_code 3 "BusTelegrams$Ear" 3) (hq : RetZ Z true X0 0 0 post) (hr : (zM Z).sig.returnType = none) : Snd Z 3 43 (b_E_take_43 post) := by
  unfold b_E_take_43
  exact (s_vret0 g hq hr d_E_take_43)
def b_E_take_0 (post : Option Value → Mm → Prop) : Kk := (i_aload 0 (i_getI 0 3 (i_push (.int 1) (i_icmp (fun x y => x = y) (i_aload 0 (i_iload 1 (i_iload 2 (i_callV 2 0 w_E_takeInCharacter (b_E_take_43 post))))) (i_aload 0 (i_getI 0 3 (i_push (.int 2) (i_icmp (fun x y => x = y) (i_aload 0 (i_iload 1 (i_iload 2 (i_callV 2 0 w_E_takeInGap (b_E_take_43 post))))) (i_iload 1 (i_if (fun x y => x = y) (i_aload 0 (i_iload 2 (i_callV 1 0 w_E_begin (b_E_take_43 post)))) (b_E_take_43 post)))))))))))
theorem t_E_take_0 {Z : Zt} {X0 : Mm} {post : Option Value → Mm → Prop} (g : Good Z prog_2_method_2_code 3 "BusTelegrams$Ear" 3) (hq : RetZ Z true X0 0 0 post) (hr : (zM Z).sig.returnType = none) : Snd Z 3 0 (b_E_take_0 post) := by
  unfold b_E_take_0
  exact (s_aload_n g d_E_take_0 rfl (s_getI g (c := 0) (j := 3) cok_0 (by decide) rfl mw_32 rfl d_E_take_1 (s_push_iconst g d_E_take_4 (by decide) (s_icmp_ne g d_E_take_5 (by decide) (s_aload_n g d_E_take_17 rfl (s_getI g (c := 0) (j := 3) cok_0 (by decide) rfl mw_32 rfl d_E_take_18 (s_push_iconst g d_E_take_21 (by decide) (s_icmp_ne g d_E_take_22 (by decide) (s_iload_n g d_E_take_34 rfl (s_if_ne g d_E_take_35 (by decide) (t_E_take_43 g hq hr) (s_aload_n g d_E_take_38 rfl (s_iload_n g d_E_take_39 rfl (s_callV g (C_E_begin (zl Z)) (gin_V mw_476 mw_478 ms_13 mw_2 mw_479) hd_E_begin rfl (by decide) (by decide) (by decide) d_E_take_40 (t_E_take_43 g hq hr)))))) (s_aload_n g d_E_take_25 rfl (s_iload_n g d_E_take_26 rfl (s_iload_n g d_E_take_27 rfl (s_callV g (C_E_takeInGap (zl Z)) (gin_V mw_460 mw_462 ms_9 mw_2 mw_463) hd_E_takeInGap rfl (by decide) (by decide) (by decide) d_E_take_28 (s_goto g d_E_take_31 (by decide) (t_E_take_43 g hq hr)))))))))) (s_aload_n g d_E_take_8 rfl (s_iload_n g d_E_take_9 rfl (s_iload_n g d_E_take_10 rfl (s_callV g (C_E_takeInCharacter (zl Z)) (gin_V mw_452 mw_454 ms_7 mw_2 mw_455) hd_E_takeInCharacter rfl (by decide) (by decide) (by decide) d_E_take_11 (s_goto g d_E_take_14 (by decide) (t_E_take_43 g hq hr))))))))))
def w_E_take : Wp := wpOf 3 (fun _ post => b_E_take_0 post)
theorem C_E_take (l : Launch) : MetS l ({ cls := "BusTelegrams$Ear", name := "take", desc := "(II)V" } : Jvm.MethodName) prog_2_method_2_code 3 none true 3 0 0 w_E_take := metS_of (by decide +kernel) (fun Z X0 post hZ g hq hr _ => t_E_take_0 g hq hr)
theorem hd_E_take : (({ cls := "BusTelegrams$Ear", name := "take", desc := "(II)V" } : Jvm.MethodName)).cls = "BusTelegrams$Ear" ∧ (({ cls := "BusTelegrams$Ear", name := "take", desc := "(II)V" } : Jvm.MethodName)).cls ≠ "java/lang/invoke/MethodHandle" ∧ (({ cls := "BusTelegrams$Ear", name := "take", desc := "(II)V" } : Jvm.MethodName)).cls ≠ "java/lang/invoke/VarHandle" ∧ (parseMethodDescriptor (({ cls := "BusTelegrams$Ear", name := "take", desc := "(II)V" } : Jvm.MethodName)).desc).map (fun d => d.parameters.length) = some 2 := ⟨rfl, by decide, by decide, by decide +kernel⟩
theorem d_B_sentByAll_0 : decode prog_1_method_23_code 0 = .ok (.iconst 1, 1) := by decide +kernel
theorem d_B_sentByAll_1 : decode prog_1_method_23_code 1 = .ok (.istore_n 1, 1) := by decide +kernel
theorem d_B_sentByAll_2 : decode prog_1_method_23_code 2 = .ok (.iconst 0, 1) := by decide +kernel
theorem d_B_sentByAll_3 : decode prog_1_method_23_code 3 = .ok (.istore_n 2, 1) := by decide +kernel
theorem d_B_sentByAll_4 : decode prog_1_method_23_code 4 = .ok (.iload_n 2, 1) := by decide +kernel
theorem d_B_sentByAll_5 : decode prog_1_method_23_code 5 = .ok (.bipush 8, 2) := by decide +kernel
theorem d_B_sentByAll_7 : decode prog_1_method_23_code 7 = .ok (.if_icmp .ge 25, 3) := by decide +kernel
theorem d_B_sentByAll_10 : decode prog_1_method_23_code 10 = .ok (.iload_n 1, 1) := by decide +kernel
theorem d_B_sentByAll_11 : decode prog_1_method_23_code 11 = .ok (.aload_n 0, 1) := by decide +kernel
theorem d_B_sentByAll_12 : decode prog_1_method_23_code 12 = .ok (.getfield 11, 3) := by decide +kernel
theorem d_B_sentByAll_15 : decode prog_1_method_23_code 15 = .ok (.iload_n 2, 1) := by decide +kernel
theorem d_B_sentByAll_16 : decode prog_1_method_23_code 16 = .ok (.aaload, 1) := by decide +kernel
theorem d_B_sentByAll_17 : decode prog_1_method_23_code 17 = .ok (.aload_n 0, 1) := by decide +kernel
theorem d_B_sentByAll_18 : decode prog_1_method_23_code 18 = .ok (.getfield 37, 3) := by decide +kernel
theorem d_B_sentByAll_21 : decode prog_1_method_23_code 21 = .ok (.invokevirtual 212, 3) := by decide +kernel
theorem d_B_sentByAll_24 : decode prog_1_method_23_code 24 = .ok (.iand, 1) := by decide +kernel
theorem d_B_sentByAll_25 : decode prog_1_method_23_code 25 = .ok (.istore_n 1, 1) := by decide +kernel
theorem d_B_sentByAll_26 : decode prog_1_method_23_code 26 = .ok (.iinc 2 1, 3) := by decide +kernel
theorem d_B_sentByAll_29 : decode prog_1_method_23_code 29 = .ok (.goto (-25), 3) := by decide +kernel
theorem d_B_sentByAll_32 : decode prog_1_method_23_code 32 = .ok (.iload_n 1, 1) := by decide +kernel
theorem d_B_sentByAll_33 : decode prog_1_method_23_code 33 = .ok (.ireturn, 1) := by decide +kernel
def b_B_sentByAll_4 (post : Option Value → Mm → Prop) : Kk := i_loop [0, 1, 2] (fun k4 => (i_iload 2 (i_push (.int 8) (i_icmp (fun x y => y ≤ x) (i_iload 1 (i_iret post)) (i_iload 1 (i_aload 0 (i_getR 3 0 (i_iload 2 (i_aald 12 (i_aload 0 (i_getI 3 6 (i_callV 1 1 w_S_nextBit (i_bin (fun x y => x &&& y) (i_istore 1 (i_iinc 2 1 k4)))))))))))))))
theorem t_B_sentByAll_4 {Z : Zt} {X0 : Mm} {post : Option Value → Mm → Prop} (g : Good Z prog_1_method_23_code 3 "BusTelegrams" 4) (hq : RetZ Z true X0 0 0 post) (hr : (zM Z).sig.returnType = (some .int)) : Snd Z 3 4 (b_B_sentByAll_4 post) := by
  unfold b_B_sentByAll_4
  exact s_loop (fun k4 hk4 => (s_iload_n g d_B_sentByAll_4 rfl (s_push_bipush g d_B_sentByAll_5 (by decide) (s_icmp_ge g d_B_sentByAll_7 (by decide) (s_iload_n g d_B_sentByAll_32 rfl (s_iret0 g hq hr d_B_sentByAll_33)) (s_iload_n g d_B_sentByAll_10 rfl (s_aload_n g d_B_sentByAll_11 rfl (s_getR g (c := 3) (j := 0) cok_3 (by decide) rfl mw_159 rfl d_B_sentByAll_12 (s_iload_n g d_B_sentByAll_15 rfl (s_aald12 g d_B_sentByAll_16 (s_aload_n g d_B_sentByAll_17 rfl (s_getI g (c := 3) (j := 6) cok_3 (by decide) rfl mw_165 rfl d_B_sentByAll_18 (s_callV g (C_S_nextBit (zl Z)) (gin_V mw_405 mw_406 mw_407 mw_3 mw_408) hd_S_nextBit rfl (by decide) (by decide) (by decide) d_B_sentByAll_21 (s_iand g d_B_sentByAll_24 (s_istore_n g (by decide) d_B_sentByAll_25 rfl (s_iinc g (by decide) d_B_sentByAll_26 (by decide) (s_goto g d_B_sentByAll_29 (by decide) hk4))))))))))))))))
def b_B_sentByAll_0 (post : Option Value → Mm → Prop) : Kk := (i_push (.int 1) (i_istore 1 (i_push (.int 0) (i_istore 2 (b_B_sentByAll_4 post)))))
theorem t_B_sentByAll_0 {Z : Zt} {X0 : Mm} {post : Option Value → Mm → Prop} (g : Good Z prog_1_method_23_code 3 "BusTelegrams" 4) (hq : RetZ Z true X0 0 0 post) (hr : (zM Z).sig.returnType = (some .int)) : Snd Z 3 0 (b_B_sentByAll_0 post) := by
  unfold b_B_sentByAll_0
  exact (s_push_iconst g d_B_sentByAll_0 (by decide) (s_istore_n g (by decide) d_B_sentByAll_1 rfl (s_push_iconst g d_B_sentByAll_2 (by decide) (s_istore_n g (by decide) d_B_sentByAll_3 rfl (t_B_sentByAll_4 g hq hr)))))
def w_B_sentByAll : Wp := wpOf 3 (fun _ post => b_B_sentByAll_0 post)
theorem C_B_sentByAll (l : Launch) : MetS l ({ cls := "BusTelegrams", name := "sentByAll", desc := "()I" } : Jvm.MethodName) prog_1_method_23_code 3 (some .int) true 4 0 0 w_B_sentByAll := metS_of (by decide +kernel) (fun Z X0 post hZ g hq hr _ => t_B_sentByAll_0 g hq hr)
theorem hd_B_sentByAll : (({ cls := "BusTelegrams", name := "sentByAll", desc := "()I" } : Jvm.MethodName)).cls = "BusTelegrams" ∧ (({ cls := "BusTelegrams", name := "sentByAll", desc := "()I" } : Jvm.MethodName)).cls ≠ "java/lang/invoke/MethodHandle" ∧ (({ cls := "BusTelegrams", name := "sentByAll", desc := "()I" } : Jvm.MethodName)).cls ≠ "java/lang/invoke/VarHandle" ∧ (parseMethodDescriptor (({ cls := "BusTelegrams", name := "sentByAll", desc := "()I" } : Jvm.MethodName)).desc).map (fun d => d.parameters.length) = some 0 := ⟨rfl, by decide, by decide, by decide +kernel⟩
theorem d_B_passBitTime_0 : decode prog_1_method_21_code 0 = .ok (.aload_n 0, 1) := by decide +kernel
theorem d_B_passBitTime_1 : decode prog_1_method_21_code 1 = .ok (.dup, 1) := by decide +kernel
theorem d_B_passBitTime_2 : decode prog_1_method_21_code 2 = .ok (.getfield 34, 3) := by decide +kernel
theorem d_B_passBitTime_5 : decode prog_1_method_21_code 5 = .ok (.iconst 1, 1) := by decide +kernel
theorem d_B_passBitTime_6 : decode prog_1_method_21_code 6 = .ok (.iadd, 1) := by decide +kernel
theorem d_B_passBitTime_7 : decode prog_1_method_21_code 7 = .ok (.putfield 34, 3) := by decide +kernel
theorem d_B_passBitTime_10 : decode prog_1_method_21_code 10 = .ok (.aload_n 0, 1) := by decide +kernel
theorem d_B_passBitTime_11 : decode prog_1_method_21_code 11 = .ok (.invokevirtual 166, 3) := by decide +kernel
theorem d_B_passBitTime_14 : decode prog_1_method_21_code 14 = .ok (.aload_n 0, 1) := by decide +kernel
theorem d_B_passBitTime_15 : decode prog_1_method_21_code 15 = .ok (.invokevirtual 169, 3) := by decide +kernel
theorem d_B_passBitTime_18 : decode prog_1_method_21_code 18 = .ok (.istore_n 1, 1) := by decide +kernel
theorem d_B_passBitTime_19 : decode prog_1_method_21_code 19 = .ok (.aload_n 0, 1) := by decide +kernel
theorem d_B_passBitTime_20 : decode prog_1_method_21_code 20 = .ok (.invokevirtual 173, 3) := by decide +kernel
theorem d_B_passBitTime_23 : decode prog_1_method_21_code 23 = .ok (.ifCond .eq 5, 3) := by decide +kernel
theorem d_B_passBitTime_26 : decode prog_1_method_21_code 26 = .ok (.iconst 0, 1) := by decide +kernel
theorem d_B_passBitTime_27 : decode prog_1_method_21_code 27 = .ok (.istore_n 1, 1) := by decide +kernel
theorem d_B_passBitTime_28 : decode prog_1_method_21_code 28 = .ok (.iconst 0, 1) := by decide +kernel
theorem d_B_passBitTime_29 : decode prog_1_method_21_code 29 = .ok (.istore_n 2, 1) := by decide +kernel
theorem d_B_passBitTime_30 : decode prog_1_method_21_code 30 = .ok (.iload_n 2, 1) := by decide +kernel
theorem d_B_passBitTime_31 : decode prog_1_method_21_code 31 = .ok (.bipush 8, 2) := by decide +kernel
theorem d_B_passBitTime_33 : decode prog_1_method_21_code 33 = .ok (.if_icmp .ge 23, 3) := by decide +kernel
theorem d_B_passBitTime_36 : decode prog_1_method_21_code 36 = .ok (.aload_n 0, 1) := by decide +kernel
theorem d_B_passBitTime_37 : decode prog_1_method_21_code 37 = .ok (.getfield 11, 3) := by decide +kernel
theorem d_B_passBitTime_40 : decode prog_1_method_21_code 40 = .ok (.iload_n 2, 1) := by decide +kernel
theorem d_B_passBitTime_41 : decode prog_1_method_21_code 41 = .ok (.aaload, 1) := by decide +kernel
theorem d_B_passBitTime_42 : decode prog_1_method_21_code 42 = .ok (.iload_n 1, 1) := by decide +kernel
theorem d_B_passBitTime_43 : decode prog_1_method_21_code 43 = .ok (.aload_n 0, 1) := by decide +kernel
theorem d_B_passBitTime_44 : decode prog_1_method_21_code 44 = .ok (.getfield 34, 3) := by decide +kernel
theorem d_B_passBitTime_47 : decode prog_1_method_21_code 47 = .ok (.invokevirtual 177, 3) := by decide +kernel
theorem d_B_passBitTime_50 : decode prog_1_method_21_code 50 = .ok (.iinc 2 1, 3) := by decide +kernel
theorem d_B_passBitTime_53 : decode prog_1_method_21_code 53 = .ok (.goto (-23), 3) := by decide +kernel
theorem d_B_passBitTime_56 : decode prog_1_method_21_code 56 = .ok (.aload_n 0, 1) := by decide +kernel
theorem d_B_passBitTime_57 : decode prog_1_method_21_code 57 = .ok (.getfield 18, 3) := by decide +kernel
theorem d_B_passBitTime_60 : decode prog_1_method_21_code 60 = .ok (.iload_n 1, 1) := by decide +kernel
theorem d_B_passBitTime_61 : decode prog_1_method_21_code 61 = .ok (.aload_n 0, 1) := by decide +kernel
theorem d_B_passBitTime_62 : decode prog_1_method_21_code 62 = .ok (.getfield 34, 3) := by decide +kernel
theorem d_B_passBitTime_65 : decode prog_1_method_21_code 65 = .ok (.invokevirtual 181, 3) := by decide +kernel
theorem d_B_passBitTime_68 : decode prog_1_method_21_code 68 = .ok (.aload_n 0, 1) := by decide +kernel
theorem d_B_passBitTime_69 : decode prog_1_method_21_code 69 = .ok (.getfield 18, 3) := by decide +kernel
theorem d_B_passBitTime_72 : decode prog_1_method_21_code 72 = .ok (.aload_n 0, 1) := by decide +kernel
theorem d_B_passBitTime_73 : decode prog_1_method_21_code 73 = .ok (.getfield 34, 3) := by decide +kernel
theorem d_B_passBitTime_76 : decode prog_1_method_21_code 76 = .ok (.invokevirtual 184, 3) := by decide +kernel
theorem d_B_passBitTime_79 : decode prog_1_method_21_code 79 = .ok (.istore_n 2, 1) := by decide +kernel
theorem d_B_passBitTime_80 : decode prog_1_method_21_code 80 = .ok (.iconst 0, 1) := by decide +kernel
theorem d_B_passBitTime_81 : decode prog_1_method_21_code 81 = .ok (.istore_n 3, 1) := by decide +kernel
theorem d_B_passBitTime_82 : decode prog_1_method_21_code 82 = .ok (.iload_n 3, 1) := by decide +kernel
theorem d_B_passBitTime_83 : decode prog_1_method_21_code 83 = .ok (.bipush 8, 2) := by decide +kernel
theorem d_B_passBitTime_85 : decode prog_1_method_21_code 85 = .ok (.if_icmp .ge 23, 3) := by decide +kernel
theorem d_B_passBitTime_88 : decode prog_1_method_21_code 88 = .ok (.aload_n 0, 1) := by decide +kernel
theorem d_B_passBitTime_89 : decode prog_1_method_21_code 89 = .ok (.getfield 11, 3) := by decide +kernel
theorem d_B_passBitTime_92 : decode prog_1_method_21_code 92 = .ok (.iload_n 3, 1) := by decide +kernel
theorem d_B_passBitTime_93 : decode prog_1_method_21_code 93 = .ok (.aaload, 1) := by decide +kernel
theorem d_B_passBitTime_94 : decode prog_1_method_21_code 94 = .ok (.iload_n 2, 1) := by decide +kernel
theorem d_B_passBitTime_95 : decode prog_1_method_21_code 95 = .ok (.aload_n 0, 1) := by decide +kernel
theorem d_B_passBitTime_96 : decode prog_1_method_21_code 96 = .ok (.getfield 34, 3) := by decide +kernel
theorem d_B_passBitTime_99 : decode prog_1_method_21_code 99 = .ok (.invokevirtual 188, 3) := by decide +kernel
theorem d_B_passBitTime_102 : decode prog_1_method_21_code 102 = .ok (.iinc 3 1, 3) := by decide +kernel
theorem d_B_passBitTime_105 : decode prog_1_method_21_code 105 = .ok (.goto (-23), 3) := by decide +kernel
theorem d_B_passBitTime_108 : decode prog_1_method_21_code 108 = .ok (.aload_n 0, 1) := by decide +kernel
theorem d_B_passBitTime_109 : decode prog_1_method_21_code 109 = .ok (.iload_n 1, 1) := by decide +kernel
theorem d_B_passBitTime_110 : decode prog_1_method_21_code 110 = .ok (.iconst 1, 1) := by decide +kernel
theorem d_B_passBitTime_111 : decode prog_1_method_21_code 111 = .ok (.if_icmp .ne 12, 3) := by decide +kernel
theorem d_B_passBitTime_114 : decode prog_1_method_21_code 114 = .ok (.aload_n 0, 1) := by decide +kernel
theorem d_B_passBitTime_115 : decode prog_1_method_21_code 115 = .ok (.getfield 37, 3) := by decide +kernel
theorem d_B_passBitTime_118 : decode prog_1_method_21_code 118 = .ok (.iconst 1, 1) := by decide +kernel
theorem d_B_passBitTime_119 : decode prog_1_method_21_code 119 = .ok (.iadd, 1) := by decide +kernel
theorem d_B_passBitTime_120 : decode prog_1_method_21_code 120 = .ok (.goto 4, 3) := by decide +kernel
theorem d_B_passBitTime_123 : decode prog_1_method_21_code 123 = .ok (.iconst 0, 1) := by decide +kernel
theorem d_B_passBitTime_124 : decode prog_1_method_21_code 124 = .ok (.putfield 37, 3) := by decide +kernel
theorem d_B_passBitTime_127 : decode prog_1_method_21_code 127 = .ok (.aload_n 0, 1) := by decide +kernel
theorem d_B_passBitTime_128 : decode prog_1_method_21_code 128 = .ok (.getfield 30, 3) := by decide +kernel
theorem d_B_passBitTime_131 : decode prog_1_method_21_code 131 = .ok (.aload_n 0, 1) := by decide +kernel
theorem d_B_passBitTime_132 : decode prog_1_method_21_code 132 = .ok (.getfield 34, 3) := by decide +kernel
theorem d_B_passBitTime_135 : decode prog_1_method_21_code 135 = .ok (.invokestatic 118, 3) := by decide +kernel
theorem d_B_passBitTime_138 : decode prog_1_method_21_code 138 = .ok (.iload_n 1, 1) := by decide +kernel
theorem d_B_passBitTime_139 : decode prog_1_method_21_code 139 = .ok (.iastore, 1) := by decide +kernel
theorem d_B_passBitTime_140 : decode prog_1_method_21_code 140 = .ok (.return_, 1) := by decide +kernel
def b_B_passBitTime_124 (post : Option Value → Mm → Prop) : Kk := (i_putI 3 6 (i_aload 0 (i_getR 3 4 (i_aload 0 (i_getI 3 5 (i_callS 1 w_B_bitPlace (i_iload 1 (i_ast (i_vret post)))))))))
theorem t_B_passBitTime_124 {Z : Zt} {X0 : Mm} {post : Option Value → Mm → Prop} (g : Good Z prog_1_method_21_code 4 "BusTelegrams" 5) (hq : RetZ Z true X0 0 0 post) (hr : (zM Z).sig.returnType = none) : Snd Z 4 124 (b_B_passBitTime_124 post) := by
  unfold b_B_passBitTime_124
  exact (s_putI g (c := 3) (j := 6) cok_3 (by decide) rfl rfl rfl mw_165 rfl d_B_passBitTime_124 (s_aload_n g d_B_passBitTime_127 rfl (s_getR g (c := 3) (j := 4) cok_3 (by decide) rfl mw_163 rfl d_B_passBitTime_128 (s_aload_n g d_B_passBitTime_131 rfl (s_getI g (c := 3) (j := 5) cok_3 (by decide) rfl mw_164 rfl d_B_passBitTime_132 (s_callS g (C_B_bitPlace (zl Z)) (gin_S mw_492 mw_493 mw_1 mw_494) hd_B_bitPlace (by decide) (by decide) d_B_passBitTime_135 (s_iload_n g d_B_passBitTime_138 rfl (s_iast g d_B_passBitTime_139 (s_vret0 g hq hr d_B_passBitTime_140)))))))))
def b_B_passBitTime_82 (post : Option Value → Mm → Prop) : Kk := i_loop [0, 1, 2, 3] (fun k82 => (i_iload 3 (i_push (.int 8) (i_icmp (fun x y => y ≤ x) (i_aload 0 (i_iload 1 (i_push (.int 1) (i_icmp (fun x y => x = y) (i_aload 0 (i_getI 3 6 (i_push (.int 1) (i_bin (fun x y => x + y) (b_B_passBitTime_124 post))))) (i_push (.int 0) (b_B_passBitTime_124 post)))))) (i_aload 0 (i_getR 3 0 (i_iload 3 (i_aald 12 (i_iload 2 (i_aload 0 (i_getI 3 5 (i_callV 2 1 w_S_endWait (i_iinc 3 1 k82)))))))))))))
theorem t_B_passBitTime_82 {Z : Zt} {X0 : Mm} {post : Option Value → Mm → Prop} (g : Good Z prog_1_method_21_code 4 "BusTelegrams" 5) (hq : RetZ Z true X0 0 0 post) (hr : (zM Z).sig.returnType = none) : Snd Z 4 82 (b_B_passBitTime_82 post) := by
  unfold b_B_passBitTime_82
  exact s_loop (fun k82 hk82 => (s_iload_n g d_B_passBitTime_82 rfl (s_push_bipush g d_B_passBitTime_83 (by decide) (s_icmp_ge g d_B_passBitTime_85 (by decide) (s_aload_n g d_B_passBitTime_108 rfl (s_iload_n g d_B_passBitTime_109 rfl (s_push_iconst g d_B_passBitTime_110 (by decide) (s_icmp_ne g d_B_passBitTime_111 (by decide) (s_push_iconst g d_B_passBitTime_123 (by decide) (t_B_passBitTime_124 g hq hr)) (s_aload_n g d_B_passBitTime_114 rfl (s_getI g (c := 3) (j := 6) cok_3 (by decide) rfl mw_165 rfl d_B_passBitTime_115 (s_push_iconst g d_B_passBitTime_118 (by decide) (s_iadd g d_B_passBitTime_119 (s_goto g d_B_passBitTime_120 (by decide) (t_B_passBitTime_124 g hq hr)))))))))) (s_aload_n g d_B_passBitTime_88 rfl (s_getR g (c := 3) (j := 0) cok_3 (by decide) rfl mw_159 rfl d_B_passBitTime_89 (s_iload_n g d_B_passBitTime_92 rfl (s_aald12 g d_B_passBitTime_93 (s_iload_n g d_B_passBitTime_94 rfl (s_aload_n g d_B_passBitTime_95 rfl (s_getI g (c := 3) (j := 5) cok_3 (by decide) rfl mw_164 rfl d_B_passBitTime_96 (s_callV g (C_S_endWait (zl Z)) (gin_V mw_484 mw_485 mw_486 mw_3 mw_487) hd_S_endWait rfl (by decide) (by decide) (by decide) d_B_passBitTime_99 (s_iinc g (by decide) d_B_passBitTime_102 (by decide) (s_goto g d_B_passBitTime_105 (by decide) hk82))))))))))))))
def b_B_passBitTime_30 (post : Option Value → Mm → Prop) : Kk := i_loop [0, 1, 2] (fun k30 => (i_iload 2 (i_push (.int 8) (i_icmp (fun x y => y ≤ x) (i_aload 0 (i_getR 3 1 (i_iload 1 (i_aload 0 (i_getI 3 5 (i_callV 2 0 w_E_take (i_aload 0 (i_getR 3 1 (i_aload 0 (i_getI 3 5 (i_callV 1 0 w_E_isAccepted (i_istore 2 (i_push (.int 0) (i_istore 3 (b_B_passBitTime_82 post))))))))))))))) (i_aload 0 (i_getR 3 0 (i_iload 2 (i_aald 12 (i_iload 1 (i_aload 0 (i_getI 3 5 (i_callV 2 1 w_S_seeLine (i_iinc 2 1 k30)))))))))))))
theorem t_B_passBitTime_30 {Z : Zt} {X0 : Mm} {post : Option Value → Mm → Prop} (g : Good Z prog_1_method_21_code 4 "BusTelegrams" 5) (hq : RetZ Z true X0 0 0 post) (hr : (zM Z).sig.returnType = none) : Snd Z 4 30 (b_B_passBitTime_30 post) := by
  unfold b_B_passBitTime_30
  exact s_loop (fun k30 hk30 => (s_iload_n g d_B_passBitTime_30 rfl (s_push_bipush g d_B_passBitTime_31 (by decide) (s_icmp_ge g d_B_passBitTime_33 (by decide) (s_aload_n g d_B_passBitTime_56 rfl (s_getR g (c := 3) (j := 1) cok_3 (by decide) rfl mw_160 rfl d_B_passBitTime_57 (s_iload_n g d_B_passBitTime_60 rfl (s_aload_n g d_B_passBitTime_61 rfl (s_getI g (c := 3) (j := 5) cok_3 (by decide) rfl mw_164 rfl d_B_passBitTime_62 (s_callV g (C_E_take (zl Z)) (gin_V mw_448 mw_449 mw_450 mw_2 mw_451) hd_E_take rfl (by decide) (by decide) (by decide) d_B_passBitTime_65 (s_aload_n g d_B_passBitTime_68 rfl (s_getR g (c := 3) (j := 1) cok_3 (by decide) rfl mw_160 rfl d_B_passBitTime_69 (s_aload_n g d_B_passBitTime_72 rfl (s_getI g (c := 3) (j := 5) cok_3 (by decide) rfl mw_164 rfl d_B_passBitTime_73 (s_callV g (C_E_isAccepted (zl Z)) (gin_V mw_480 mw_481 mw_482 mw_2 mw_483) hd_E_isAccepted rfl (by decide) (by decide) (by decide) d_B_passBitTime_76 (s_istore_n g (by decide) d_B_passBitTime_79 rfl (s_push_iconst g d_B_passBitTime_80 (by decide) (s_istore_n g (by decide) d_B_passBitTime_81 rfl (t_B_passBitTime_82 g hq hr))))))))))))))) (s_aload_n g d_B_passBitTime_36 rfl (s_getR g (c := 3) (j := 0) cok_3 (by decide) rfl mw_159 rfl d_B_passBitTime_37 (s_iload_n g d_B_passBitTime_40 rfl (s_aald12 g d_B_passBitTime_41 (s_iload_n g d_B_passBitTime_42 rfl (s_aload_n g d_B_passBitTime_43 rfl (s_getI g (c := 3) (j := 5) cok_3 (by decide) rfl mw_164 rfl d_B_passBitTime_44 (s_callV g (C_S_seeLine (zl Z)) (gin_V mw_435 mw_436 mw_437 mw_3 mw_438) hd_S_seeLine rfl (by decide) (by decide) (by decide) d_B_passBitTime_47 (s_iinc g (by decide) d_B_passBitTime_50 (by decide) (s_goto g d_B_passBitTime_53 (by decide) hk30))))))))))))))
def b_B_passBitTime_28 (post : Option Value → Mm → Prop) : Kk := (i_push (.int 0) (i_istore 2 (b_B_passBitTime_30 post)))
theorem t_B_passBitTime_28 {Z : Zt} {X0 : Mm} {post : Option Value → Mm → Prop} (g : Good Z prog_1_method_21_code 4 "BusTelegrams" 5) (hq : RetZ Z true X0 0 0 post) (hr : (zM Z).sig.returnType = none) : Snd Z 4 28 (b_B_passBitTime_28 post) := by
  unfold b_B_passBitTime_28
  exact (s_push_iconst g d_B_passBitTime_28 (by decide) (s_istore_n g (by decide) d_B_passBitTime_29 rfl (t_B_passBitTime_30 g hq hr)))
def b_B_passBitTime_0 (post : Option Value → Mm → Prop) : Kk := (i_aload 0 (i_dup (i_getI 3 5 (i_push (.int 1) (i_bin (fun x y => x + y) (i_putI 3 5 (i_aload 0 (i_callV 0 3 w_B_beginAnswers (i_aload 0 (i_callV 0 3 w_B_sentByAll (i_istore 1 (i_aload 0 (i_callV 0 3 w_B_takeDisturbance (i_if (fun x y => x = y) (b_B_passBitTime_28 post) (i_push (.int 0) (i_istore 1 (b_B_passBitTime_28 post)))))))))))))))))
theorem t_B_passBitTime_0 {Z : Zt} {X0 : Mm} {post : Option Value → Mm → Prop} (g : Good Z prog_1_method_21_code 4 "BusTelegrams" 5) (hq : RetZ Z true X0 0 0 post) (hr : (zM Z).sig.returnType = none) : Snd Z 4 0 (b_B_passBitTime_0 post) := by
  unfold b_B_passBitTime_0
  exact (s_aload_n g d_B_passBitTime_0 rfl (s_dup g d_B_passBitTime_1 (s_getI g (c := 3) (j := 5) cok_3 (by decide) rfl mw_164 rfl d_B_passBitTime_2 (s_push_iconst g d_B_passBitTime_5 (by decide) (s_iadd g d_B_passBitTime_6 (s_putI g (c := 3) (j := 5) cok_3 (by decide) rfl rfl rfl mw_164 rfl d_B_passBitTime_7 (s_aload_n g d_B_passBitTime_10 rfl (s_callV g (C_B_beginAnswers (zl Z)) (gin_V mw_377 mw_379 ms_3 mw_1 mw_380) hd_B_beginAnswers rfl (by decide) (by decide) (by decide) d_B_passBitTime_11 (s_aload_n g d_B_passBitTime_14 rfl (s_callV g (C_B_sentByAll (zl Z)) (gin_V mw_401 mw_403 ms_4 mw_1 mw_404) hd_B_sentByAll rfl (by decide) (by decide) (by decide) d_B_passBitTime_15 (s_istore_n g (by decide) d_B_passBitTime_18 rfl (s_aload_n g d_B_passBitTime_19 rfl (s_callV g (C_B_takeDisturbance (zl Z)) (gin_V mw_431 mw_433 ms_6 mw_1 mw_434) hd_B_takeDisturbance rfl (by decide) (by decide) (by decide) d_B_passBitTime_20 (s_if_eq g d_B_passBitTime_23 (by decide) (t_B_passBitTime_28 g hq hr) (s_push_iconst g d_B_passBitTime_26 (by decide) (s_istore_n g (by decide) d_B_passBitTime_27 rfl (t_B_passBitTime_28 g hq hr)))))))))))))))))
def w_B_passBitTime : Wp := wpOf 4 (fun _ post => b_B_passBitTime_0 post)
theorem C_B_passBitTime (l : Launch) : MetS l ({ cls := "BusTelegrams", name := "passBitTime", desc := "()V" } : Jvm.MethodName) prog_1_method_21_code 4 none true 5 0 0 w_B_passBitTime := metS_of (by decide +kernel) (fun Z X0 post hZ g hq hr _ => t_B_passBitTime_0 g hq hr)
theorem hd_B_passBitTime : (({ cls := "BusTelegrams", name := "passBitTime", desc := "()V" } : Jvm.MethodName)).cls = "BusTelegrams" ∧ (({ cls := "BusTelegrams", name := "passBitTime", desc := "()V" } : Jvm.MethodName)).cls ≠ "java/lang/invoke/MethodHandle" ∧ (({ cls := "BusTelegrams", name := "passBitTime", desc := "()V" } : Jvm.MethodName)).cls ≠ "java/lang/invoke/VarHandle" ∧ (parseMethodDescriptor (({ cls := "BusTelegrams", name := "passBitTime", desc := "()V" } : Jvm.MethodName)).desc).map (fun d => d.parameters.length) = some 0 := ⟨rfl, by decide, by decide, by decide +kernel⟩
end
section
/-! the methods, as continuations, and their contracts (by program out of the bytecode) -/
theorem d_M_thrown_0 : decode prog_6_method_2_code 0 = .ok (.aload_n 0, 1) := by decide +kernel
theorem d_M_thrown_1 : decode prog_6_method_2_code 1 = .ok (.getfield 70, 3) := by decide +kernel
theorem d_M_thrown_4 : decode prog_6_method_2_code 4 = .ok (.ireturn, 1) := by decide +kernel
def b_M_thrown_0 (post : Option Value → Mm → Prop) : Kk := (i_aload 0 (i_getI 4 0 (i_iret post)))
theorem t_M_thrown_0 {Z : Zt} {X0 : Mm} {post : Option Value → Mm → Prop} (g : Good Z prog_6_method_2_code 1 "BusTelegramsModel" 0) (hq : RetZ Z true X0 0 0 post) (hr : (zM Z).sig.returnType = (some .int)) : Snd Z 1 0 (b_M_thrown_0 post) := by
  unfold b_M_thrown_0
  exact (s_aload_n g d_M_thrown_0 rfl (s_getI g (c := 4) (j := 0) cok_4 (by decide) rfl mw_554 rfl d_M_thrown_1 (s_iret0 g hq hr d_M_thrown_4)))
def w_M_thrown : Wp := wpOf 1 (fun _ post => b_M_thrown_0 post)
theorem C_M_thrown (l : Launch) : MetS l ({ cls := "BusTelegramsModel", name := "thrown", desc := "()I" } : Jvm.MethodName) prog_6_method_2_code 1 (some .int) true 0 0 0 w_M_thrown := metS_of (by decide +kernel) (fun Z X0 post hZ g hq hr _ => t_M_thrown_0 g hq hr)
theorem hd_M_thrown : (({ cls := "BusTelegramsModel", name := "thrown", desc := "()I" } : Jvm.MethodName)).cls = "BusTelegramsModel" ∧ (({ cls := "BusTelegramsModel", name := "thrown", desc := "()I" } : Jvm.MethodName)).cls ≠ "java/lang/invoke/MethodHandle" ∧ (({ cls := "BusTelegramsModel", name := "thrown", desc := "()I" } : Jvm.MethodName)).cls ≠ "java/lang/invoke/VarHandle" ∧ (parseMethodDescriptor (({ cls := "BusTelegramsModel", name := "thrown", desc := "()I" } : Jvm.MethodName)).desc).map (fun d => d.parameters.length) = some 0 := ⟨rfl, by decide, by decide, by decide +kernel⟩
theorem d_M_isIn_0 : decode prog_6_method_3_code 0 = .ok (.iload_n 0, 1) := by decide +kernel
theorem d_M_isIn_1 : decode prog_6_method_3_code 1 = .ok (.iload_n 1, 1) := by decide +kernel
theorem d_M_isIn_2 : decode prog_6_method_3_code 2 = .ok (.if_icmp .lt 12, 3) := by decide +kernel
theorem d_M_isIn_5 : decode prog_6_method_3_code 5 = .ok (.iload_n 0, 1) := by decide +kernel
theorem d_M_isIn_6 : decode prog_6_method_3_code 6 = .ok (.iload_n 2, 1) := by decide +kernel
theorem d_M_isIn_7 : decode prog_6_method_3_code 7 = .ok (.if_icmp .gt 7, 3) := by decide +kernel
theorem d_M_isIn_10 : decode prog_6_method_3_code 10 = .ok (.iconst 1, 1) := by decide +kernel
theorem d_M_isIn_11 : decode prog_6_method_3_code 11 = .ok (.goto 4, 3) := by decide +kernel
theorem d_M_isIn_14 : decode prog_6_method_3_code 14 = .ok (.iconst 0, 1) := by decide +kernel
theorem d_M_isIn_15 : decode prog_6_method_3_code 15 = .ok (.ireturn, 1) := by decide +kernel
def b_M_isIn_15 (post : Option Value → Mm → Prop) : Kk := (i_zret post)
theorem t_M_isIn_15 {Z : Zt} {X0 : Mm} {post : Option Value → Mm → Prop} (g : Good Z prog_6_method_3_code 3 "BusTelegramsModel" 0) (hq : RetZ Z true X0 0 0 post) (hr : (zM Z).sig.returnType = (some .boolean)) : Snd Z 3 15 (b_M_isIn_15 post) := by
  unfold b_M_isIn_15
  exact (s_zret0 g hq hr d_M_isIn_15)
def b_M_isIn_14 (post : Option Value → Mm → Prop) : Kk := (i_push (.int 0) (b_M_isIn_15 post))
theorem t_M_isIn_14 {Z : Zt} {X0 : Mm} {post : Option Value → Mm → Prop} (g : Good Z prog_6_method_3_code 3 "BusTelegramsModel" 0) (hq : RetZ Z true X0 0 0 post) (hr : (zM Z).sig.returnType = (some .boolean)) : Snd Z 3 14 (b_M_isIn_14 post) := by
  unfold b_M_isIn_14
  exact (s_push_iconst g d_M_isIn_14 (by decide) (t_M_isIn_15 g hq hr))
def b_M_isIn_0 (post : Option Value → Mm → Prop) : Kk := (i_iload 0 (i_iload 1 (i_icmp (fun x y => x < y) (b_M_isIn_14 post) (i_iload 0 (i_iload 2 (i_icmp (fun x y => y < x) (b_M_isIn_14 post) (i_push (.int 1) (b_M_isIn_15 post))))))))
theorem t_M_isIn_0 {Z : Zt} {X0 : Mm} {post : Option Value → Mm → Prop} (g : Good Z prog_6_method_3_code 3 "BusTelegramsModel" 0) (hq : RetZ Z true X0 0 0 post) (hr : (zM Z).sig.returnType = (some .boolean)) : Snd Z 3 0 (b_M_isIn_0 post) := by
  unfold b_M_isIn_0
  exact (s_iload_n g d_M_isIn_0 rfl (s_iload_n g d_M_isIn_1 rfl (s_icmp_lt g d_M_isIn_2 (by decide) (t_M_isIn_14 g hq hr) (s_iload_n g d_M_isIn_5 rfl (s_iload_n g d_M_isIn_6 rfl (s_icmp_gt g d_M_isIn_7 (by decide) (t_M_isIn_14 g hq hr) (s_push_iconst g d_M_isIn_10 (by decide) (s_goto g d_M_isIn_11 (by decide) (t_M_isIn_15 g hq hr)))))))))
def w_M_isIn : Wp := wpOf 3 (fun _ post => b_M_isIn_0 post)
theorem C_M_isIn (l : Launch) : MetS l ({ cls := "BusTelegramsModel", name := "isIn", desc := "(III)Z" } : Jvm.MethodName) prog_6_method_3_code 3 (some .boolean) true 0 0 0 w_M_isIn := metS_of (by decide +kernel) (fun Z X0 post hZ g hq hr _ => t_M_isIn_0 g hq hr)
theorem hd_M_isIn : (({ cls := "BusTelegramsModel", name := "isIn", desc := "(III)Z" } : Jvm.MethodName)).cls ≠ "java/lang/invoke/MethodHandle" ∧ (({ cls := "BusTelegramsModel", name := "isIn", desc := "(III)Z" } : Jvm.MethodName)).cls ≠ "java/lang/invoke/VarHandle" ∧ (parseMethodDescriptor (({ cls := "BusTelegramsModel", name := "isIn", desc := "(III)Z" } : Jvm.MethodName)).desc).map (fun d => d.parameters.length) = some 3 := ⟨by decide, by decide, by decide +kernel⟩
theorem d_M_isMeant_0 : decode prog_6_method_15_code 0 = .ok (.sipush 256, 3) := by decide +kernel
theorem d_M_isMeant_3 : decode prog_6_method_15_code 3 = .ok (.aload_n 0, 1) := by decide +kernel
theorem d_M_isMeant_4 : decode prog_6_method_15_code 4 = .ok (.getfield 67, 3) := by decide +kernel
theorem d_M_isMeant_7 : decode prog_6_method_15_code 7 = .ok (.iconst 3, 1) := by decide +kernel
theorem d_M_isMeant_8 : decode prog_6_method_15_code 8 = .ok (.iaload, 1) := by decide +kernel
theorem d_M_isMeant_9 : decode prog_6_method_15_code 9 = .ok (.imul, 1) := by decide +kernel
theorem d_M_isMeant_10 : decode prog_6_method_15_code 10 = .ok (.aload_n 0, 1) := by decide +kernel
theorem d_M_isMeant_11 : decode prog_6_method_15_code 11 = .ok (.getfield 67, 3) := by decide +kernel
theorem d_M_isMeant_14 : decode prog_6_method_15_code 14 = .ok (.iconst 4, 1) := by decide +kernel
theorem d_M_isMeant_15 : decode prog_6_method_15_code 15 = .ok (.iaload, 1) := by decide +kernel
theorem d_M_isMeant_16 : decode prog_6_method_15_code 16 = .ok (.iadd, 1) := by decide +kernel
theorem d_M_isMeant_17 : decode prog_6_method_15_code 17 = .ok (.istore_n 2, 1) := by decide +kernel
theorem d_M_isMeant_18 : decode prog_6_method_15_code 18 = .ok (.aload_n 0, 1) := by decide +kernel
theorem d_M_isMeant_19 : decode prog_6_method_15_code 19 = .ok (.getfield 67, 3) := by decide +kernel
theorem d_M_isMeant_22 : decode prog_6_method_15_code 22 = .ok (.iconst 5, 1) := by decide +kernel
theorem d_M_isMeant_23 : decode prog_6_method_15_code 23 = .ok (.iaload, 1) := by decide +kernel
theorem d_M_isMeant_24 : decode prog_6_method_15_code 24 = .ok (.sipush 128, 3) := by decide +kernel
theorem d_M_isMeant_27 : decode prog_6_method_15_code 27 = .ok (.if_icmp .lt 33, 3) := by decide +kernel
theorem d_M_isMeant_30 : decode prog_6_method_15_code 30 = .ok (.iload_n 2, 1) := by decide +kernel
theorem d_M_isMeant_31 : decode prog_6_method_15_code 31 = .ok (.sipush 256, 3) := by decide +kernel
theorem d_M_isMeant_34 : decode prog_6_method_15_code 34 = .ok (.if_icmp .ge 22, 3) := by decide +kernel
theorem d_M_isMeant_37 : decode prog_6_method_15_code 37 = .ok (.aload_n 0, 1) := by decide +kernel
theorem d_M_isMeant_38 : decode prog_6_method_15_code 38 = .ok (.getfield 18, 3) := by decide +kernel
theorem d_M_isMeant_41 : decode prog_6_method_15_code 41 = .ok (.sipush 256, 3) := by decide +kernel
theorem d_M_isMeant_44 : decode prog_6_method_15_code 44 = .ok (.iload_n 1, 1) := by decide +kernel
theorem d_M_isMeant_45 : decode prog_6_method_15_code 45 = .ok (.imul, 1) := by decide +kernel
theorem d_M_isMeant_46 : decode prog_6_method_15_code 46 = .ok (.iload_n 2, 1) := by decide +kernel
theorem d_M_isMeant_47 : decode prog_6_method_15_code 47 = .ok (.iadd, 1) := by decide +kernel
theorem d_M_isMeant_48 : decode prog_6_method_15_code 48 = .ok (.baload, 1) := by decide +kernel
theorem d_M_isMeant_49 : decode prog_6_method_15_code 49 = .ok (.ifCond .eq 7, 3) := by decide +kernel
theorem d_M_isMeant_52 : decode prog_6_method_15_code 52 = .ok (.iconst 1, 1) := by decide +kernel
theorem d_M_isMeant_53 : decode prog_6_method_15_code 53 = .ok (.goto 22, 3) := by decide +kernel
theorem d_M_isMeant_56 : decode prog_6_method_15_code 56 = .ok (.iconst 0, 1) := by decide +kernel
theorem d_M_isMeant_57 : decode prog_6_method_15_code 57 = .ok (.goto 18, 3) := by decide +kernel
theorem d_M_isMeant_60 : decode prog_6_method_15_code 60 = .ok (.aload_n 0, 1) := by decide +kernel
theorem d_M_isMeant_61 : decode prog_6_method_15_code 61 = .ok (.getfield 14, 3) := by decide +kernel
theorem d_M_isMeant_64 : decode prog_6_method_15_code 64 = .ok (.iload_n 1, 1) := by decide +kernel
theorem d_M_isMeant_65 : decode prog_6_method_15_code 65 = .ok (.iaload, 1) := by decide +kernel
theorem d_M_isMeant_66 : decode prog_6_method_15_code 66 = .ok (.iload_n 2, 1) := by decide +kernel
theorem d_M_isMeant_67 : decode prog_6_method_15_code 67 = .ok (.if_icmp .ne 7, 3) := by decide +kernel
theorem d_M_isMeant_70 : decode prog_6_method_15_code 70 = .ok (.iconst 1, 1) := by decide +kernel
theorem d_M_isMeant_71 : decode prog_6_method_15_code 71 = .ok (.goto 4, 3) := by decide +kernel
theorem d_M_isMeant_74 : decode prog_6_method_15_code 74 = .ok (.iconst 0, 1) := by decide +kernel
theorem d_M_isMeant_75 : decode prog_6_method_15_code 75 = .ok (.ireturn, 1) := by decide +kernel
def b_M_isMeant_75 (post : Option Value → Mm → Prop) : Kk := (i_zret post)
theorem t_M_isMeant_75 {Z : Zt} {X0 : Mm} {post : Option Value → Mm → Prop} (g : Good Z prog_6_method_15_code 3 "BusTelegramsModel" 0) (hq : RetZ Z true X0 0 0 post) (hr : (zM Z).sig.returnType = (some .boolean)) : Snd Z 3 75 (b_M_isMeant_75 post) := by
  unfold b_M_isMeant_75
  exact (s_zret0 g hq hr d_M_isMeant_75)
def b_M_isMeant_56 (post : Option Value → Mm → Prop) : Kk := (i_push (.int 0) (b_M_isMeant_75 post))
theorem t_M_isMeant_56 {Z : Zt} {X0 : Mm} {post : Option Value → Mm → Prop} (g : Good Z prog_6_method_15_code 3 "BusTelegramsModel" 0) (hq : RetZ Z true X0 0 0 post) (hr : (zM Z).sig.returnType = (some .boolean)) : Snd Z 3 56 (b_M_isMeant_56 post) := by
  unfold b_M_isMeant_56
  exact (s_push_iconst g d_M_isMeant_56 (by decide) (s_goto g d_M_isMeant_57 (by decide) (t_M_isMeant_75 g hq hr)))
def b_M_isMeant_0 (post : Option Value → Mm → Prop) : Kk := (i_push (.int 256) (i_aload 0 (i_getR 4 34 (i_push (.int 3) (i_ald 10 (i_bin (fun x y => x * y) (i_aload 0 (i_getR 4 34 (i_push (.int 4) (i_ald 10 (i_bin (fun x y => x + y) (i_istore 2 (i_aload 0 (i_getR 4 34 (i_push (.int 5) (i_ald 10 (i_push (.int 128) (i_icmp (fun x y => x < y) (i_aload 0 (i_getR 4 3 (i_iload 1 (i_ald 10 (i_iload 2 (i_icmp (fun x y => x = y) (i_push (.int 1) (b_M_isMeant_75 post)) (i_push (.int 0) (b_M_isMeant_75 post)))))))) (i_iload 2 (i_push (.int 256) (i_icmp (fun x y => y ≤ x) (b_M_isMeant_56 post) (i_aload 0 (i_getR 4 4 (i_push (.int 256) (i_iload 1 (i_bin (fun x y => x * y) (i_iload 2 (i_bin (fun x y => x + y) (i_ald 11 (i_if (fun x y => x = y) (b_M_isMeant_56 post) (i_push (.int 1) (b_M_isMeant_75 post))))))))))))))))))))))))))))))))
theorem t_M_isMeant_0 {Z : Zt} {X0 : Mm} {post : Option Value → Mm → Prop} (g : Good Z prog_6_method_15_code 3 "BusTelegramsModel" 0) (hq : RetZ Z true X0 0 0 post) (hr : (zM Z).sig.returnType = (some .boolean)) : Snd Z 3 0 (b_M_isMeant_0 post) := by
  unfold b_M_isMeant_0
  exact (s_push_sipush g d_M_isMeant_0 (by decide) (s_aload_n g d_M_isMeant_3 rfl (s_getR g (c := 4) (j := 34) cok_4 (by decide) rfl mw_588 rfl d_M_isMeant_4 (s_push_iconst g d_M_isMeant_7 (by decide) (s_iald g d_M_isMeant_8 (s_imul g d_M_isMeant_9 (s_aload_n g d_M_isMeant_10 rfl (s_getR g (c := 4) (j := 34) cok_4 (by decide) rfl mw_588 rfl d_M_isMeant_11 (s_push_iconst g d_M_isMeant_14 (by decide) (s_iald g d_M_isMeant_15 (s_iadd g d_M_isMeant_16 (s_istore_n g (by decide) d_M_isMeant_17 rfl (s_aload_n g d_M_isMeant_18 rfl (s_getR g (c := 4) (j := 34) cok_4 (by decide) rfl mw_588 rfl d_M_isMeant_19 (s_push_iconst g d_M_isMeant_22 (by decide) (s_iald g d_M_isMeant_23 (s_push_sipush g d_M_isMeant_24 (by decide) (s_icmp_lt g d_M_isMeant_27 (by decide) (s_aload_n g d_M_isMeant_60 rfl (s_getR g (c := 4) (j := 3) cok_4 (by decide) rfl mw_557 rfl d_M_isMeant_61 (s_iload_n g d_M_isMeant_64 rfl (s_iald g d_M_isMeant_65 (s_iload_n g d_M_isMeant_66 rfl (s_icmp_ne g d_M_isMeant_67 (by decide) (s_push_iconst g d_M_isMeant_74 (by decide) (t_M_isMeant_75 g hq hr)) (s_push_iconst g d_M_isMeant_70 (by decide) (s_goto g d_M_isMeant_71 (by decide) (t_M_isMeant_75 g hq hr))))))))) (s_iload_n g d_M_isMeant_30 rfl (s_push_sipush g d_M_isMeant_31 (by decide) (s_icmp_ge g d_M_isMeant_34 (by decide) (t_M_isMeant_56 g hq hr) (s_aload_n g d_M_isMeant_37 rfl (s_getR g (c := 4) (j := 4) cok_4 (by decide) rfl mw_558 rfl d_M_isMeant_38 (s_push_sipush g d_M_isMeant_41 (by decide) (s_iload_n g d_M_isMeant_44 rfl (s_imul g d_M_isMeant_45 (s_iload_n g d_M_isMeant_46 rfl (s_iadd g d_M_isMeant_47 (s_zald g d_M_isMeant_48 (s_if_eq g d_M_isMeant_49 (by decide) (t_M_isMeant_56 g hq hr) (s_push_iconst g d_M_isMeant_52 (by decide) (s_goto g d_M_isMeant_53 (by decide) (t_M_isMeant_75 g hq hr)))))))))))))))))))))))))))))))))
def w_M_isMeant : Wp := wpOf 3 (fun _ post => b_M_isMeant_0 post)
theorem C_M_isMeant (l : Launch) : MetS l ({ cls := "BusTelegramsModel", name := "isMeant", desc := "(I)Z" } : Jvm.MethodName) prog_6_method_15_code 3 (some .boolean) true 0 0 0 w_M_isMeant := metS_of (by decide +kernel) (fun Z X0 post hZ g hq hr _ => t_M_isMeant_0 g hq hr)
theorem hd_M_isMeant : (({ cls := "BusTelegramsModel", name := "isMeant", desc := "(I)Z" } : Jvm.MethodName)).cls = "BusTelegramsModel" ∧ (({ cls := "BusTelegramsModel", name := "isMeant", desc := "(I)Z" } : Jvm.MethodName)).cls ≠ "java/lang/invoke/MethodHandle" ∧ (({ cls := "BusTelegramsModel", name := "isMeant", desc := "(I)Z" } : Jvm.MethodName)).cls ≠ "java/lang/invoke/VarHandle" ∧ (parseMethodDescriptor (({ cls := "BusTelegramsModel", name := "isMeant", desc := "(I)Z" } : Jvm.MethodName)).desc).map (fun d => d.parameters.length) = some 1 := ⟨rfl, by decide, by decide, by decide +kernel⟩
theorem d_M_size_0 : decode prog_6_method_10_code 0 = .ok (.bipush 8, 2) := by decide +kernel
theorem d_M_size_2 : decode prog_6_method_10_code 2 = .ok (.aload_n 0, 1) := by decide +kernel
theorem d_M_size_3 : decode prog_6_method_10_code 3 = .ok (.getfield 28, 3) := by decide +kernel
theorem d_M_size_6 : decode prog_6_method_10_code 6 = .ok (.bipush 36, 2) := by decide +kernel
theorem d_M_size_8 : decode prog_6_method_10_code 8 = .ok (.iload_n 1, 1) := by decide +kernel
theorem d_M_size_9 : decode prog_6_method_10_code 9 = .ok (.imul, 1) := by decide +kernel
theorem d_M_size_10 : decode prog_6_method_10_code 10 = .ok (.iconst 3, 1) := by decide +kernel
theorem d_M_size_11 : decode prog_6_method_10_code 11 = .ok (.iadd, 1) := by decide +kernel
theorem d_M_size_12 : decode prog_6_method_10_code 12 = .ok (.iaload, 1) := by decide +kernel
theorem d_M_size_13 : decode prog_6_method_10_code 13 = .ok (.sipush 128, 3) := by decide +kernel
theorem d_M_size_16 : decode prog_6_method_10_code 16 = .ok (.irem, 1) := by decide +kernel
theorem d_M_size_17 : decode prog_6_method_10_code 17 = .ok (.iadd, 1) := by decide +kernel
theorem d_M_size_18 : decode prog_6_method_10_code 18 = .ok (.ireturn, 1) := by decide +kernel
def b_M_size_0 (post : Option Value → Mm → Prop) : Kk := (i_push (.int 8) (i_aload 0 (i_getR 4 7 (i_push (.int 36) (i_iload 1 (i_bin (fun x y => x * y) (i_push (.int 3) (i_bin (fun x y => x + y) (i_ald 10 (i_push (.int 128) (i_binz (fun x y => x - x / y * y) (i_bin (fun x y => x + y) (i_iret post)))))))))))))
theorem t_M_size_0 {Z : Zt} {X0 : Mm} {post : Option Value → Mm → Prop} (g : Good Z prog_6_method_10_code 2 "BusTelegramsModel" 0) (hq : RetZ Z true X0 0 0 post) (hr : (zM Z).sig.returnType = (some .int)) : Snd Z 2 0 (b_M_size_0 post) := by
  unfold b_M_size_0
  exact (s_push_bipush g d_M_size_0 (by decide) (s_aload_n g d_M_size_2 rfl (s_getR g (c := 4) (j := 7) cok_4 (by decide) rfl mw_561 rfl d_M_size_3 (s_push_bipush g d_M_size_6 (by decide) (s_iload_n g d_M_size_8 rfl (s_imul g d_M_size_9 (s_push_iconst g d_M_size_10 (by decide) (s_iadd g d_M_size_11 (s_iald g d_M_size_12 (s_push_sipush g d_M_size_13 (by decide) (s_irem g d_M_size_16 (s_iadd g d_M_size_17 (s_iret0 g hq hr d_M_size_18)))))))))))))
def w_M_size : Wp := wpOf 2 (fun _ post => b_M_size_0 post)
theorem C_M_size (l : Launch) : MetS l ({ cls := "BusTelegramsModel", name := "size", desc := "(I)I" } : Jvm.MethodName) prog_6_method_10_code 2 (some .int) true 0 0 0 w_M_size := metS_of (by decide +kernel) (fun Z X0 post hZ g hq hr _ => t_M_size_0 g hq hr)
theorem hd_M_size : (({ cls := "BusTelegramsModel", name := "size", desc := "(I)I" } : Jvm.MethodName)).cls = "BusTelegramsModel" ∧ (({ cls := "BusTelegramsModel", name := "size", desc := "(I)I" } : Jvm.MethodName)).cls ≠ "java/lang/invoke/MethodHandle" ∧ (({ cls := "BusTelegramsModel", name := "size", desc := "(I)I" } : Jvm.MethodName)).cls ≠ "java/lang/invoke/VarHandle" ∧ (parseMethodDescriptor (({ cls := "BusTelegramsModel", name := "size", desc := "(I)I" } : Jvm.MethodName)).desc).map (fun d => d.parameters.length) = some 1 := ⟨rfl, by decide, by decide, by decide +kernel⟩
theorem d_M_plain_0 : decode prog_6_method_11_code 0 = .ok (.bipush 36, 2) := by decide +kernel
theorem d_M_plain_2 : decode prog_6_method_11_code 2 = .ok (.iload_n 1, 1) := by decide +kernel
theorem d_M_plain_3 : decode prog_6_method_11_code 3 = .ok (.imul, 1) := by decide +kernel
theorem d_M_plain_4 : decode prog_6_method_11_code 4 = .ok (.istore_n 3, 1) := by decide +kernel
theorem d_M_plain_5 : decode prog_6_method_11_code 5 = .ok (.iload_n 2, 1) := by decide +kernel
theorem d_M_plain_6 : decode prog_6_method_11_code 6 = .ok (.tableswitch 130 0 5 #[38, 69, 82, 95, 108, 121], 38) := by decide +kernel
theorem d_M_plain_44 : decode prog_6_method_11_code 44 = .ok (.sipush 176, 3) := by decide +kernel
theorem d_M_plain_47 : decode prog_6_method_11_code 47 = .ok (.iconst 4, 1) := by decide +kernel
theorem d_M_plain_48 : decode prog_6_method_11_code 48 = .ok (.aload_n 0, 1) := by decide +kernel
theorem d_M_plain_49 : decode prog_6_method_11_code 49 = .ok (.getfield 28, 3) := by decide +kernel
theorem d_M_plain_52 : decode prog_6_method_11_code 52 = .ok (.iload_n 3, 1) := by decide +kernel
theorem d_M_plain_53 : decode prog_6_method_11_code 53 = .ok (.iaload, 1) := by decide +kernel
theorem d_M_plain_54 : decode prog_6_method_11_code 54 = .ok (.imul, 1) := by decide +kernel
theorem d_M_plain_55 : decode prog_6_method_11_code 55 = .ok (.iadd, 1) := by decide +kernel
theorem d_M_plain_56 : decode prog_6_method_11_code 56 = .ok (.aload_n 0, 1) := by decide +kernel
theorem d_M_plain_57 : decode prog_6_method_11_code 57 = .ok (.getfield 28, 3) := by decide +kernel
theorem d_M_plain_60 : decode prog_6_method_11_code 60 = .ok (.iload_n 3, 1) := by decide +kernel
theorem d_M_plain_61 : decode prog_6_method_11_code 61 = .ok (.iconst 5, 1) := by decide +kernel
theorem d_M_plain_62 : decode prog_6_method_11_code 62 = .ok (.iadd, 1) := by decide +kernel
theorem d_M_plain_63 : decode prog_6_method_11_code 63 = .ok (.iaload, 1) := by decide +kernel
theorem d_M_plain_64 : decode prog_6_method_11_code 64 = .ok (.ifCond .le 8, 3) := by decide +kernel
theorem d_M_plain_67 : decode prog_6_method_11_code 67 = .ok (.bipush 32, 2) := by decide +kernel
theorem d_M_plain_69 : decode prog_6_method_11_code 69 = .ok (.goto 4, 3) := by decide +kernel
theorem d_M_plain_72 : decode prog_6_method_11_code 72 = .ok (.iconst 0, 1) := by decide +kernel
theorem d_M_plain_73 : decode prog_6_method_11_code 73 = .ok (.isub, 1) := by decide +kernel
theorem d_M_plain_74 : decode prog_6_method_11_code 74 = .ok (.ireturn, 1) := by decide +kernel
theorem d_M_plain_75 : decode prog_6_method_11_code 75 = .ok (.aload_n 0, 1) := by decide +kernel
theorem d_M_plain_76 : decode prog_6_method_11_code 76 = .ok (.getfield 28, 3) := by decide +kernel
theorem d_M_plain_79 : decode prog_6_method_11_code 79 = .ok (.iload_n 3, 1) := by decide +kernel
theorem d_M_plain_80 : decode prog_6_method_11_code 80 = .ok (.iconst 1, 1) := by decide +kernel
theorem d_M_plain_81 : decode prog_6_method_11_code 81 = .ok (.iadd, 1) := by decide +kernel
theorem d_M_plain_82 : decode prog_6_method_11_code 82 = .ok (.iaload, 1) := by decide +kernel
theorem d_M_plain_83 : decode prog_6_method_11_code 83 = .ok (.sipush 256, 3) := by decide +kernel
theorem d_M_plain_86 : decode prog_6_method_11_code 86 = .ok (.idiv, 1) := by decide +kernel
theorem d_M_plain_87 : decode prog_6_method_11_code 87 = .ok (.ireturn, 1) := by decide +kernel
theorem d_M_plain_88 : decode prog_6_method_11_code 88 = .ok (.aload_n 0, 1) := by decide +kernel
theorem d_M_plain_89 : decode prog_6_method_11_code 89 = .ok (.getfield 28, 3) := by decide +kernel
theorem d_M_plain_92 : decode prog_6_method_11_code 92 = .ok (.iload_n 3, 1) := by decide +kernel
theorem d_M_plain_93 : decode prog_6_method_11_code 93 = .ok (.iconst 1, 1) := by decide +kernel
theorem d_M_plain_94 : decode prog_6_method_11_code 94 = .ok (.iadd, 1) := by decide +kernel
theorem d_M_plain_95 : decode prog_6_method_11_code 95 = .ok (.iaload, 1) := by decide +kernel
theorem d_M_plain_96 : decode prog_6_method_11_code 96 = .ok (.sipush 256, 3) := by decide +kernel
theorem d_M_plain_99 : decode prog_6_method_11_code 99 = .ok (.irem, 1) := by decide +kernel
theorem d_M_plain_100 : decode prog_6_method_11_code 100 = .ok (.ireturn, 1) := by decide +kernel
theorem d_M_plain_101 : decode prog_6_method_11_code 101 = .ok (.aload_n 0, 1) := by decide +kernel
theorem d_M_plain_102 : decode prog_6_method_11_code 102 = .ok (.getfield 28, 3) := by decide +kernel
theorem d_M_plain_105 : decode prog_6_method_11_code 105 = .ok (.iload_n 3, 1) := by decide +kernel
theorem d_M_plain_106 : decode prog_6_method_11_code 106 = .ok (.iconst 2, 1) := by decide +kernel
theorem d_M_plain_107 : decode prog_6_method_11_code 107 = .ok (.iadd, 1) := by decide +kernel
theorem d_M_plain_108 : decode prog_6_method_11_code 108 = .ok (.iaload, 1) := by decide +kernel
theorem d_M_plain_109 : decode prog_6_method_11_code 109 = .ok (.sipush 256, 3) := by decide +kernel
theorem d_M_plain_112 : decode prog_6_method_11_code 112 = .ok (.idiv, 1) := by decide +kernel
theorem d_M_plain_113 : decode prog_6_method_11_code 113 = .ok (.ireturn, 1) := by decide +kernel
theorem d_M_plain_114 : decode prog_6_method_11_code 114 = .ok (.aload_n 0, 1) := by decide +kernel
theorem d_M_plain_115 : decode prog_6_method_11_code 115 = .ok (.getfield 28, 3) := by decide +kernel
theorem d_M_plain_118 : decode prog_6_method_11_code 118 = .ok (.iload_n 3, 1) := by decide +kernel
theorem d_M_plain_119 : decode prog_6_method_11_code 119 = .ok (.iconst 2, 1) := by decide +kernel
theorem d_M_plain_120 : decode prog_6_method_11_code 120 = .ok (.iadd, 1) := by decide +kernel
theorem d_M_plain_121 : decode prog_6_method_11_code 121 = .ok (.iaload, 1) := by decide +kernel
theorem d_M_plain_122 : decode prog_6_method_11_code 122 = .ok (.sipush 256, 3) := by decide +kernel
theorem d_M_plain_125 : decode prog_6_method_11_code 125 = .ok (.irem, 1) := by decide +kernel
theorem d_M_plain_126 : decode prog_6_method_11_code 126 = .ok (.ireturn, 1) := by decide +kernel
theorem d_M_plain_127 : decode prog_6_method_11_code 127 = .ok (.aload_n 0, 1) := by decide +kernel
theorem d_M_plain_128 : decode prog_6_method_11_code 128 = .ok (.getfield 28, 3) := by decide +kernel
theorem d_M_plain_131 : decode prog_6_method_11_code 131 = .ok (.iload_n 3, 1) := by decide +kernel
theorem d_M_plain_132 : decode prog_6_method_11_code 132 = .ok (.iconst 3, 1) := by decide +kernel
theorem d_M_plain_133 : decode prog_6_method_11_code 133 = .ok (.iadd, 1) := by decide +kernel
theorem d_M_plain_134 : decode prog_6_method_11_code 134 = .ok (.iaload, 1) := by decide +kernel
theorem d_M_plain_135 : decode prog_6_method_11_code 135 = .ok (.ireturn, 1) := by decide +kernel
theorem d_M_plain_136 : decode prog_6_method_11_code 136 = .ok (.aload_n 0, 1) := by decide +kernel
theorem d_M_plain_137 : decode prog_6_method_11_code 137 = .ok (.getfield 28, 3) := by decide +kernel
theorem d_M_plain_140 : decode prog_6_method_11_code 140 = .ok (.iload_n 3, 1) := by decide +kernel
theorem d_M_plain_141 : decode prog_6_method_11_code 141 = .ok (.iconst 4, 1) := by decide +kernel
theorem d_M_plain_142 : decode prog_6_method_11_code 142 = .ok (.iadd, 1) := by decide +kernel
theorem d_M_plain_143 : decode prog_6_method_11_code 143 = .ok (.iaload, 1) := by decide +kernel
theorem d_M_plain_144 : decode prog_6_method_11_code 144 = .ok (.iload_n 2, 1) := by decide +kernel
theorem d_M_plain_145 : decode prog_6_method_11_code 145 = .ok (.iadd, 1) := by decide +kernel
theorem d_M_plain_146 : decode prog_6_method_11_code 146 = .ok (.bipush 6, 2) := by decide +kernel
theorem d_M_plain_148 : decode prog_6_method_11_code 148 = .ok (.isub, 1) := by decide +kernel
theorem d_M_plain_149 : decode prog_6_method_11_code 149 = .ok (.sipush 256, 3) := by decide +kernel
theorem d_M_plain_152 : decode prog_6_method_11_code 152 = .ok (.irem, 1) := by decide +kernel
theorem d_M_plain_153 : decode prog_6_method_11_code 153 = .ok (.ireturn, 1) := by decide +kernel
def b_M_plain_73 (post : Option Value → Mm → Prop) : Kk := (i_bin (fun x y => x - y) (i_iret post))
theorem t_M_plain_73 {Z : Zt} {X0 : Mm} {post : Option Value → Mm → Prop} (g : Good Z prog_6_method_11_code 4 "BusTelegramsModel" 0) (hq : RetZ Z true X0 0 0 post) (hr : (zM Z).sig.returnType = (some .int)) : Snd Z 4 73 (b_M_plain_73 post) := by
  unfold b_M_plain_73
  exact (s_isub g d_M_plain_73 (s_iret0 g hq hr d_M_plain_74))
def b_M_plain_0 (post : Option Value → Mm → Prop) : Kk := (i_push (.int 36) (i_iload 1 (i_bin (fun x y => x * y) (i_istore 3 (i_iload 2 (i_tsw 0 [(i_push (.int 176) (i_push (.int 4) (i_aload 0 (i_getR 4 7 (i_iload 3 (i_ald 10 (i_bin (fun x y => x * y) (i_bin (fun x y => x + y) (i_aload 0 (i_getR 4 7 (i_iload 3 (i_push (.int 5) (i_bin (fun x y => x + y) (i_ald 10 (i_if (fun x y => x ≤ y) (i_push (.int 0) (b_M_plain_73 post)) (i_push (.int 32) (b_M_plain_73 post))))))))))))))))), (i_aload 0 (i_getR 4 7 (i_iload 3 (i_push (.int 1) (i_bin (fun x y => x + y) (i_ald 10 (i_push (.int 256) (i_binz (fun x y => x / y) (i_iret post))))))))), (i_aload 0 (i_getR 4 7 (i_iload 3 (i_push (.int 1) (i_bin (fun x y => x + y) (i_ald 10 (i_push (.int 256) (i_binz (fun x y => x - x / y * y) (i_iret post))))))))), (i_aload 0 (i_getR 4 7 (i_iload 3 (i_push (.int 2) (i_bin (fun x y => x + y) (i_ald 10 (i_push (.int 256) (i_binz (fun x y => x / y) (i_iret post))))))))), (i_aload 0 (i_getR 4 7 (i_iload 3 (i_push (.int 2) (i_bin (fun x y => x + y) (i_ald 10 (i_push (.int 256) (i_binz (fun x y => x - x / y * y) (i_iret post))))))))), (i_aload 0 (i_getR 4 7 (i_iload 3 (i_push (.int 3) (i_bin (fun x y => x + y) (i_ald 10 (i_iret post)))))))] (i_aload 0 (i_getR 4 7 (i_iload 3 (i_push (.int 4) (i_bin (fun x y => x + y) (i_ald 10 (i_iload 2 (i_bin (fun x y => x + y) (i_push (.int 6) (i_bin (fun x y => x - y) (i_push (.int 256) (i_binz (fun x y => x - x / y * y) (i_iret post)))))))))))))))))))
theorem t_M_plain_0 {Z : Zt} {X0 : Mm} {post : Option Value → Mm → Prop} (g : Good Z prog_6_method_11_code 4 "BusTelegramsModel" 0) (hq : RetZ Z true X0 0 0 post) (hr : (zM Z).sig.returnType = (some .int)) : Snd Z 4 0 (b_M_plain_0 post) := by
  unfold b_M_plain_0
  exact (s_push_bipush g d_M_plain_0 (by decide) (s_iload_n g d_M_plain_2 rfl (s_imul g d_M_plain_3 (s_istore_n g (by decide) d_M_plain_4 rfl (s_iload_n g d_M_plain_5 rfl (s_tsw g d_M_plain_6 rfl (by decide) (tsw_cons (by decide) (s_push_sipush g d_M_plain_44 (by decide) (s_push_iconst g d_M_plain_47 (by decide) (s_aload_n g d_M_plain_48 rfl (s_getR g (c := 4) (j := 7) cok_4 (by decide) rfl mw_561 rfl d_M_plain_49 (s_iload_n g d_M_plain_52 rfl (s_iald g d_M_plain_53 (s_imul g d_M_plain_54 (s_iadd g d_M_plain_55 (s_aload_n g d_M_plain_56 rfl (s_getR g (c := 4) (j := 7) cok_4 (by decide) rfl mw_561 rfl d_M_plain_57 (s_iload_n g d_M_plain_60 rfl (s_push_iconst g d_M_plain_61 (by decide) (s_iadd g d_M_plain_62 (s_iald g d_M_plain_63 (s_if_le g d_M_plain_64 (by decide) (s_push_iconst g d_M_plain_72 (by decide) (t_M_plain_73 g hq hr)) (s_push_bipush g d_M_plain_67 (by decide) (s_goto g d_M_plain_69 (by decide) (t_M_plain_73 g hq hr)))))))))))))))))) (tsw_cons (by decide) (s_aload_n g d_M_plain_75 rfl (s_getR g (c := 4) (j := 7) cok_4 (by decide) rfl mw_561 rfl d_M_plain_76 (s_iload_n g d_M_plain_79 rfl (s_push_iconst g d_M_plain_80 (by decide) (s_iadd g d_M_plain_81 (s_iald g d_M_plain_82 (s_push_sipush g d_M_plain_83 (by decide) (s_idiv g d_M_plain_86 (s_iret0 g hq hr d_M_plain_87))))))))) (tsw_cons (by decide) (s_aload_n g d_M_plain_88 rfl (s_getR g (c := 4) (j := 7) cok_4 (by decide) rfl mw_561 rfl d_M_plain_89 (s_iload_n g d_M_plain_92 rfl (s_push_iconst g d_M_plain_93 (by decide) (s_iadd g d_M_plain_94 (s_iald g d_M_plain_95 (s_push_sipush g d_M_plain_96 (by decide) (s_irem g d_M_plain_99 (s_iret0 g hq hr d_M_plain_100))))))))) (tsw_cons (by decide) (s_aload_n g d_M_plain_101 rfl (s_getR g (c := 4) (j := 7) cok_4 (by decide) rfl mw_561 rfl d_M_plain_102 (s_iload_n g d_M_plain_105 rfl (s_push_iconst g d_M_plain_106 (by decide) (s_iadd g d_M_plain_107 (s_iald g d_M_plain_108 (s_push_sipush g d_M_plain_109 (by decide) (s_idiv g d_M_plain_112 (s_iret0 g hq hr d_M_plain_113))))))))) (tsw_cons (by decide) (s_aload_n g d_M_plain_114 rfl (s_getR g (c := 4) (j := 7) cok_4 (by decide) rfl mw_561 rfl d_M_plain_115 (s_iload_n g d_M_plain_118 rfl (s_push_iconst g d_M_plain_119 (by decide) (s_iadd g d_M_plain_120 (s_iald g d_M_plain_121 (s_push_sipush g d_M_plain_122 (by decide) (s_irem g d_M_plain_125 (s_iret0 g hq hr d_M_plain_126))))))))) (tsw_cons (by decide) (s_aload_n g d_M_plain_127 rfl (s_getR g (c := 4) (j := 7) cok_4 (by decide) rfl mw_561 rfl d_M_plain_128 (s_iload_n g d_M_plain_131 rfl (s_push_iconst g d_M_plain_132 (by decide) (s_iadd g d_M_plain_133 (s_iald g d_M_plain_134 (s_iret0 g hq hr d_M_plain_135))))))) tsw_nil)))))) (s_aload_n g d_M_plain_136 rfl (s_getR g (c := 4) (j := 7) cok_4 (by decide) rfl mw_561 rfl d_M_plain_137 (s_iload_n g d_M_plain_140 rfl (s_push_iconst g d_M_plain_141 (by decide) (s_iadd g d_M_plain_142 (s_iald g d_M_plain_143 (s_iload_n g d_M_plain_144 rfl (s_iadd g d_M_plain_145 (s_push_bipush g d_M_plain_146 (by decide) (s_isub g d_M_plain_148 (s_push_sipush g d_M_plain_149 (by decide) (s_irem g d_M_plain_152 (s_iret0 g hq hr d_M_plain_153)))))))))))))))))))
def w_M_plain : Wp := wpOf 4 (fun _ post => b_M_plain_0 post)
theorem C_M_plain (l : Launch) : MetS l ({ cls := "BusTelegramsModel", name := "plain", desc := "(II)I" } : Jvm.MethodName) prog_6_method_11_code 4 (some .int) true 0 0 0 w_M_plain := metS_of (by decide +kernel) (fun Z X0 post hZ g hq hr _ => t_M_plain_0 g hq hr)
theorem hd_M_plain : (({ cls := "BusTelegramsModel", name := "plain", desc := "(II)I" } : Jvm.MethodName)).cls = "BusTelegramsModel" ∧ (({ cls := "BusTelegramsModel", name := "plain", desc := "(II)I" } : Jvm.MethodName)).cls ≠ "java/lang/invoke/MethodHandle" ∧ (({ cls := "BusTelegramsModel", name := "plain", desc := "(II)I" } : Jvm.MethodName)).cls ≠ "java/lang/invoke/VarHandle" ∧ (parseMethodDescriptor (({ cls := "BusTelegramsModel", name := "plain", desc := "(II)I" } : Jvm.MethodName)).desc).map (fun d => d.parameters.length) = some 2 := ⟨rfl, by decide, by decide, by decide +kernel⟩
theorem d_M_bitOf_0 : decode prog_6_method_13_code 0 = .ok (.iload_n 1, 1) := by decide +kernel
theorem d_M_bitOf_1 : decode prog_6_method_13_code 1 = .ok (.ifCond .ne 5, 3) := by decide +kernel
theorem d_M_bitOf_4 : decode prog_6_method_13_code 4 = .ok (.iconst 0, 1) := by decide +kernel
theorem d_M_bitOf_5 : decode prog_6_method_13_code 5 = .ok (.ireturn, 1) := by decide +kernel
theorem d_M_bitOf_6 : decode prog_6_method_13_code 6 = .ok (.iload_n 1, 1) := by decide +kernel
theorem d_M_bitOf_7 : decode prog_6_method_13_code 7 = .ok (.bipush 9, 2) := by decide +kernel
theorem d_M_bitOf_9 : decode prog_6_method_13_code 9 = .ok (.if_icmp .ge 11, 3) := by decide +kernel
theorem d_M_bitOf_12 : decode prog_6_method_13_code 12 = .ok (.iload_n 0, 1) := by decide +kernel
theorem d_M_bitOf_13 : decode prog_6_method_13_code 13 = .ok (.iload_n 1, 1) := by decide +kernel
theorem d_M_bitOf_14 : decode prog_6_method_13_code 14 = .ok (.iconst 1, 1) := by decide +kernel
theorem d_M_bitOf_15 : decode prog_6_method_13_code 15 = .ok (.isub, 1) := by decide +kernel
theorem d_M_bitOf_16 : decode prog_6_method_13_code 16 = .ok (.ishr, 1) := by decide +kernel
theorem d_M_bitOf_17 : decode prog_6_method_13_code 17 = .ok (.iconst 1, 1) := by decide +kernel
theorem d_M_bitOf_18 : decode prog_6_method_13_code 18 = .ok (.iand, 1) := by decide +kernel
theorem d_M_bitOf_19 : decode prog_6_method_13_code 19 = .ok (.ireturn, 1) := by decide +kernel
theorem d_M_bitOf_20 : decode prog_6_method_13_code 20 = .ok (.iconst 0, 1) := by decide +kernel
theorem d_M_bitOf_21 : decode prog_6_method_13_code 21 = .ok (.istore_n 2, 1) := by decide +kernel
theorem d_M_bitOf_22 : decode prog_6_method_13_code 22 = .ok (.iconst 0, 1) := by decide +kernel
theorem d_M_bitOf_23 : decode prog_6_method_13_code 23 = .ok (.istore_n 3, 1) := by decide +kernel
theorem d_M_bitOf_24 : decode prog_6_method_13_code 24 = .ok (.iload_n 3, 1) := by decide +kernel
theorem d_M_bitOf_25 : decode prog_6_method_13_code 25 = .ok (.bipush 8, 2) := by decide +kernel
theorem d_M_bitOf_27 : decode prog_6_method_13_code 27 = .ok (.if_icmp .ge 23, 3) := by decide +kernel
theorem d_M_bitOf_30 : decode prog_6_method_13_code 30 = .ok (.iload_n 1, 1) := by decide +kernel
theorem d_M_bitOf_31 : decode prog_6_method_13_code 31 = .ok (.bipush 9, 2) := by decide +kernel
theorem d_M_bitOf_33 : decode prog_6_method_13_code 33 = .ok (.if_icmp .ne 17, 3) := by decide +kernel
theorem d_M_bitOf_36 : decode prog_6_method_13_code 36 = .ok (.iload_n 2, 1) := by decide +kernel
theorem d_M_bitOf_37 : decode prog_6_method_13_code 37 = .ok (.iload_n 0, 1) := by decide +kernel
theorem d_M_bitOf_38 : decode prog_6_method_13_code 38 = .ok (.iload_n 3, 1) := by decide +kernel
theorem d_M_bitOf_39 : decode prog_6_method_13_code 39 = .ok (.ishr, 1) := by decide +kernel
theorem d_M_bitOf_40 : decode prog_6_method_13_code 40 = .ok (.iconst 1, 1) := by decide +kernel
theorem d_M_bitOf_41 : decode prog_6_method_13_code 41 = .ok (.iand, 1) := by decide +kernel
theorem d_M_bitOf_42 : decode prog_6_method_13_code 42 = .ok (.ixor, 1) := by decide +kernel
theorem d_M_bitOf_43 : decode prog_6_method_13_code 43 = .ok (.istore_n 2, 1) := by decide +kernel
theorem d_M_bitOf_44 : decode prog_6_method_13_code 44 = .ok (.iinc 3 1, 3) := by decide +kernel
theorem d_M_bitOf_47 : decode prog_6_method_13_code 47 = .ok (.goto (-23), 3) := by decide +kernel
theorem d_M_bitOf_50 : decode prog_6_method_13_code 50 = .ok (.iload_n 1, 1) := by decide +kernel
theorem d_M_bitOf_51 : decode prog_6_method_13_code 51 = .ok (.bipush 9, 2) := by decide +kernel
theorem d_M_bitOf_53 : decode prog_6_method_13_code 53 = .ok (.if_icmp .ne 7, 3) := by decide +kernel
theorem d_M_bitOf_56 : decode prog_6_method_13_code 56 = .ok (.iload_n 2, 1) := by decide +kernel
theorem d_M_bitOf_57 : decode prog_6_method_13_code 57 = .ok (.goto 4, 3) := by decide +kernel
theorem d_M_bitOf_60 : decode prog_6_method_13_code 60 = .ok (.iconst 1, 1) := by decide +kernel
theorem d_M_bitOf_61 : decode prog_6_method_13_code 61 = .ok (.ireturn, 1) := by decide +kernel
def b_M_bitOf_61 (post : Option Value → Mm → Prop) : Kk := (i_iret post)
theorem t_M_bitOf_61 {Z : Zt} {X0 : Mm} {post : Option Value → Mm → Prop} (g : Good Z prog_6_method_13_code 4 "BusTelegramsModel" 0) (hq : RetZ Z true X0 0 0 post) (hr : (zM Z).sig.returnType = (some .int)) : Snd Z 4 61 (b_M_bitOf_61 post) := by
  unfold b_M_bitOf_61
  exact (s_iret0 g hq hr d_M_bitOf_61)
def b_M_bitOf_50 (post : Option Value → Mm → Prop) : Kk := (i_iload 1 (i_push (.int 9) (i_icmp (fun x y => x = y) (i_iload 2 (b_M_bitOf_61 post)) (i_push (.int 1) (b_M_bitOf_61 post)))))
theorem t_M_bitOf_50 {Z : Zt} {X0 : Mm} {post : Option Value → Mm → Prop} (g : Good Z prog_6_method_13_code 4 "BusTelegramsModel" 0) (hq : RetZ Z true X0 0 0 post) (hr : (zM Z).sig.returnType = (some .int)) : Snd Z 4 50 (b_M_bitOf_50 post) := by
  unfold b_M_bitOf_50
  exact (s_iload_n g d_M_bitOf_50 rfl (s_push_bipush g d_M_bitOf_51 (by decide) (s_icmp_ne g d_M_bitOf_53 (by decide) (s_push_iconst g d_M_bitOf_60 (by decide) (t_M_bitOf_61 g hq hr)) (s_iload_n g d_M_bitOf_56 rfl (s_goto g d_M_bitOf_57 (by decide) (t_M_bitOf_61 g hq hr))))))
def b_M_bitOf_24 (post : Option Value → Mm → Prop) : Kk := i_loop [0, 1, 2, 3] (fun k24 => (i_iload 3 (i_push (.int 8) (i_icmp (fun x y => y ≤ x) (b_M_bitOf_50 post) (i_iload 1 (i_push (.int 9) (i_icmp (fun x y => x = y) (i_iload 2 (i_iload 0 (i_iload 3 (i_bin (fun x y => x >>> (y &&& 31)) (i_push (.int 1) (i_bin (fun x y => x &&& y) (i_bin (fun x y => x ^^^ y) (i_istore 2 (i_iinc 3 1 k24))))))))) (b_M_bitOf_50 post))))))))
theorem t_M_bitOf_24 {Z : Zt} {X0 : Mm} {post : Option Value → Mm → Prop} (g : Good Z prog_6_method_13_code 4 "BusTelegramsModel" 0) (hq : RetZ Z true X0 0 0 post) (hr : (zM Z).sig.returnType = (some .int)) : Snd Z 4 24 (b_M_bitOf_24 post) := by
  unfold b_M_bitOf_24
  exact s_loop (fun k24 hk24 => (s_iload_n g d_M_bitOf_24 rfl (s_push_bipush g d_M_bitOf_25 (by decide) (s_icmp_ge g d_M_bitOf_27 (by decide) (t_M_bitOf_50 g hq hr) (s_iload_n g d_M_bitOf_30 rfl (s_push_bipush g d_M_bitOf_31 (by decide) (s_icmp_ne g d_M_bitOf_33 (by decide) (t_M_bitOf_50 g hq hr) (s_iload_n g d_M_bitOf_36 rfl (s_iload_n g d_M_bitOf_37 rfl (s_iload_n g d_M_bitOf_38 rfl (s_ishr g d_M_bitOf_39 (s_push_iconst g d_M_bitOf_40 (by decide) (s_iand g d_M_bitOf_41 (s_ixor g d_M_bitOf_42 (s_istore_n g (by decide) d_M_bitOf_43 rfl (s_iinc g (by decide) d_M_bitOf_44 (by decide) (s_goto g d_M_bitOf_47 (by decide) hk24)))))))))))))))))
def b_M_bitOf_0 (post : Option Value → Mm → Prop) : Kk := (i_iload 1 (i_if (fun x y => x = y) (i_push (.int 0) (i_iret post)) (i_iload 1 (i_push (.int 9) (i_icmp (fun x y => y ≤ x) (i_push (.int 0) (i_istore 2 (i_push (.int 0) (i_istore 3 (b_M_bitOf_24 post))))) (i_iload 0 (i_iload 1 (i_push (.int 1) (i_bin (fun x y => x - y) (i_bin (fun x y => x >>> (y &&& 31)) (i_push (.int 1) (i_bin (fun x y => x &&& y) (i_iret post)))))))))))))
theorem t_M_bitOf_0 {Z : Zt} {X0 : Mm} {post : Option Value → Mm → Prop} (g : Good Z prog_6_method_13_code 4 "BusTelegramsModel" 0) (hq : RetZ Z true X0 0 0 post) (hr : (zM Z).sig.returnType = (some .int)) : Snd Z 4 0 (b_M_bitOf_0 post) := by
  unfold b_M_bitOf_0
  exact (s_iload_n g d_M_bitOf_0 rfl (s_if_ne g d_M_bitOf_1 (by decide) (s_iload_n g d_M_bitOf_6 rfl (s_push_bipush g d_M_bitOf_7 (by decide) (s_icmp_ge g d_M_bitOf_9 (by decide) (s_push_iconst g d_M_bitOf_20 (by decide) (s_istore_n g (by decide) d_M_bitOf_21 rfl (s_push_iconst g d_M_bitOf_22 (by decide) (s_istore_n g (by decide) d_M_bitOf_23 rfl (t_M_bitOf_24 g hq hr))))) (s_iload_n g d_M_bitOf_12 rfl (s_iload_n g d_M_bitOf_13 rfl (s_push_iconst g d_M_bitOf_14 (by decide) (s_isub g d_M_bitOf_15 (s_ishr g d_M_bitOf_16 (s_push_iconst g d_M_bitOf_17 (by decide) (s_iand g d_M_bitOf_18 (s_iret0 g hq hr d_M_bitOf_19))))))))))) (s_push_iconst g d_M_bitOf_4 (by decide) (s_iret0 g hq hr d_M_bitOf_5))))
def w_M_bitOf : Wp := wpOf 4 (fun _ post => b_M_bitOf_0 post)
theorem C_M_bitOf (l : Launch) : MetS l ({ cls := "BusTelegramsModel", name := "bitOf", desc := "(II)I" } : Jvm.MethodName) prog_6_method_13_code 4 (some .int) true 0 0 0 w_M_bitOf := metS_of (by decide +kernel) (fun Z X0 post hZ g hq hr _ => t_M_bitOf_0 g hq hr)
theorem hd_M_bitOf : (({ cls := "BusTelegramsModel", name := "bitOf", desc := "(II)I" } : Jvm.MethodName)).cls ≠ "java/lang/invoke/MethodHandle" ∧ (({ cls := "BusTelegramsModel", name := "bitOf", desc := "(II)I" } : Jvm.MethodName)).cls ≠ "java/lang/invoke/VarHandle" ∧ (parseMethodDescriptor (({ cls := "BusTelegramsModel", name := "bitOf", desc := "(II)I" } : Jvm.MethodName)).desc).map (fun d => d.parameters.length) = some 2 := ⟨by decide, by decide, by decide +kernel⟩
theorem d_M_open_0 : decode prog_6_method_20_code 0 = .ok (.aload_n 0, 1) := by decide +kernel
theorem d_M_open_1 : decode prog_6_method_20_code 1 = .ok (.iconst 1, 1) := by decide +kernel
theorem d_M_open_2 : decode prog_6_method_20_code 2 = .ok (.putfield 137, 3) := by decide +kernel
theorem d_M_open_5 : decode prog_6_method_20_code 5 = .ok (.aload_n 0, 1) := by decide +kernel
theorem d_M_open_6 : decode prog_6_method_20_code 6 = .ok (.iconst 1, 1) := by decide +kernel
theorem d_M_open_7 : decode prog_6_method_20_code 7 = .ok (.putfield 140, 3) := by decide +kernel
theorem d_M_open_10 : decode prog_6_method_20_code 10 = .ok (.aload_n 0, 1) := by decide +kernel
theorem d_M_open_11 : decode prog_6_method_20_code 11 = .ok (.iconst 0, 1) := by decide +kernel
theorem d_M_open_12 : decode prog_6_method_20_code 12 = .ok (.putfield 143, 3) := by decide +kernel
theorem d_M_open_15 : decode prog_6_method_20_code 15 = .ok (.aload_n 0, 1) := by decide +kernel
theorem d_M_open_16 : decode prog_6_method_20_code 16 = .ok (.iconst 0, 1) := by decide +kernel
theorem d_M_open_17 : decode prog_6_method_20_code 17 = .ok (.putfield 146, 3) := by decide +kernel
theorem d_M_open_20 : decode prog_6_method_20_code 20 = .ok (.return_, 1) := by decide +kernel
def b_M_open_0 (post : Option Value → Mm → Prop) : Kk := (i_aload 0 (i_push (.int 1) (i_putI 4 18 (i_aload 0 (i_push (.int 1) (i_putI 4 19 (i_aload 0 (i_push (.int 0) (i_putI 4 20 (i_aload 0 (i_push (.int 0) (i_putI 4 21 (i_vret post)))))))))))))
theorem t_M_open_0 {Z : Zt} {X0 : Mm} {post : Option Value → Mm → Prop} (g : Good Z prog_6_method_20_code 1 "BusTelegramsModel" 0) (hq : RetZ Z true X0 0 0 post) (hr : (zM Z).sig.returnType = none) : Snd Z 1 0 (b_M_open_0 post) := by
  unfold b_M_open_0
  exact (s_aload_n g d_M_open_0 rfl (s_push_iconst g d_M_open_1 (by decide) (s_putI g (c := 4) (j := 18) cok_4 (by decide) rfl rfl rfl mw_572 rfl d_M_open_2 (s_aload_n g d_M_open_5 rfl (s_push_iconst g d_M_open_6 (by decide) (s_putI g (c := 4) (j := 19) cok_4 (by decide) rfl rfl rfl mw_573 rfl d_M_open_7 (s_aload_n g d_M_open_10 rfl (s_push_iconst g d_M_open_11 (by decide) (s_putI g (c := 4) (j := 20) cok_4 (by decide) rfl rfl rfl mw_574 rfl d_M_open_12 (s_aload_n g d_M_open_15 rfl (s_push_iconst g d_M_open_16 (by decide) (s_putI g (c := 4) (j := 21) cok_4 (by decide) rfl rfl rfl mw_575 rfl d_M_open_17 (s_vret0 g hq hr d_M_open_20)))))))))))))
def w_M_open : Wp := wpOf 1 (fun _ post => b_M_open_0 post)
theorem C_M_open (l : Launch) : MetS l ({ cls := "BusTelegramsModel", name := "open", desc := "()V" } : Jvm.MethodName) prog_6_method_20_code 1 none true 0 0 0 w_M_open := metS_of (by decide +kernel) (fun Z X0 post hZ g hq hr _ => t_M_open_0 g hq hr)
theorem hd_M_open : (({ cls := "BusTelegramsModel", name := "open", desc := "()V" } : Jvm.MethodName)).cls = "BusTelegramsModel" ∧ (({ cls := "BusTelegramsModel", name := "open", desc := "()V" } : Jvm.MethodName)).cls ≠ "java/lang/invoke/MethodHandle" ∧ (({ cls := "BusTelegramsModel", name := "open", desc := "()V" } : Jvm.MethodName)).cls ≠ "java/lang/invoke/VarHandle" ∧ (parseMethodDescriptor (({ cls := "BusTelegramsModel", name := "open", desc := "()V" } : Jvm.MethodName)).desc).map (fun d => d.parameters.length) = some 0 := ⟨rfl, by decide, by decide, by decide +kernel⟩
theorem d_M_collect_0 : decode prog_6_method_22_code 0 = .ok (.aload_n 0, 1) := by decide +kernel
theorem d_M_collect_1 : decode prog_6_method_22_code 1 = .ok (.dup, 1) := by decide +kernel
theorem d_M_collect_2 : decode prog_6_method_22_code 2 = .ok (.getfield 143, 3) := by decide +kernel
theorem d_M_collect_5 : decode prog_6_method_22_code 5 = .ok (.aload_n 0, 1) := by decide +kernel
theorem d_M_collect_6 : decode prog_6_method_22_code 6 = .ok (.getfield 140, 3) := by decide +kernel
theorem d_M_collect_9 : decode prog_6_method_22_code 9 = .ok (.bipush 9, 2) := by decide +kernel
theorem d_M_collect_11 : decode prog_6_method_22_code 11 = .ok (.if_icmp .ge 14, 3) := by decide +kernel
theorem d_M_collect_14 : decode prog_6_method_22_code 14 = .ok (.iload_n 1, 1) := by decide +kernel
theorem d_M_collect_15 : decode prog_6_method_22_code 15 = .ok (.aload_n 0, 1) := by decide +kernel
theorem d_M_collect_16 : decode prog_6_method_22_code 16 = .ok (.getfield 140, 3) := by decide +kernel
theorem d_M_collect_19 : decode prog_6_method_22_code 19 = .ok (.iconst 1, 1) := by decide +kernel
theorem d_M_collect_20 : decode prog_6_method_22_code 20 = .ok (.isub, 1) := by decide +kernel
theorem d_M_collect_21 : decode prog_6_method_22_code 21 = .ok (.ishl, 1) := by decide +kernel
theorem d_M_collect_22 : decode prog_6_method_22_code 22 = .ok (.goto 4, 3) := by decide +kernel
theorem d_M_collect_25 : decode prog_6_method_22_code 25 = .ok (.iconst 0, 1) := by decide +kernel
theorem d_M_collect_26 : decode prog_6_method_22_code 26 = .ok (.iadd, 1) := by decide +kernel
theorem d_M_collect_27 : decode prog_6_method_22_code 27 = .ok (.putfield 143, 3) := by decide +kernel
theorem d_M_collect_30 : decode prog_6_method_22_code 30 = .ok (.aload_n 0, 1) := by decide +kernel
theorem d_M_collect_31 : decode prog_6_method_22_code 31 = .ok (.dup, 1) := by decide +kernel
theorem d_M_collect_32 : decode prog_6_method_22_code 32 = .ok (.getfield 146, 3) := by decide +kernel
theorem d_M_collect_35 : decode prog_6_method_22_code 35 = .ok (.aload_n 0, 1) := by decide +kernel
theorem d_M_collect_36 : decode prog_6_method_22_code 36 = .ok (.getfield 140, 3) := by decide +kernel
theorem d_M_collect_39 : decode prog_6_method_22_code 39 = .ok (.bipush 10, 2) := by decide +kernel
theorem d_M_collect_41 : decode prog_6_method_22_code 41 = .ok (.if_icmp .ge 7, 3) := by decide +kernel
theorem d_M_collect_44 : decode prog_6_method_22_code 44 = .ok (.iload_n 1, 1) := by decide +kernel
theorem d_M_collect_45 : decode prog_6_method_22_code 45 = .ok (.goto 4, 3) := by decide +kernel
theorem d_M_collect_48 : decode prog_6_method_22_code 48 = .ok (.iconst 0, 1) := by decide +kernel
theorem d_M_collect_49 : decode prog_6_method_22_code 49 = .ok (.iadd, 1) := by decide +kernel
theorem d_M_collect_50 : decode prog_6_method_22_code 50 = .ok (.putfield 146, 3) := by decide +kernel
theorem d_M_collect_53 : decode prog_6_method_22_code 53 = .ok (.aload_n 0, 1) := by decide +kernel
theorem d_M_collect_54 : decode prog_6_method_22_code 54 = .ok (.dup, 1) := by decide +kernel
theorem d_M_collect_55 : decode prog_6_method_22_code 55 = .ok (.getfield 140, 3) := by decide +kernel
theorem d_M_collect_58 : decode prog_6_method_22_code 58 = .ok (.iconst 1, 1) := by decide +kernel
theorem d_M_collect_59 : decode prog_6_method_22_code 59 = .ok (.iadd, 1) := by decide +kernel
theorem d_M_collect_60 : decode prog_6_method_22_code 60 = .ok (.putfield 140, 3) := by decide +kernel
theorem d_M_collect_63 : decode prog_6_method_22_code 63 = .ok (.aload_n 0, 1) := by decide +kernel
theorem d_M_collect_64 : decode prog_6_method_22_code 64 = .ok (.getfield 140, 3) := by decide +kernel
theorem d_M_collect_67 : decode prog_6_method_22_code 67 = .ok (.bipush 11, 2) := by decide +kernel
theorem d_M_collect_69 : decode prog_6_method_22_code 69 = .ok (.if_icmp .ge 4, 3) := by decide +kernel
theorem d_M_collect_72 : decode prog_6_method_22_code 72 = .ok (.return_, 1) := by decide +kernel
theorem d_M_collect_73 : decode prog_6_method_22_code 73 = .ok (.aload_n 0, 1) := by decide +kernel
theorem d_M_collect_74 : decode prog_6_method_22_code 74 = .ok (.aload_n 0, 1) := by decide +kernel
theorem d_M_collect_75 : decode prog_6_method_22_code 75 = .ok (.getfield 125, 3) := by decide +kernel
theorem d_M_collect_78 : decode prog_6_method_22_code 78 = .ok (.ifCond .ne 17, 3) := by decide +kernel
theorem d_M_collect_81 : decode prog_6_method_22_code 81 = .ok (.aload_n 0, 1) := by decide +kernel
theorem d_M_collect_82 : decode prog_6_method_22_code 82 = .ok (.getfield 146, 3) := by decide +kernel
theorem d_M_collect_85 : decode prog_6_method_22_code 85 = .ok (.iconst 2, 1) := by decide +kernel
theorem d_M_collect_86 : decode prog_6_method_22_code 86 = .ok (.irem, 1) := by decide +kernel
theorem d_M_collect_87 : decode prog_6_method_22_code 87 = .ok (.iconst 1, 1) := by decide +kernel
theorem d_M_collect_88 : decode prog_6_method_22_code 88 = .ok (.if_icmp .eq 7, 3) := by decide +kernel
theorem d_M_collect_91 : decode prog_6_method_22_code 91 = .ok (.iload_n 1, 1) := by decide +kernel
theorem d_M_collect_92 : decode prog_6_method_22_code 92 = .ok (.ifCond .ne 7, 3) := by decide +kernel
theorem d_M_collect_95 : decode prog_6_method_22_code 95 = .ok (.iconst 1, 1) := by decide +kernel
theorem d_M_collect_96 : decode prog_6_method_22_code 96 = .ok (.goto 4, 3) := by decide +kernel
theorem d_M_collect_99 : decode prog_6_method_22_code 99 = .ok (.iconst 0, 1) := by decide +kernel
theorem d_M_collect_100 : decode prog_6_method_22_code 100 = .ok (.putfield 125, 3) := by decide +kernel
theorem d_M_collect_103 : decode prog_6_method_22_code 103 = .ok (.aload_n 0, 1) := by decide +kernel
theorem d_M_collect_104 : decode prog_6_method_22_code 104 = .ok (.getfield 58, 3) := by decide +kernel
theorem d_M_collect_107 : decode prog_6_method_22_code 107 = .ok (.aload_n 0, 1) := by decide +kernel
theorem d_M_collect_108 : decode prog_6_method_22_code 108 = .ok (.getfield 122, 3) := by decide +kernel
theorem d_M_collect_111 : decode prog_6_method_22_code 111 = .ok (.aload_n 0, 1) := by decide +kernel
theorem d_M_collect_112 : decode prog_6_method_22_code 112 = .ok (.getfield 143, 3) := by decide +kernel
theorem d_M_collect_115 : decode prog_6_method_22_code 115 = .ok (.iastore, 1) := by decide +kernel
theorem d_M_collect_116 : decode prog_6_method_22_code 116 = .ok (.aload_n 0, 1) := by decide +kernel
theorem d_M_collect_117 : decode prog_6_method_22_code 117 = .ok (.dup, 1) := by decide +kernel
theorem d_M_collect_118 : decode prog_6_method_22_code 118 = .ok (.getfield 122, 3) := by decide +kernel
theorem d_M_collect_121 : decode prog_6_method_22_code 121 = .ok (.iconst 1, 1) := by decide +kernel
theorem d_M_collect_122 : decode prog_6_method_22_code 122 = .ok (.iadd, 1) := by decide +kernel
theorem d_M_collect_123 : decode prog_6_method_22_code 123 = .ok (.putfield 122, 3) := by decide +kernel
theorem d_M_collect_126 : decode prog_6_method_22_code 126 = .ok (.aload_n 0, 1) := by decide +kernel
theorem d_M_collect_127 : decode prog_6_method_22_code 127 = .ok (.aload_n 0, 1) := by decide +kernel
theorem d_M_collect_128 : decode prog_6_method_22_code 128 = .ok (.getfield 85, 3) := by decide +kernel
theorem d_M_collect_131 : decode prog_6_method_22_code 131 = .ok (.putfield 128, 3) := by decide +kernel
theorem d_M_collect_134 : decode prog_6_method_22_code 134 = .ok (.aload_n 0, 1) := by decide +kernel
theorem d_M_collect_135 : decode prog_6_method_22_code 135 = .ok (.iconst 2, 1) := by decide +kernel
theorem d_M_collect_136 : decode prog_6_method_22_code 136 = .ok (.putfield 137, 3) := by decide +kernel
theorem d_M_collect_139 : decode prog_6_method_22_code 139 = .ok (.aload_n 0, 1) := by decide +kernel
theorem d_M_collect_140 : decode prog_6_method_22_code 140 = .ok (.iconst 0, 1) := by decide +kernel
theorem d_M_collect_141 : decode prog_6_method_22_code 141 = .ok (.putfield 140, 3) := by decide +kernel
theorem d_M_collect_144 : decode prog_6_method_22_code 144 = .ok (.return_, 1) := by decide +kernel
def b_M_collect_100 (post : Option Value → Mm → Prop) : Kk := (i_putZ 4 22 (i_aload 0 (i_getR 4 26 (i_aload 0 (i_getI 4 25 (i_aload 0 (i_getI 4 20 (i_ast (i_aload 0 (i_dup (i_getI 4 25 (i_push (.int 1) (i_bin (fun x y => x + y) (i_putI 4 25 (i_aload 0 (i_aload 0 (i_getI 4 1 (i_putI 4 24 (i_aload 0 (i_push (.int 2) (i_putI 4 18 (i_aload 0 (i_push (.int 0) (i_putI 4 19 (i_vret post)))))))))))))))))))))))))
theorem t_M_collect_100 {Z : Zt} {X0 : Mm} {post : Option Value → Mm → Prop} (g : Good Z prog_6_method_22_code 2 "BusTelegramsModel" 0) (hq : RetZ Z true X0 0 0 post) (hr : (zM Z).sig.returnType = none) : Snd Z 2 100 (b_M_collect_100 post) := by
  unfold b_M_collect_100
  exact (s_putZ g (c := 4) (j := 22) cok_4 (by decide) rfl rfl rfl mw_576 rfl d_M_collect_100 (s_aload_n g d_M_collect_103 rfl (s_getR g (c := 4) (j := 26) cok_4 (by decide) rfl mw_580 rfl d_M_collect_104 (s_aload_n g d_M_collect_107 rfl (s_getI g (c := 4) (j := 25) cok_4 (by decide) rfl mw_579 rfl d_M_collect_108 (s_aload_n g d_M_collect_111 rfl (s_getI g (c := 4) (j := 20) cok_4 (by decide) rfl mw_574 rfl d_M_collect_112 (s_iast g d_M_collect_115 (s_aload_n g d_M_collect_116 rfl (s_dup g d_M_collect_117 (s_getI g (c := 4) (j := 25) cok_4 (by decide) rfl mw_579 rfl d_M_collect_118 (s_push_iconst g d_M_collect_121 (by decide) (s_iadd g d_M_collect_122 (s_putI g (c := 4) (j := 25) cok_4 (by decide) rfl rfl rfl mw_579 rfl d_M_collect_123 (s_aload_n g d_M_collect_126 rfl (s_aload_n g d_M_collect_127 rfl (s_getI g (c := 4) (j := 1) cok_4 (by decide) rfl mw_555 rfl d_M_collect_128 (s_putI g (c := 4) (j := 24) cok_4 (by decide) rfl rfl rfl mw_578 rfl d_M_collect_131 (s_aload_n g d_M_collect_134 rfl (s_push_iconst g d_M_collect_135 (by decide) (s_putI g (c := 4) (j := 18) cok_4 (by decide) rfl rfl rfl mw_572 rfl d_M_collect_136 (s_aload_n g d_M_collect_139 rfl (s_push_iconst g d_M_collect_140 (by decide) (s_putI g (c := 4) (j := 19) cok_4 (by decide) rfl rfl rfl mw_573 rfl d_M_collect_141 (s_vret0 g hq hr d_M_collect_144)))))))))))))))))))))))))
def b_M_collect_95 (post : Option Value → Mm → Prop) : Kk := (i_push (.int 1) (b_M_collect_100 post))
theorem t_M_collect_95 {Z : Zt} {X0 : Mm} {post : Option Value → Mm → Prop} (g : Good Z prog_6_method_22_code 2 "BusTelegramsModel" 0) (hq : RetZ Z true X0 0 0 post) (hr : (zM Z).sig.returnType = none) : Snd Z 2 95 (b_M_collect_95 post) := by
  unfold b_M_collect_95
  exact (s_push_iconst g d_M_collect_95 (by decide) (s_goto g d_M_collect_96 (by decide) (t_M_collect_100 g hq hr)))
def b_M_collect_49 (post : Option Value → Mm → Prop) : Kk := (i_bin (fun x y => x + y) (i_putI 4 21 (i_aload 0 (i_dup (i_getI 4 19 (i_push (.int 1) (i_bin (fun x y => x + y) (i_putI 4 19 (i_aload 0 (i_getI 4 19 (i_push (.int 11) (i_icmp (fun x y => y ≤ x) (i_aload 0 (i_aload 0 (i_getI 4 22 (i_if (fun x y => x = y) (i_aload 0 (i_getI 4 21 (i_push (.int 2) (i_binz (fun x y => x - x / y * y) (i_push (.int 1) (i_icmp (fun x y => x = y) (b_M_collect_95 post) (i_iload 1 (i_if (fun x y => x = y) (b_M_collect_95 post) (i_push (.int 0) (b_M_collect_100 post)))))))))) (b_M_collect_95 post))))) (i_vret post)))))))))))))
theorem t_M_collect_49 {Z : Zt} {X0 : Mm} {post : Option Value → Mm → Prop} (g : Good Z prog_6_method_22_code 2 "BusTelegramsModel" 0) (hq : RetZ Z true X0 0 0 post) (hr : (zM Z).sig.returnType = none) : Snd Z 2 49 (b_M_collect_49 post) := by
  unfold b_M_collect_49
  exact (s_iadd g d_M_collect_49 (s_putI g (c := 4) (j := 21) cok_4 (by decide) rfl rfl rfl mw_575 rfl d_M_collect_50 (s_aload_n g d_M_collect_53 rfl (s_dup g d_M_collect_54 (s_getI g (c := 4) (j := 19) cok_4 (by decide) rfl mw_573 rfl d_M_collect_55 (s_push_iconst g d_M_collect_58 (by decide) (s_iadd g d_M_collect_59 (s_putI g (c := 4) (j := 19) cok_4 (by decide) rfl rfl rfl mw_573 rfl d_M_collect_60 (s_aload_n g d_M_collect_63 rfl (s_getI g (c := 4) (j := 19) cok_4 (by decide) rfl mw_573 rfl d_M_collect_64 (s_push_bipush g d_M_collect_67 (by decide) (s_icmp_ge g d_M_collect_69 (by decide) (s_aload_n g d_M_collect_73 rfl (s_aload_n g d_M_collect_74 rfl (s_getI g (c := 4) (j := 22) cok_4 (by decide) rfl mw_576 rfl d_M_collect_75 (s_if_ne g d_M_collect_78 (by decide) (t_M_collect_95 g hq hr) (s_aload_n g d_M_collect_81 rfl (s_getI g (c := 4) (j := 21) cok_4 (by decide) rfl mw_575 rfl d_M_collect_82 (s_push_iconst g d_M_collect_85 (by decide) (s_irem g d_M_collect_86 (s_push_iconst g d_M_collect_87 (by decide) (s_icmp_eq g d_M_collect_88 (by decide) (t_M_collect_95 g hq hr) (s_iload_n g d_M_collect_91 rfl (s_if_ne g d_M_collect_92 (by decide) (s_push_iconst g d_M_collect_99 (by decide) (t_M_collect_100 g hq hr)) (t_M_collect_95 g hq hr))))))))))))) (s_vret0 g hq hr d_M_collect_72)))))))))))))
def b_M_collect_26 (post : Option Value → Mm → Prop) : Kk := (i_bin (fun x y => x + y) (i_putI 4 20 (i_aload 0 (i_dup (i_getI 4 21 (i_aload 0 (i_getI 4 19 (i_push (.int 10) (i_icmp (fun x y => y ≤ x) (i_push (.int 0) (b_M_collect_49 post)) (i_iload 1 (b_M_collect_49 post)))))))))))
theorem t_M_collect_26 {Z : Zt} {X0 : Mm} {post : Option Value → Mm → Prop} (g : Good Z prog_6_method_22_code 2 "BusTelegramsModel" 0) (hq : RetZ Z true X0 0 0 post) (hr : (zM Z).sig.returnType = none) : Snd Z 2 26 (b_M_collect_26 post) := by
  unfold b_M_collect_26
  exact (s_iadd g d_M_collect_26 (s_putI g (c := 4) (j := 20) cok_4 (by decide) rfl rfl rfl mw_574 rfl d_M_collect_27 (s_aload_n g d_M_collect_30 rfl (s_dup g d_M_collect_31 (s_getI g (c := 4) (j := 21) cok_4 (by decide) rfl mw_575 rfl d_M_collect_32 (s_aload_n g d_M_collect_35 rfl (s_getI g (c := 4) (j := 19) cok_4 (by decide) rfl mw_573 rfl d_M_collect_36 (s_push_bipush g d_M_collect_39 (by decide) (s_icmp_ge g d_M_collect_41 (by decide) (s_push_iconst g d_M_collect_48 (by decide) (t_M_collect_49 g hq hr)) (s_iload_n g d_M_collect_44 rfl (s_goto g d_M_collect_45 (by decide) (t_M_collect_49 g hq hr))))))))))))
def b_M_collect_0 (post : Option Value → Mm → Prop) : Kk := (i_aload 0 (i_dup (i_getI 4 20 (i_aload 0 (i_getI 4 19 (i_push (.int 9) (i_icmp (fun x y => y ≤ x) (i_push (.int 0) (b_M_collect_26 post)) (i_iload 1 (i_aload 0 (i_getI 4 19 (i_push (.int 1) (i_bin (fun x y => x - y) (i_bin (fun x y => x <<< (y &&& 31)) (b_M_collect_26 post))))))))))))))
theorem t_M_collect_0 {Z : Zt} {X0 : Mm} {post : Option Value → Mm → Prop} (g : Good Z prog_6_method_22_code 2 "BusTelegramsModel" 0) (hq : RetZ Z true X0 0 0 post) (hr : (zM Z).sig.returnType = none) : Snd Z 2 0 (b_M_collect_0 post) := by
  unfold b_M_collect_0
  exact (s_aload_n g d_M_collect_0 rfl (s_dup g d_M_collect_1 (s_getI g (c := 4) (j := 20) cok_4 (by decide) rfl mw_574 rfl d_M_collect_2 (s_aload_n g d_M_collect_5 rfl (s_getI g (c := 4) (j := 19) cok_4 (by decide) rfl mw_573 rfl d_M_collect_6 (s_push_bipush g d_M_collect_9 (by decide) (s_icmp_ge g d_M_collect_11 (by decide) (s_push_iconst g d_M_collect_25 (by decide) (t_M_collect_26 g hq hr)) (s_iload_n g d_M_collect_14 rfl (s_aload_n g d_M_collect_15 rfl (s_getI g (c := 4) (j := 19) cok_4 (by decide) rfl mw_573 rfl d_M_collect_16 (s_push_iconst g d_M_collect_19 (by decide) (s_isub g d_M_collect_20 (s_ishl g d_M_collect_21 (s_goto g d_M_collect_22 (by decide) (t_M_collect_26 g hq hr)))))))))))))))
def w_M_collect : Wp := wpOf 2 (fun _ post => b_M_collect_0 post)
theorem C_M_collect (l : Launch) : MetS l ({ cls := "BusTelegramsModel", name := "collect", desc := "(I)V" } : Jvm.MethodName) prog_6_method_22_code 2 none true 0 0 0 w_M_collect := metS_of (by decide +kernel) (fun Z X0 post hZ g hq hr _ => t_M_collect_0 g hq hr)
theorem hd_M_collect : (({ cls := "BusTelegramsModel", name := "collect", desc := "(I)V" } : Jvm.MethodName)).cls = "BusTelegramsModel" ∧ (({ cls := "BusTelegramsModel", name := "collect", desc := "(I)V" } : Jvm.MethodName)).cls ≠ "java/lang/invoke/MethodHandle" ∧ (({ cls := "BusTelegramsModel", name := "collect", desc := "(I)V" } : Jvm.MethodName)).cls ≠ "java/lang/invoke/VarHandle" ∧ (parseMethodDescriptor (({ cls := "BusTelegramsModel", name := "collect", desc := "(I)V" } : Jvm.MethodName)).desc).map (fun d => d.parameters.length) = some 1 := ⟨rfl, by decide, by decide, by decide +kernel⟩
theorem d_M_complete_0 : decode prog_6_method_19_code 0 = .ok (.aload_n 0, 1) := by decide +kernel
theorem d_M_complete_1 : decode prog_6_method_19_code 1 = .ok (.getfield 122, 3) := by decide +kernel
theorem d_M_complete_4 : decode prog_6_method_19_code 4 = .ok (.bipush 8, 2) := by decide +kernel
theorem d_M_complete_6 : decode prog_6_method_19_code 6 = .ok (.if_icmp .lt 172, 3) := by decide +kernel
theorem d_M_complete_9 : decode prog_6_method_19_code 9 = .ok (.aload_n 0, 1) := by decide +kernel
theorem d_M_complete_10 : decode prog_6_method_19_code 10 = .ok (.getfield 125, 3) := by decide +kernel
theorem d_M_complete_13 : decode prog_6_method_19_code 13 = .ok (.ifCond .ne 165, 3) := by decide +kernel
theorem d_M_complete_16 : decode prog_6_method_19_code 16 = .ok (.aload_n 0, 1) := by decide +kernel
theorem d_M_complete_17 : decode prog_6_method_19_code 17 = .ok (.iconst 1, 1) := by decide +kernel
theorem d_M_complete_18 : decode prog_6_method_19_code 18 = .ok (.putfield 102, 3) := by decide +kernel
theorem d_M_complete_21 : decode prog_6_method_19_code 21 = .ok (.aload_n 0, 1) := by decide +kernel
theorem d_M_complete_22 : decode prog_6_method_19_code 22 = .ok (.aload_n 0, 1) := by decide +kernel
theorem d_M_complete_23 : decode prog_6_method_19_code 23 = .ok (.getfield 128, 3) := by decide +kernel
theorem d_M_complete_26 : decode prog_6_method_19_code 26 = .ok (.putfield 109, 3) := by decide +kernel
theorem d_M_complete_29 : decode prog_6_method_19_code 29 = .ok (.aload_n 0, 1) := by decide +kernel
theorem d_M_complete_30 : decode prog_6_method_19_code 30 = .ok (.aload_n 0, 1) := by decide +kernel
theorem d_M_complete_31 : decode prog_6_method_19_code 31 = .ok (.getfield 122, 3) := by decide +kernel
theorem d_M_complete_34 : decode prog_6_method_19_code 34 = .ok (.putfield 131, 3) := by decide +kernel
theorem d_M_complete_37 : decode prog_6_method_19_code 37 = .ok (.sipush 255, 3) := by decide +kernel
theorem d_M_complete_40 : decode prog_6_method_19_code 40 = .ok (.istore_n 1, 1) := by decide +kernel
theorem d_M_complete_41 : decode prog_6_method_19_code 41 = .ok (.iconst 0, 1) := by decide +kernel
theorem d_M_complete_42 : decode prog_6_method_19_code 42 = .ok (.istore_n 2, 1) := by decide +kernel
theorem d_M_complete_43 : decode prog_6_method_19_code 43 = .ok (.iload_n 2, 1) := by decide +kernel
theorem d_M_complete_44 : decode prog_6_method_19_code 44 = .ok (.aload_n 0, 1) := by decide +kernel
theorem d_M_complete_45 : decode prog_6_method_19_code 45 = .ok (.getfield 131, 3) := by decide +kernel
theorem d_M_complete_48 : decode prog_6_method_19_code 48 = .ok (.if_icmp .ge 44, 3) := by decide +kernel
theorem d_M_complete_51 : decode prog_6_method_19_code 51 = .ok (.aload_n 0, 1) := by decide +kernel
theorem d_M_complete_52 : decode prog_6_method_19_code 52 = .ok (.getfield 67, 3) := by decide +kernel
theorem d_M_complete_55 : decode prog_6_method_19_code 55 = .ok (.iload_n 2, 1) := by decide +kernel
theorem d_M_complete_56 : decode prog_6_method_19_code 56 = .ok (.aload_n 0, 1) := by decide +kernel
theorem d_M_complete_57 : decode prog_6_method_19_code 57 = .ok (.getfield 58, 3) := by decide +kernel
theorem d_M_complete_60 : decode prog_6_method_19_code 60 = .ok (.iload_n 2, 1) := by decide +kernel
theorem d_M_complete_61 : decode prog_6_method_19_code 61 = .ok (.iaload, 1) := by decide +kernel
theorem d_M_complete_62 : decode prog_6_method_19_code 62 = .ok (.iastore, 1) := by decide +kernel
theorem d_M_complete_63 : decode prog_6_method_19_code 63 = .ok (.iload_n 2, 1) := by decide +kernel
theorem d_M_complete_64 : decode prog_6_method_19_code 64 = .ok (.iconst 1, 1) := by decide +kernel
theorem d_M_complete_65 : decode prog_6_method_19_code 65 = .ok (.iadd, 1) := by decide +kernel
theorem d_M_complete_66 : decode prog_6_method_19_code 66 = .ok (.aload_n 0, 1) := by decide +kernel
theorem d_M_complete_67 : decode prog_6_method_19_code 67 = .ok (.getfield 131, 3) := by decide +kernel
theorem d_M_complete_70 : decode prog_6_method_19_code 70 = .ok (.if_icmp .ge 14, 3) := by decide +kernel
theorem d_M_complete_73 : decode prog_6_method_19_code 73 = .ok (.iload_n 1, 1) := by decide +kernel
theorem d_M_complete_74 : decode prog_6_method_19_code 74 = .ok (.aload_n 0, 1) := by decide +kernel
theorem d_M_complete_75 : decode prog_6_method_19_code 75 = .ok (.getfield 58, 3) := by decide +kernel
theorem d_M_complete_78 : decode prog_6_method_19_code 78 = .ok (.iload_n 2, 1) := by decide +kernel
theorem d_M_complete_79 : decode prog_6_method_19_code 79 = .ok (.iaload, 1) := by decide +kernel
theorem d_M_complete_80 : decode prog_6_method_19_code 80 = .ok (.ixor, 1) := by decide +kernel
theorem d_M_complete_81 : decode prog_6_method_19_code 81 = .ok (.goto 4, 3) := by decide +kernel
theorem d_M_complete_84 : decode prog_6_method_19_code 84 = .ok (.iload_n 1, 1) := by decide +kernel
theorem d_M_complete_85 : decode prog_6_method_19_code 85 = .ok (.istore_n 1, 1) := by decide +kernel
theorem d_M_complete_86 : decode prog_6_method_19_code 86 = .ok (.iinc 2 1, 3) := by decide +kernel
theorem d_M_complete_89 : decode prog_6_method_19_code 89 = .ok (.goto (-46), 3) := by decide +kernel
theorem d_M_complete_92 : decode prog_6_method_19_code 92 = .ok (.aload_n 0, 1) := by decide +kernel
theorem d_M_complete_93 : decode prog_6_method_19_code 93 = .ok (.iload_n 1, 1) := by decide +kernel
theorem d_M_complete_94 : decode prog_6_method_19_code 94 = .ok (.aload_n 0, 1) := by decide +kernel
theorem d_M_complete_95 : decode prog_6_method_19_code 95 = .ok (.getfield 58, 3) := by decide +kernel
theorem d_M_complete_98 : decode prog_6_method_19_code 98 = .ok (.aload_n 0, 1) := by decide +kernel
theorem d_M_complete_99 : decode prog_6_method_19_code 99 = .ok (.getfield 131, 3) := by decide +kernel
theorem d_M_complete_102 : decode prog_6_method_19_code 102 = .ok (.iconst 1, 1) := by decide +kernel
theorem d_M_complete_103 : decode prog_6_method_19_code 103 = .ok (.isub, 1) := by decide +kernel
theorem d_M_complete_104 : decode prog_6_method_19_code 104 = .ok (.iaload, 1) := by decide +kernel
theorem d_M_complete_105 : decode prog_6_method_19_code 105 = .ok (.if_icmp .ne 27, 3) := by decide +kernel
theorem d_M_complete_108 : decode prog_6_method_19_code 108 = .ok (.aload_n 0, 1) := by decide +kernel
theorem d_M_complete_109 : decode prog_6_method_19_code 109 = .ok (.getfield 131, 3) := by decide +kernel
theorem d_M_complete_112 : decode prog_6_method_19_code 112 = .ok (.bipush 8, 2) := by decide +kernel
theorem d_M_complete_114 : decode prog_6_method_19_code 114 = .ok (.aload_n 0, 1) := by decide +kernel
theorem d_M_complete_115 : decode prog_6_method_19_code 115 = .ok (.getfield 58, 3) := by decide +kernel
theorem d_M_complete_118 : decode prog_6_method_19_code 118 = .ok (.iconst 5, 1) := by decide +kernel
theorem d_M_complete_119 : decode prog_6_method_19_code 119 = .ok (.iaload, 1) := by decide +kernel
theorem d_M_complete_120 : decode prog_6_method_19_code 120 = .ok (.sipush 128, 3) := by decide +kernel
theorem d_M_complete_123 : decode prog_6_method_19_code 123 = .ok (.irem, 1) := by decide +kernel
theorem d_M_complete_124 : decode prog_6_method_19_code 124 = .ok (.iadd, 1) := by decide +kernel
theorem d_M_complete_125 : decode prog_6_method_19_code 125 = .ok (.if_icmp .ne 7, 3) := by decide +kernel
theorem d_M_complete_128 : decode prog_6_method_19_code 128 = .ok (.iconst 1, 1) := by decide +kernel
theorem d_M_complete_129 : decode prog_6_method_19_code 129 = .ok (.goto 4, 3) := by decide +kernel
theorem d_M_complete_132 : decode prog_6_method_19_code 132 = .ok (.iconst 0, 1) := by decide +kernel
theorem d_M_complete_133 : decode prog_6_method_19_code 133 = .ok (.putfield 116, 3) := by decide +kernel
theorem d_M_complete_136 : decode prog_6_method_19_code 136 = .ok (.aload_n 0, 1) := by decide +kernel
theorem d_M_complete_137 : decode prog_6_method_19_code 137 = .ok (.iconst 0, 1) := by decide +kernel
theorem d_M_complete_138 : decode prog_6_method_19_code 138 = .ok (.putfield 106, 3) := by decide +kernel
theorem d_M_complete_141 : decode prog_6_method_19_code 141 = .ok (.aload_n 0, 1) := by decide +kernel
theorem d_M_complete_142 : decode prog_6_method_19_code 142 = .ok (.iconst (-1), 1) := by decide +kernel
theorem d_M_complete_143 : decode prog_6_method_19_code 143 = .ok (.putfield 64, 3) := by decide +kernel
theorem d_M_complete_146 : decode prog_6_method_19_code 146 = .ok (.aload_n 0, 1) := by decide +kernel
theorem d_M_complete_147 : decode prog_6_method_19_code 147 = .ok (.getfield 61, 3) := by decide +kernel
theorem d_M_complete_150 : decode prog_6_method_19_code 150 = .ok (.iconst 0, 1) := by decide +kernel
theorem d_M_complete_151 : decode prog_6_method_19_code 151 = .ok (.dup2, 1) := by decide +kernel
theorem d_M_complete_152 : decode prog_6_method_19_code 152 = .ok (.iaload, 1) := by decide +kernel
theorem d_M_complete_153 : decode prog_6_method_19_code 153 = .ok (.iconst 1, 1) := by decide +kernel
theorem d_M_complete_154 : decode prog_6_method_19_code 154 = .ok (.iadd, 1) := by decide +kernel
theorem d_M_complete_155 : decode prog_6_method_19_code 155 = .ok (.iastore, 1) := by decide +kernel
theorem d_M_complete_156 : decode prog_6_method_19_code 156 = .ok (.aload_n 0, 1) := by decide +kernel
theorem d_M_complete_157 : decode prog_6_method_19_code 157 = .ok (.getfield 61, 3) := by decide +kernel
theorem d_M_complete_160 : decode prog_6_method_19_code 160 = .ok (.iconst 1, 1) := by decide +kernel
theorem d_M_complete_161 : decode prog_6_method_19_code 161 = .ok (.dup2, 1) := by decide +kernel
theorem d_M_complete_162 : decode prog_6_method_19_code 162 = .ok (.iaload, 1) := by decide +kernel
theorem d_M_complete_163 : decode prog_6_method_19_code 163 = .ok (.aload_n 0, 1) := by decide +kernel
theorem d_M_complete_164 : decode prog_6_method_19_code 164 = .ok (.getfield 116, 3) := by decide +kernel
theorem d_M_complete_167 : decode prog_6_method_19_code 167 = .ok (.ifCond .eq 7, 3) := by decide +kernel
theorem d_M_complete_170 : decode prog_6_method_19_code 170 = .ok (.iconst 1, 1) := by decide +kernel
theorem d_M_complete_171 : decode prog_6_method_19_code 171 = .ok (.goto 4, 3) := by decide +kernel
theorem d_M_complete_174 : decode prog_6_method_19_code 174 = .ok (.iconst 0, 1) := by decide +kernel
theorem d_M_complete_175 : decode prog_6_method_19_code 175 = .ok (.iadd, 1) := by decide +kernel
theorem d_M_complete_176 : decode prog_6_method_19_code 176 = .ok (.iastore, 1) := by decide +kernel
theorem d_M_complete_177 : decode prog_6_method_19_code 177 = .ok (.return_, 1) := by decide +kernel
theorem d_M_complete_178 : decode prog_6_method_19_code 178 = .ok (.aload_n 0, 1) := by decide +kernel
theorem d_M_complete_179 : decode prog_6_method_19_code 179 = .ok (.getfield 102, 3) := by decide +kernel
theorem d_M_complete_182 : decode prog_6_method_19_code 182 = .ok (.ifCond .eq 69, 3) := by decide +kernel
theorem d_M_complete_185 : decode prog_6_method_19_code 185 = .ok (.aload_n 0, 1) := by decide +kernel
theorem d_M_complete_186 : decode prog_6_method_19_code 186 = .ok (.getfield 134, 3) := by decide +kernel
theorem d_M_complete_189 : decode prog_6_method_19_code 189 = .ok (.aload_n 0, 1) := by decide +kernel
theorem d_M_complete_190 : decode prog_6_method_19_code 190 = .ok (.getfield 109, 3) := by decide +kernel
theorem d_M_complete_193 : decode prog_6_method_19_code 193 = .ok (.bipush 14, 2) := by decide +kernel
theorem d_M_complete_195 : decode prog_6_method_19_code 195 = .ok (.iadd, 1) := by decide +kernel
theorem d_M_complete_196 : decode prog_6_method_19_code 196 = .ok (.if_icmp .ne 55, 3) := by decide +kernel
theorem d_M_complete_199 : decode prog_6_method_19_code 199 = .ok (.aload_n 0, 1) := by decide +kernel
theorem d_M_complete_200 : decode prog_6_method_19_code 200 = .ok (.getfield 122, 3) := by decide +kernel
theorem d_M_complete_203 : decode prog_6_method_19_code 203 = .ok (.iconst 1, 1) := by decide +kernel
theorem d_M_complete_204 : decode prog_6_method_19_code 204 = .ok (.if_icmp .ne 47, 3) := by decide +kernel
theorem d_M_complete_207 : decode prog_6_method_19_code 207 = .ok (.aload_n 0, 1) := by decide +kernel
theorem d_M_complete_208 : decode prog_6_method_19_code 208 = .ok (.getfield 125, 3) := by decide +kernel
theorem d_M_complete_211 : decode prog_6_method_19_code 211 = .ok (.ifCond .ne 40, 3) := by decide +kernel
theorem d_M_complete_214 : decode prog_6_method_19_code 214 = .ok (.aload_n 0, 1) := by decide +kernel
theorem d_M_complete_215 : decode prog_6_method_19_code 215 = .ok (.aload_n 0, 1) := by decide +kernel
theorem d_M_complete_216 : decode prog_6_method_19_code 216 = .ok (.getfield 58, 3) := by decide +kernel
theorem d_M_complete_219 : decode prog_6_method_19_code 219 = .ok (.iconst 0, 1) := by decide +kernel
theorem d_M_complete_220 : decode prog_6_method_19_code 220 = .ok (.iaload, 1) := by decide +kernel
theorem d_M_complete_221 : decode prog_6_method_19_code 221 = .ok (.putfield 64, 3) := by decide +kernel
theorem d_M_complete_224 : decode prog_6_method_19_code 224 = .ok (.aload_n 0, 1) := by decide +kernel
theorem d_M_complete_225 : decode prog_6_method_19_code 225 = .ok (.getfield 61, 3) := by decide +kernel
theorem d_M_complete_228 : decode prog_6_method_19_code 228 = .ok (.aload_n 0, 1) := by decide +kernel
theorem d_M_complete_229 : decode prog_6_method_19_code 229 = .ok (.getfield 64, 3) := by decide +kernel
theorem d_M_complete_232 : decode prog_6_method_19_code 232 = .ok (.sipush 204, 3) := by decide +kernel
theorem d_M_complete_235 : decode prog_6_method_19_code 235 = .ok (.if_icmp .ne 7, 3) := by decide +kernel
theorem d_M_complete_238 : decode prog_6_method_19_code 238 = .ok (.iconst 3, 1) := by decide +kernel
theorem d_M_complete_239 : decode prog_6_method_19_code 239 = .ok (.goto 4, 3) := by decide +kernel
theorem d_M_complete_242 : decode prog_6_method_19_code 242 = .ok (.iconst 4, 1) := by decide +kernel
theorem d_M_complete_243 : decode prog_6_method_19_code 243 = .ok (.dup2, 1) := by decide +kernel
theorem d_M_complete_244 : decode prog_6_method_19_code 244 = .ok (.iaload, 1) := by decide +kernel
theorem d_M_complete_245 : decode prog_6_method_19_code 245 = .ok (.iconst 1, 1) := by decide +kernel
theorem d_M_complete_246 : decode prog_6_method_19_code 246 = .ok (.iadd, 1) := by decide +kernel
theorem d_M_complete_247 : decode prog_6_method_19_code 247 = .ok (.iastore, 1) := by decide +kernel
theorem d_M_complete_248 : decode prog_6_method_19_code 248 = .ok (.goto 13, 3) := by decide +kernel
theorem d_M_complete_251 : decode prog_6_method_19_code 251 = .ok (.aload_n 0, 1) := by decide +kernel
theorem d_M_complete_252 : decode prog_6_method_19_code 252 = .ok (.getfield 61, 3) := by decide +kernel
theorem d_M_complete_255 : decode prog_6_method_19_code 255 = .ok (.iconst 2, 1) := by decide +kernel
theorem d_M_complete_256 : decode prog_6_method_19_code 256 = .ok (.dup2, 1) := by decide +kernel
theorem d_M_complete_257 : decode prog_6_method_19_code 257 = .ok (.iaload, 1) := by decide +kernel
theorem d_M_complete_258 : decode prog_6_method_19_code 258 = .ok (.iconst 1, 1) := by decide +kernel
theorem d_M_complete_259 : decode prog_6_method_19_code 259 = .ok (.iadd, 1) := by decide +kernel
theorem d_M_complete_260 : decode prog_6_method_19_code 260 = .ok (.iastore, 1) := by decide +kernel
theorem d_M_complete_261 : decode prog_6_method_19_code 261 = .ok (.aload_n 0, 1) := by decide +kernel
theorem d_M_complete_262 : decode prog_6_method_19_code 262 = .ok (.iconst 1, 1) := by decide +kernel
theorem d_M_complete_263 : decode prog_6_method_19_code 263 = .ok (.putfield 106, 3) := by decide +kernel
theorem d_M_complete_266 : decode prog_6_method_19_code 266 = .ok (.return_, 1) := by decide +kernel
def b_M_complete_261 (post : Option Value → Mm → Prop) : Kk := (i_aload 0 (i_push (.int 1) (i_putZ 4 32 (i_vret post))))
theorem t_M_complete_261 {Z : Zt} {X0 : Mm} {post : Option Value → Mm → Prop} (g : Good Z prog_6_method_19_code 3 "BusTelegramsModel" 0) (hq : RetZ Z true X0 0 0 post) (hr : (zM Z).sig.returnType = none) : Snd Z 3 261 (b_M_complete_261 post) := by
  unfold b_M_complete_261
  exact (s_aload_n g d_M_complete_261 rfl (s_push_iconst g d_M_complete_262 (by decide) (s_putZ g (c := 4) (j := 32) cok_4 (by decide) rfl rfl rfl mw_586 rfl d_M_complete_263 (s_vret0 g hq hr d_M_complete_266))))
def b_M_complete_251 (post : Option Value → Mm → Prop) : Kk := (i_aload 0 (i_getR 4 27 (i_push (.int 2) (i_dup2 (i_ald 10 (i_push (.int 1) (i_bin (fun x y => x + y) (i_ast (b_M_complete_261 post)))))))))
theorem t_M_complete_251 {Z : Zt} {X0 : Mm} {post : Option Value → Mm → Prop} (g : Good Z prog_6_method_19_code 3 "BusTelegramsModel" 0) (hq : RetZ Z true X0 0 0 post) (hr : (zM Z).sig.returnType = none) : Snd Z 3 251 (b_M_complete_251 post) := by
  unfold b_M_complete_251
  exact (s_aload_n g d_M_complete_251 rfl (s_getR g (c := 4) (j := 27) cok_4 (by decide) rfl mw_581 rfl d_M_complete_252 (s_push_iconst g d_M_complete_255 (by decide) (s_dup2 g d_M_complete_256 (s_iald g d_M_complete_257 (s_push_iconst g d_M_complete_258 (by decide) (s_iadd g d_M_complete_259 (s_iast g d_M_complete_260 (t_M_complete_261 g hq hr)))))))))
def b_M_complete_243 (post : Option Value → Mm → Prop) : Kk := (i_dup2 (i_ald 10 (i_push (.int 1) (i_bin (fun x y => x + y) (i_ast (b_M_complete_261 post))))))
theorem t_M_complete_243 {Z : Zt} {X0 : Mm} {post : Option Value → Mm → Prop} (g : Good Z prog_6_method_19_code 3 "BusTelegramsModel" 0) (hq : RetZ Z true X0 0 0 post) (hr : (zM Z).sig.returnType = none) : Snd Z 3 243 (b_M_complete_243 post) := by
  unfold b_M_complete_243
  exact (s_dup2 g d_M_complete_243 (s_iald g d_M_complete_244 (s_push_iconst g d_M_complete_245 (by decide) (s_iadd g d_M_complete_246 (s_iast g d_M_complete_247 (s_goto g d_M_complete_248 (by decide) (t_M_complete_261 g hq hr)))))))
def b_M_complete_178 (post : Option Value → Mm → Prop) : Kk := (i_aload 0 (i_getI 4 28 (i_if (fun x y => x = y) (b_M_complete_251 post) (i_aload 0 (i_getI 4 23 (i_aload 0 (i_getI 4 29 (i_push (.int 14) (i_bin (fun x y => x + y) (i_icmp (fun x y => x = y) (i_aload 0 (i_getI 4 25 (i_push (.int 1) (i_icmp (fun x y => x = y) (i_aload 0 (i_getI 4 22 (i_if (fun x y => x = y) (i_aload 0 (i_aload 0 (i_getR 4 26 (i_push (.int 0) (i_ald 10 (i_putI 4 33 (i_aload 0 (i_getR 4 27 (i_aload 0 (i_getI 4 33 (i_push (.int 204) (i_icmp (fun x y => x = y) (i_push (.int 3) (b_M_complete_243 post)) (i_push (.int 4) (b_M_complete_243 post)))))))))))))) (b_M_complete_251 post)))) (b_M_complete_251 post))))) (b_M_complete_251 post)))))))))))
theorem t_M_complete_178 {Z : Zt} {X0 : Mm} {post : Option Value → Mm → Prop} (g : Good Z prog_6_method_19_code 3 "BusTelegramsModel" 0) (hq : RetZ Z true X0 0 0 post) (hr : (zM Z).sig.returnType = none) : Snd Z 3 178 (b_M_complete_178 post) := by
  unfold b_M_complete_178
  exact (s_aload_n g d_M_complete_178 rfl (s_getI g (c := 4) (j := 28) cok_4 (by decide) rfl mw_582 rfl d_M_complete_179 (s_if_eq g d_M_complete_182 (by decide) (t_M_complete_251 g hq hr) (s_aload_n g d_M_complete_185 rfl (s_getI g (c := 4) (j := 23) cok_4 (by decide) rfl mw_577 rfl d_M_complete_186 (s_aload_n g d_M_complete_189 rfl (s_getI g (c := 4) (j := 29) cok_4 (by decide) rfl mw_583 rfl d_M_complete_190 (s_push_bipush g d_M_complete_193 (by decide) (s_iadd g d_M_complete_195 (s_icmp_ne g d_M_complete_196 (by decide) (t_M_complete_251 g hq hr) (s_aload_n g d_M_complete_199 rfl (s_getI g (c := 4) (j := 25) cok_4 (by decide) rfl mw_579 rfl d_M_complete_200 (s_push_iconst g d_M_complete_203 (by decide) (s_icmp_ne g d_M_complete_204 (by decide) (t_M_complete_251 g hq hr) (s_aload_n g d_M_complete_207 rfl (s_getI g (c := 4) (j := 22) cok_4 (by decide) rfl mw_576 rfl d_M_complete_208 (s_if_ne g d_M_complete_211 (by decide) (t_M_complete_251 g hq hr) (s_aload_n g d_M_complete_214 rfl (s_aload_n g d_M_complete_215 rfl (s_getR g (c := 4) (j := 26) cok_4 (by decide) rfl mw_580 rfl d_M_complete_216 (s_push_iconst g d_M_complete_219 (by decide) (s_iald g d_M_complete_220 (s_putI g (c := 4) (j := 33) cok_4 (by decide) rfl rfl rfl mw_587 rfl d_M_complete_221 (s_aload_n g d_M_complete_224 rfl (s_getR g (c := 4) (j := 27) cok_4 (by decide) rfl mw_581 rfl d_M_complete_225 (s_aload_n g d_M_complete_228 rfl (s_getI g (c := 4) (j := 33) cok_4 (by decide) rfl mw_587 rfl d_M_complete_229 (s_push_sipush g d_M_complete_232 (by decide) (s_icmp_ne g d_M_complete_235 (by decide) (s_push_iconst g d_M_complete_242 (by decide) (t_M_complete_243 g hq hr)) (s_push_iconst g d_M_complete_238 (by decide) (s_goto g d_M_complete_239 (by decide) (t_M_complete_243 g hq hr))))))))))))))))))))))))))))))))
def b_M_complete_175 (post : Option Value → Mm → Prop) : Kk := (i_bin (fun x y => x + y) (i_ast (i_vret post)))
theorem t_M_complete_175 {Z : Zt} {X0 : Mm} {post : Option Value → Mm → Prop} (g : Good Z prog_6_method_19_code 3 "BusTelegramsModel" 0) (hq : RetZ Z true X0 0 0 post) (hr : (zM Z).sig.returnType = none) : Snd Z 3 175 (b_M_complete_175 post) := by
  unfold b_M_complete_175
  exact (s_iadd g d_M_complete_175 (s_iast g d_M_complete_176 (s_vret0 g hq hr d_M_complete_177)))
def b_M_complete_133 (post : Option Value → Mm → Prop) : Kk := (i_putZ 4 31 (i_aload 0 (i_push (.int 0) (i_putZ 4 32 (i_aload 0 (i_push (.int (-1)) (i_putI 4 33 (i_aload 0 (i_getR 4 27 (i_push (.int 0) (i_dup2 (i_ald 10 (i_push (.int 1) (i_bin (fun x y => x + y) (i_ast (i_aload 0 (i_getR 4 27 (i_push (.int 1) (i_dup2 (i_ald 10 (i_aload 0 (i_getI 4 31 (i_if (fun x y => x = y) (i_push (.int 0) (b_M_complete_175 post)) (i_push (.int 1) (b_M_complete_175 post)))))))))))))))))))))))))
theorem t_M_complete_133 {Z : Zt} {X0 : Mm} {post : Option Value → Mm → Prop} (g : Good Z prog_6_method_19_code 3 "BusTelegramsModel" 0) (hq : RetZ Z true X0 0 0 post) (hr : (zM Z).sig.returnType = none) : Snd Z 3 133 (b_M_complete_133 post) := by
  unfold b_M_complete_133
  exact (s_putZ g (c := 4) (j := 31) cok_4 (by decide) rfl rfl rfl mw_585 rfl d_M_complete_133 (s_aload_n g d_M_complete_136 rfl (s_push_iconst g d_M_complete_137 (by decide) (s_putZ g (c := 4) (j := 32) cok_4 (by decide) rfl rfl rfl mw_586 rfl d_M_complete_138 (s_aload_n g d_M_complete_141 rfl (s_push_iconst g d_M_complete_142 (by decide) (s_putI g (c := 4) (j := 33) cok_4 (by decide) rfl rfl rfl mw_587 rfl d_M_complete_143 (s_aload_n g d_M_complete_146 rfl (s_getR g (c := 4) (j := 27) cok_4 (by decide) rfl mw_581 rfl d_M_complete_147 (s_push_iconst g d_M_complete_150 (by decide) (s_dup2 g d_M_complete_151 (s_iald g d_M_complete_152 (s_push_iconst g d_M_complete_153 (by decide) (s_iadd g d_M_complete_154 (s_iast g d_M_complete_155 (s_aload_n g d_M_complete_156 rfl (s_getR g (c := 4) (j := 27) cok_4 (by decide) rfl mw_581 rfl d_M_complete_157 (s_push_iconst g d_M_complete_160 (by decide) (s_dup2 g d_M_complete_161 (s_iald g d_M_complete_162 (s_aload_n g d_M_complete_163 rfl (s_getI g (c := 4) (j := 31) cok_4 (by decide) rfl mw_585 rfl d_M_complete_164 (s_if_eq g d_M_complete_167 (by decide) (s_push_iconst g d_M_complete_174 (by decide) (t_M_complete_175 g hq hr)) (s_push_iconst g d_M_complete_170 (by decide) (s_goto g d_M_complete_171 (by decide) (t_M_complete_175 g hq hr))))))))))))))))))))))))))
def b_M_complete_132 (post : Option Value → Mm → Prop) : Kk := (i_push (.int 0) (b_M_complete_133 post))
theorem t_M_complete_132 {Z : Zt} {X0 : Mm} {post : Option Value → Mm → Prop} (g : Good Z prog_6_method_19_code 3 "BusTelegramsModel" 0) (hq : RetZ Z true X0 0 0 post) (hr : (zM Z).sig.returnType = none) : Snd Z 3 132 (b_M_complete_132 post) := by
  unfold b_M_complete_132
  exact (s_push_iconst g d_M_complete_132 (by decide) (t_M_complete_133 g hq hr))
def b_M_complete_85 (post : Option Value → Mm → Prop) (k43 : Kk) : Kk := (i_istore 1 (i_iinc 2 1 k43))
theorem t_M_complete_85 {Z : Zt} {X0 : Mm} {post : Option Value → Mm → Prop} {k43 : Kk} (g : Good Z prog_6_method_19_code 3 "BusTelegramsModel" 0) (hq : RetZ Z true X0 0 0 post) (hr : (zM Z).sig.returnType = none) (hk43 : Snd Z 3 43 k43) : Snd Z 3 85 (b_M_complete_85 post k43) := by
  unfold b_M_complete_85
  exact (s_istore_n g (by decide) d_M_complete_85 rfl (s_iinc g (by decide) d_M_complete_86 (by decide) (s_goto g d_M_complete_89 (by decide) hk43)))
def b_M_complete_43 (post : Option Value → Mm → Prop) : Kk := i_loop [0, 1, 2] (fun k43 => (i_iload 2 (i_aload 0 (i_getI 4 30 (i_icmp (fun x y => y ≤ x) (i_aload 0 (i_iload 1 (i_aload 0 (i_getR 4 26 (i_aload 0 (i_getI 4 30 (i_push (.int 1) (i_bin (fun x y => x - y) (i_ald 10 (i_icmp (fun x y => x = y) (i_aload 0 (i_getI 4 30 (i_push (.int 8) (i_aload 0 (i_getR 4 26 (i_push (.int 5) (i_ald 10 (i_push (.int 128) (i_binz (fun x y => x - x / y * y) (i_bin (fun x y => x + y) (i_icmp (fun x y => x = y) (i_push (.int 1) (b_M_complete_133 post)) (b_M_complete_132 post)))))))))))) (b_M_complete_132 post))))))))))) (i_aload 0 (i_getR 4 34 (i_iload 2 (i_aload 0 (i_getR 4 26 (i_iload 2 (i_ald 10 (i_ast (i_iload 2 (i_push (.int 1) (i_bin (fun x y => x + y) (i_aload 0 (i_getI 4 30 (i_icmp (fun x y => y ≤ x) (i_iload 1 (b_M_complete_85 post k43)) (i_iload 1 (i_aload 0 (i_getR 4 26 (i_iload 2 (i_ald 10 (i_bin (fun x y => x ^^^ y) (b_M_complete_85 post k43))))))))))))))))))))))))))
theorem t_M_complete_43 {Z : Zt} {X0 : Mm} {post : Option Value → Mm → Prop} (g : Good Z prog_6_method_19_code 3 "BusTelegramsModel" 0) (hq : RetZ Z true X0 0 0 post) (hr : (zM Z).sig.returnType = none) : Snd Z 3 43 (b_M_complete_43 post) := by
  unfold b_M_complete_43
  exact s_loop (fun k43 hk43 => (s_iload_n g d_M_complete_43 rfl (s_aload_n g d_M_complete_44 rfl (s_getI g (c := 4) (j := 30) cok_4 (by decide) rfl mw_584 rfl d_M_complete_45 (s_icmp_ge g d_M_complete_48 (by decide) (s_aload_n g d_M_complete_92 rfl (s_iload_n g d_M_complete_93 rfl (s_aload_n g d_M_complete_94 rfl (s_getR g (c := 4) (j := 26) cok_4 (by decide) rfl mw_580 rfl d_M_complete_95 (s_aload_n g d_M_complete_98 rfl (s_getI g (c := 4) (j := 30) cok_4 (by decide) rfl mw_584 rfl d_M_complete_99 (s_push_iconst g d_M_complete_102 (by decide) (s_isub g d_M_complete_103 (s_iald g d_M_complete_104 (s_icmp_ne g d_M_complete_105 (by decide) (t_M_complete_132 g hq hr) (s_aload_n g d_M_complete_108 rfl (s_getI g (c := 4) (j := 30) cok_4 (by decide) rfl mw_584 rfl d_M_complete_109 (s_push_bipush g d_M_complete_112 (by decide) (s_aload_n g d_M_complete_114 rfl (s_getR g (c := 4) (j := 26) cok_4 (by decide) rfl mw_580 rfl d_M_complete_115 (s_push_iconst g d_M_complete_118 (by decide) (s_iald g d_M_complete_119 (s_push_sipush g d_M_complete_120 (by decide) (s_irem g d_M_complete_123 (s_iadd g d_M_complete_124 (s_icmp_ne g d_M_complete_125 (by decide) (t_M_complete_132 g hq hr) (s_push_iconst g d_M_complete_128 (by decide) (s_goto g d_M_complete_129 (by decide) (t_M_complete_133 g hq hr)))))))))))))))))))))))) (s_aload_n g d_M_complete_51 rfl (s_getR g (c := 4) (j := 34) cok_4 (by decide) rfl mw_588 rfl d_M_complete_52 (s_iload_n g d_M_complete_55 rfl (s_aload_n g d_M_complete_56 rfl (s_getR g (c := 4) (j := 26) cok_4 (by decide) rfl mw_580 rfl d_M_complete_57 (s_iload_n g d_M_complete_60 rfl (s_iald g d_M_complete_61 (s_iast g d_M_complete_62 (s_iload_n g d_M_complete_63 rfl (s_push_iconst g d_M_complete_64 (by decide) (s_iadd g d_M_complete_65 (s_aload_n g d_M_complete_66 rfl (s_getI g (c := 4) (j := 30) cok_4 (by decide) rfl mw_584 rfl d_M_complete_67 (s_icmp_ge g d_M_complete_70 (by decide) (s_iload_n g d_M_complete_84 rfl (t_M_complete_85 g hq hr hk43)) (s_iload_n g d_M_complete_73 rfl (s_aload_n g d_M_complete_74 rfl (s_getR g (c := 4) (j := 26) cok_4 (by decide) rfl mw_580 rfl d_M_complete_75 (s_iload_n g d_M_complete_78 rfl (s_iald g d_M_complete_79 (s_ixor g d_M_complete_80 (s_goto g d_M_complete_81 (by decide) (t_M_complete_85 g hq hr hk43)))))))))))))))))))))))))))
def b_M_complete_0 (post : Option Value → Mm → Prop) : Kk := (i_aload 0 (i_getI 4 25 (i_push (.int 8) (i_icmp (fun x y => x < y) (b_M_complete_178 post) (i_aload 0 (i_getI 4 22 (i_if (fun x y => x = y) (i_aload 0 (i_push (.int 1) (i_putZ 4 28 (i_aload 0 (i_aload 0 (i_getI 4 24 (i_putI 4 29 (i_aload 0 (i_aload 0 (i_getI 4 25 (i_putI 4 30 (i_push (.int 255) (i_istore 1 (i_push (.int 0) (i_istore 2 (b_M_complete_43 post)))))))))))))))) (b_M_complete_178 post))))))))
theorem t_M_complete_0 {Z : Zt} {X0 : Mm} {post : Option Value → Mm → Prop} (g : Good Z prog_6_method_19_code 3 "BusTelegramsModel" 0) (hq : RetZ Z true X0 0 0 post) (hr : (zM Z).sig.returnType = none) : Snd Z 3 0 (b_M_complete_0 post) := by
  unfold b_M_complete_0
  exact (s_aload_n g d_M_complete_0 rfl (s_getI g (c := 4) (j := 25) cok_4 (by decide) rfl mw_579 rfl d_M_complete_1 (s_push_bipush g d_M_complete_4 (by decide) (s_icmp_lt g d_M_complete_6 (by decide) (t_M_complete_178 g hq hr) (s_aload_n g d_M_complete_9 rfl (s_getI g (c := 4) (j := 22) cok_4 (by decide) rfl mw_576 rfl d_M_complete_10 (s_if_ne g d_M_complete_13 (by decide) (t_M_complete_178 g hq hr) (s_aload_n g d_M_complete_16 rfl (s_push_iconst g d_M_complete_17 (by decide) (s_putZ g (c := 4) (j := 28) cok_4 (by decide) rfl rfl rfl mw_582 rfl d_M_complete_18 (s_aload_n g d_M_complete_21 rfl (s_aload_n g d_M_complete_22 rfl (s_getI g (c := 4) (j := 24) cok_4 (by decide) rfl mw_578 rfl d_M_complete_23 (s_putI g (c := 4) (j := 29) cok_4 (by decide) rfl rfl rfl mw_583 rfl d_M_complete_26 (s_aload_n g d_M_complete_29 rfl (s_aload_n g d_M_complete_30 rfl (s_getI g (c := 4) (j := 25) cok_4 (by decide) rfl mw_579 rfl d_M_complete_31 (s_putI g (c := 4) (j := 30) cok_4 (by decide) rfl rfl rfl mw_584 rfl d_M_complete_34 (s_push_sipush g d_M_complete_37 (by decide) (s_istore_n g (by decide) d_M_complete_40 rfl (s_push_iconst g d_M_complete_41 (by decide) (s_istore_n g (by decide) d_M_complete_42 rfl (t_M_complete_43 g hq hr)))))))))))))))))))))))
def w_M_complete : Wp := wpOf 3 (fun _ post => b_M_complete_0 post)
theorem C_M_complete (l : Launch) : MetS l ({ cls := "BusTelegramsModel", name := "complete", desc := "()V" } : Jvm.MethodName) prog_6_method_19_code 3 none true 0 0 0 w_M_complete := metS_of (by decide +kernel) (fun Z X0 post hZ g hq hr _ => t_M_complete_0 g hq hr)
theorem hd_M_complete : (({ cls := "BusTelegramsModel", name := "complete", desc := "()V" } : Jvm.MethodName)).cls = "BusTelegramsModel" ∧ (({ cls := "BusTelegramsModel", name := "complete", desc := "()V" } : Jvm.MethodName)).cls ≠ "java/lang/invoke/MethodHandle" ∧ (({ cls := "BusTelegramsModel", name := "complete", desc := "()V" } : Jvm.MethodName)).cls ≠ "java/lang/invoke/VarHandle" ∧ (parseMethodDescriptor (({ cls := "BusTelegramsModel", name := "complete", desc := "()V" } : Jvm.MethodName)).desc).map (fun d => d.parameters.length) = some 0 := ⟨rfl, by decide, by decide, by decide +kernel⟩
theorem d_M_drop_0 : decode prog_6_method_25_code 0 = .ok (.bipush 36, 2) := by decide +kernel
theorem d_M_drop_2 : decode prog_6_method_25_code 2 = .ok (.iload_n 1, 1) := by decide +kernel
theorem d_M_drop_3 : decode prog_6_method_25_code 3 = .ok (.imul, 1) := by decide +kernel
theorem d_M_drop_4 : decode prog_6_method_25_code 4 = .ok (.istore_n 2, 1) := by decide +kernel
theorem d_M_drop_5 : decode prog_6_method_25_code 5 = .ok (.iload_n 2, 1) := by decide +kernel
theorem d_M_drop_6 : decode prog_6_method_25_code 6 = .ok (.bipush 36, 2) := by decide +kernel
theorem d_M_drop_8 : decode prog_6_method_25_code 8 = .ok (.iload_n 1, 1) := by decide +kernel
theorem d_M_drop_9 : decode prog_6_method_25_code 9 = .ok (.imul, 1) := by decide +kernel
theorem d_M_drop_10 : decode prog_6_method_25_code 10 = .ok (.bipush 30, 2) := by decide +kernel
theorem d_M_drop_12 : decode prog_6_method_25_code 12 = .ok (.iadd, 1) := by decide +kernel
theorem d_M_drop_13 : decode prog_6_method_25_code 13 = .ok (.if_icmp .ge 24, 3) := by decide +kernel
theorem d_M_drop_16 : decode prog_6_method_25_code 16 = .ok (.aload_n 0, 1) := by decide +kernel
theorem d_M_drop_17 : decode prog_6_method_25_code 17 = .ok (.getfield 28, 3) := by decide +kernel
theorem d_M_drop_20 : decode prog_6_method_25_code 20 = .ok (.iload_n 2, 1) := by decide +kernel
theorem d_M_drop_21 : decode prog_6_method_25_code 21 = .ok (.aload_n 0, 1) := by decide +kernel
theorem d_M_drop_22 : decode prog_6_method_25_code 22 = .ok (.getfield 28, 3) := by decide +kernel
theorem d_M_drop_25 : decode prog_6_method_25_code 25 = .ok (.iload_n 2, 1) := by decide +kernel
theorem d_M_drop_26 : decode prog_6_method_25_code 26 = .ok (.bipush 6, 2) := by decide +kernel
theorem d_M_drop_28 : decode prog_6_method_25_code 28 = .ok (.iadd, 1) := by decide +kernel
theorem d_M_drop_29 : decode prog_6_method_25_code 29 = .ok (.iaload, 1) := by decide +kernel
theorem d_M_drop_30 : decode prog_6_method_25_code 30 = .ok (.iastore, 1) := by decide +kernel
theorem d_M_drop_31 : decode prog_6_method_25_code 31 = .ok (.iinc 2 1, 3) := by decide +kernel
theorem d_M_drop_34 : decode prog_6_method_25_code 34 = .ok (.goto (-29), 3) := by decide +kernel
theorem d_M_drop_37 : decode prog_6_method_25_code 37 = .ok (.aload_n 0, 1) := by decide +kernel
theorem d_M_drop_38 : decode prog_6_method_25_code 38 = .ok (.getfield 25, 3) := by decide +kernel
theorem d_M_drop_41 : decode prog_6_method_25_code 41 = .ok (.iload_n 1, 1) := by decide +kernel
theorem d_M_drop_42 : decode prog_6_method_25_code 42 = .ok (.dup2, 1) := by decide +kernel
theorem d_M_drop_43 : decode prog_6_method_25_code 43 = .ok (.iaload, 1) := by decide +kernel
theorem d_M_drop_44 : decode prog_6_method_25_code 44 = .ok (.iconst 1, 1) := by decide +kernel
theorem d_M_drop_45 : decode prog_6_method_25_code 45 = .ok (.isub, 1) := by decide +kernel
theorem d_M_drop_46 : decode prog_6_method_25_code 46 = .ok (.iastore, 1) := by decide +kernel
theorem d_M_drop_47 : decode prog_6_method_25_code 47 = .ok (.return_, 1) := by decide +kernel
def b_M_drop_5 (post : Option Value → Mm → Prop) : Kk := i_loop [0, 1, 2] (fun k5 => (i_iload 2 (i_push (.int 36) (i_iload 1 (i_bin (fun x y => x * y) (i_push (.int 30) (i_bin (fun x y => x + y) (i_icmp (fun x y => y ≤ x) (i_aload 0 (i_getR 4 6 (i_iload 1 (i_dup2 (i_ald 10 (i_push (.int 1) (i_bin (fun x y => x - y) (i_ast (i_vret post))))))))) (i_aload 0 (i_getR 4 7 (i_iload 2 (i_aload 0 (i_getR 4 7 (i_iload 2 (i_push (.int 6) (i_bin (fun x y => x + y) (i_ald 10 (i_ast (i_iinc 2 1 k5)))))))))))))))))))
theorem t_M_drop_5 {Z : Zt} {X0 : Mm} {post : Option Value → Mm → Prop} (g : Good Z prog_6_method_25_code 3 "BusTelegramsModel" 0) (hq : RetZ Z true X0 0 0 post) (hr : (zM Z).sig.returnType = none) : Snd Z 3 5 (b_M_drop_5 post) := by
  unfold b_M_drop_5
  exact s_loop (fun k5 hk5 => (s_iload_n g d_M_drop_5 rfl (s_push_bipush g d_M_drop_6 (by decide) (s_iload_n g d_M_drop_8 rfl (s_imul g d_M_drop_9 (s_push_bipush g d_M_drop_10 (by decide) (s_iadd g d_M_drop_12 (s_icmp_ge g d_M_drop_13 (by decide) (s_aload_n g d_M_drop_37 rfl (s_getR g (c := 4) (j := 6) cok_4 (by decide) rfl mw_560 rfl d_M_drop_38 (s_iload_n g d_M_drop_41 rfl (s_dup2 g d_M_drop_42 (s_iald g d_M_drop_43 (s_push_iconst g d_M_drop_44 (by decide) (s_isub g d_M_drop_45 (s_iast g d_M_drop_46 (s_vret0 g hq hr d_M_drop_47))))))))) (s_aload_n g d_M_drop_16 rfl (s_getR g (c := 4) (j := 7) cok_4 (by decide) rfl mw_561 rfl d_M_drop_17 (s_iload_n g d_M_drop_20 rfl (s_aload_n g d_M_drop_21 rfl (s_getR g (c := 4) (j := 7) cok_4 (by decide) rfl mw_561 rfl d_M_drop_22 (s_iload_n g d_M_drop_25 rfl (s_push_bipush g d_M_drop_26 (by decide) (s_iadd g d_M_drop_28 (s_iald g d_M_drop_29 (s_iast g d_M_drop_30 (s_iinc g (by decide) d_M_drop_31 (by decide) (s_goto g d_M_drop_34 (by decide) hk5))))))))))))))))))))
def b_M_drop_0 (post : Option Value → Mm → Prop) : Kk := (i_push (.int 36) (i_iload 1 (i_bin (fun x y => x * y) (i_istore 2 (b_M_drop_5 post)))))
theorem t_M_drop_0 {Z : Zt} {X0 : Mm} {post : Option Value → Mm → Prop} (g : Good Z prog_6_method_25_code 3 "BusTelegramsModel" 0) (hq : RetZ Z true X0 0 0 post) (hr : (zM Z).sig.returnType = none) : Snd Z 3 0 (b_M_drop_0 post) := by
  unfold b_M_drop_0
  exact (s_push_bipush g d_M_drop_0 (by decide) (s_iload_n g d_M_drop_2 rfl (s_imul g d_M_drop_3 (s_istore_n g (by decide) d_M_drop_4 rfl (t_M_drop_5 g hq hr)))))
def w_M_drop : Wp := wpOf 3 (fun _ post => b_M_drop_0 post)
theorem C_M_drop (l : Launch) : MetS l ({ cls := "BusTelegramsModel", name := "drop", desc := "(I)V" } : Jvm.MethodName) prog_6_method_25_code 3 none true 0 0 0 w_M_drop := metS_of (by decide +kernel) (fun Z X0 post hZ g hq hr _ => t_M_drop_0 g hq hr)
theorem hd_M_drop : (({ cls := "BusTelegramsModel", name := "drop", desc := "(I)V" } : Jvm.MethodName)).cls = "BusTelegramsModel" ∧ (({ cls := "BusTelegramsModel", name := "drop", desc := "(I)V" } : Jvm.MethodName)).cls ≠ "java/lang/invoke/MethodHandle" ∧ (({ cls := "BusTelegramsModel", name := "drop", desc := "(I)V" } : Jvm.MethodName)).cls ≠ "java/lang/invoke/VarHandle" ∧ (parseMethodDescriptor (({ cls := "BusTelegramsModel", name := "drop", desc := "(I)V" } : Jvm.MethodName)).desc).map (fun d => d.parameters.length) = some 1 := ⟨rfl, by decide, by decide, by decide +kernel⟩
theorem d_M_answer_0 : decode prog_6_method_31_code 0 = .ok (.aload_n 0, 1) := by decide +kernel
theorem d_M_answer_1 : decode prog_6_method_31_code 1 = .ok (.iconst 0, 1) := by decide +kernel
theorem d_M_answer_2 : decode prog_6_method_31_code 2 = .ok (.putfield 70, 3) := by decide +kernel
theorem d_M_answer_5 : decode prog_6_method_31_code 5 = .ok (.aload_n 0, 1) := by decide +kernel
theorem d_M_answer_6 : decode prog_6_method_31_code 6 = .ok (.getfield 102, 3) := by decide +kernel
theorem d_M_answer_9 : decode prog_6_method_31_code 9 = .ok (.ifCond .eq 10, 3) := by decide +kernel
theorem d_M_answer_12 : decode prog_6_method_31_code 12 = .ok (.aload_n 0, 1) := by decide +kernel
theorem d_M_answer_13 : decode prog_6_method_31_code 13 = .ok (.getfield 64, 3) := by decide +kernel
theorem d_M_answer_16 : decode prog_6_method_31_code 16 = .ok (.goto 4, 3) := by decide +kernel
theorem d_M_answer_19 : decode prog_6_method_31_code 19 = .ok (.iconst (-1), 1) := by decide +kernel
theorem d_M_answer_20 : decode prog_6_method_31_code 20 = .ok (.ireturn, 1) := by decide +kernel
def b_M_answer_20 (post : Option Value → Mm → Prop) : Kk := (i_iret post)
theorem t_M_answer_20 {Z : Zt} {X0 : Mm} {post : Option Value → Mm → Prop} (g : Good Z prog_6_method_31_code 1 "BusTelegramsModel" 0) (hq : RetZ Z true X0 0 0 post) (hr : (zM Z).sig.returnType = (some .int)) : Snd Z 1 20 (b_M_answer_20 post) := by
  unfold b_M_answer_20
  exact (s_iret0 g hq hr d_M_answer_20)
def b_M_answer_0 (post : Option Value → Mm → Prop) : Kk := (i_aload 0 (i_push (.int 0) (i_putI 4 0 (i_aload 0 (i_getI 4 28 (i_if (fun x y => x = y) (i_push (.int (-1)) (b_M_answer_20 post)) (i_aload 0 (i_getI 4 33 (b_M_answer_20 post)))))))))
theorem t_M_answer_0 {Z : Zt} {X0 : Mm} {post : Option Value → Mm → Prop} (g : Good Z prog_6_method_31_code 1 "BusTelegramsModel" 0) (hq : RetZ Z true X0 0 0 post) (hr : (zM Z).sig.returnType = (some .int)) : Snd Z 1 0 (b_M_answer_0 post) := by
  unfold b_M_answer_0
  exact (s_aload_n g d_M_answer_0 rfl (s_push_iconst g d_M_answer_1 (by decide) (s_putI g (c := 4) (j := 0) cok_4 (by decide) rfl rfl rfl mw_554 rfl d_M_answer_2 (s_aload_n g d_M_answer_5 rfl (s_getI g (c := 4) (j := 28) cok_4 (by decide) rfl mw_582 rfl d_M_answer_6 (s_if_eq g d_M_answer_9 (by decide) (s_push_iconst g d_M_answer_19 (by decide) (t_M_answer_20 g hq hr)) (s_aload_n g d_M_answer_12 rfl (s_getI g (c := 4) (j := 33) cok_4 (by decide) rfl mw_587 rfl d_M_answer_13 (s_goto g d_M_answer_16 (by decide) (t_M_answer_20 g hq hr))))))))))
def w_M_answer : Wp := wpOf 1 (fun _ post => b_M_answer_0 post)
theorem C_M_answer (l : Launch) : MetS l ({ cls := "BusTelegramsModel", name := "answer", desc := "()I" } : Jvm.MethodName) prog_6_method_31_code 1 (some .int) true 0 0 0 w_M_answer := metS_of (by decide +kernel) (fun Z X0 post hZ g hq hr _ => t_M_answer_0 g hq hr)
theorem hd_M_answer : (({ cls := "BusTelegramsModel", name := "answer", desc := "()I" } : Jvm.MethodName)).cls = "BusTelegramsModel" ∧ (({ cls := "BusTelegramsModel", name := "answer", desc := "()I" } : Jvm.MethodName)).cls ≠ "java/lang/invoke/MethodHandle" ∧ (({ cls := "BusTelegramsModel", name := "answer", desc := "()I" } : Jvm.MethodName)).cls ≠ "java/lang/invoke/VarHandle" ∧ (parseMethodDescriptor (({ cls := "BusTelegramsModel", name := "answer", desc := "()I" } : Jvm.MethodName)).desc).map (fun d => d.parameters.length) = some 0 := ⟨rfl, by decide, by decide, by decide +kernel⟩
theorem d_M_whole_0 : decode prog_6_method_32_code 0 = .ok (.dload_n 0, 1) := by decide +kernel
theorem d_M_whole_1 : decode prog_6_method_32_code 1 = .ok (.d2i, 1) := by decide +kernel
theorem d_M_whole_2 : decode prog_6_method_32_code 2 = .ok (.istore_n 2, 1) := by decide +kernel
theorem d_M_whole_3 : decode prog_6_method_32_code 3 = .ok (.iload_n 2, 1) := by decide +kernel
theorem d_M_whole_4 : decode prog_6_method_32_code 4 = .ok (.i2d, 1) := by decide +kernel
theorem d_M_whole_5 : decode prog_6_method_32_code 5 = .ok (.dload_n 0, 1) := by decide +kernel
theorem d_M_whole_6 : decode prog_6_method_32_code 6 = .ok (.dcmp .l, 1) := by decide +kernel
theorem d_M_whole_7 : decode prog_6_method_32_code 7 = .ok (.ifCond .le 9, 3) := by decide +kernel
theorem d_M_whole_10 : decode prog_6_method_32_code 10 = .ok (.iload_n 2, 1) := by decide +kernel
theorem d_M_whole_11 : decode prog_6_method_32_code 11 = .ok (.iconst 1, 1) := by decide +kernel
theorem d_M_whole_12 : decode prog_6_method_32_code 12 = .ok (.isub, 1) := by decide +kernel
theorem d_M_whole_13 : decode prog_6_method_32_code 13 = .ok (.goto 4, 3) := by decide +kernel
theorem d_M_whole_16 : decode prog_6_method_32_code 16 = .ok (.iload_n 2, 1) := by decide +kernel
theorem d_M_whole_17 : decode prog_6_method_32_code 17 = .ok (.ireturn, 1) := by decide +kernel
def b_M_whole_17 (post : Option Value → Mm → Prop) : Kk := (i_iret post)
theorem t_M_whole_17 {Z : Zt} {X0 : Mm} {post : Option Value → Mm → Prop} (g : Good Z prog_6_method_32_code 3 "BusTelegramsModel" 0) (hq : RetZ Z true X0 0 0 post) (hr : (zM Z).sig.returnType = (some .int)) : Snd Z 3 17 (b_M_whole_17 post) := by
  unfold b_M_whole_17
  exact (s_iret0 g hq hr d_M_whole_17)
def b_M_whole_0 (post : Option Value → Mm → Prop) : Kk := (i_dload 0 (i_d2i (i_istore 2 (i_iload 2 (i_i2d (i_dload 0 (i_dcmp .l (i_if (fun x y => x ≤ y) (i_iload 2 (b_M_whole_17 post)) (i_iload 2 (i_push (.int 1) (i_bin (fun x y => x - y) (b_M_whole_17 post))))))))))))
theorem t_M_whole_0 {Z : Zt} {X0 : Mm} {post : Option Value → Mm → Prop} (g : Good Z prog_6_method_32_code 3 "BusTelegramsModel" 0) (hq : RetZ Z true X0 0 0 post) (hr : (zM Z).sig.returnType = (some .int)) : Snd Z 3 0 (b_M_whole_0 post) := by
  unfold b_M_whole_0
  exact (s_dload_n g d_M_whole_0 rfl (s_d2i g d_M_whole_1 (s_istore_n g (by decide) d_M_whole_2 rfl (s_iload_n g d_M_whole_3 rfl (s_i2d g d_M_whole_4 (s_dload_n g d_M_whole_5 rfl (s_dcmp g d_M_whole_6 (s_if_le g d_M_whole_7 (by decide) (s_iload_n g d_M_whole_16 rfl (t_M_whole_17 g hq hr)) (s_iload_n g d_M_whole_10 rfl (s_push_iconst g d_M_whole_11 (by decide) (s_isub g d_M_whole_12 (s_goto g d_M_whole_13 (by decide) (t_M_whole_17 g hq hr)))))))))))))
def w_M_whole : Wp := wpOf 3 (fun _ post => b_M_whole_0 post)
theorem C_M_whole (l : Launch) : MetS l ({ cls := "BusTelegramsModel", name := "whole", desc := "(D)I" } : Jvm.MethodName) prog_6_method_32_code 3 (some .int) true 0 0 0 w_M_whole := metS_of (by decide +kernel) (fun Z X0 post hZ g hq hr _ => t_M_whole_0 g hq hr)
theorem hd_M_whole : (({ cls := "BusTelegramsModel", name := "whole", desc := "(D)I" } : Jvm.MethodName)).cls ≠ "java/lang/invoke/MethodHandle" ∧ (({ cls := "BusTelegramsModel", name := "whole", desc := "(D)I" } : Jvm.MethodName)).cls ≠ "java/lang/invoke/VarHandle" ∧ (parseMethodDescriptor (({ cls := "BusTelegramsModel", name := "whole", desc := "(D)I" } : Jvm.MethodName)).desc).map (fun d => d.parameters.length) = some 1 := ⟨by decide, by decide, by decide +kernel⟩
theorem d_M_address_0 : decode prog_6_method_4_code 0 = .ok (.aload_n 0, 1) := by decide +kernel
theorem d_M_address_1 : decode prog_6_method_4_code 1 = .ok (.iload_n 1, 1) := by decide +kernel
theorem d_M_address_2 : decode prog_6_method_4_code 2 = .ok (.iconst 0, 1) := by decide +kernel
theorem d_M_address_3 : decode prog_6_method_4_code 3 = .ok (.bipush 7, 2) := by decide +kernel
theorem d_M_address_5 : decode prog_6_method_4_code 5 = .ok (.invokestatic 73, 3) := by decide +kernel
theorem d_M_address_8 : decode prog_6_method_4_code 8 = .ok (.ifCond .eq 17, 3) := by decide +kernel
theorem d_M_address_11 : decode prog_6_method_4_code 11 = .ok (.iload_n 2, 1) := by decide +kernel
theorem d_M_address_12 : decode prog_6_method_4_code 12 = .ok (.iconst 0, 1) := by decide +kernel
theorem d_M_address_13 : decode prog_6_method_4_code 13 = .ok (.ldc 77, 2) := by decide +kernel
theorem d_M_address_15 : decode prog_6_method_4_code 15 = .ok (.invokestatic 73, 3) := by decide +kernel
theorem d_M_address_18 : decode prog_6_method_4_code 18 = .ok (.ifCond .eq 7, 3) := by decide +kernel
theorem d_M_address_21 : decode prog_6_method_4_code 21 = .ok (.iconst 0, 1) := by decide +kernel
theorem d_M_address_22 : decode prog_6_method_4_code 22 = .ok (.goto 4, 3) := by decide +kernel
theorem d_M_address_25 : decode prog_6_method_4_code 25 = .ok (.iconst 1, 1) := by decide +kernel
theorem d_M_address_26 : decode prog_6_method_4_code 26 = .ok (.putfield 70, 3) := by decide +kernel
theorem d_M_address_29 : decode prog_6_method_4_code 29 = .ok (.aload_n 0, 1) := by decide +kernel
theorem d_M_address_30 : decode prog_6_method_4_code 30 = .ok (.getfield 70, 3) := by decide +kernel
theorem d_M_address_33 : decode prog_6_method_4_code 33 = .ok (.ifCond .le 5, 3) := by decide +kernel
theorem d_M_address_36 : decode prog_6_method_4_code 36 = .ok (.iconst 0, 1) := by decide +kernel
theorem d_M_address_37 : decode prog_6_method_4_code 37 = .ok (.ireturn, 1) := by decide +kernel
theorem d_M_address_38 : decode prog_6_method_4_code 38 = .ok (.aload_n 0, 1) := by decide +kernel
theorem d_M_address_39 : decode prog_6_method_4_code 39 = .ok (.getfield 14, 3) := by decide +kernel
theorem d_M_address_42 : decode prog_6_method_4_code 42 = .ok (.iload_n 1, 1) := by decide +kernel
theorem d_M_address_43 : decode prog_6_method_4_code 43 = .ok (.iaload, 1) := by decide +kernel
theorem d_M_address_44 : decode prog_6_method_4_code 44 = .ok (.istore_n 3, 1) := by decide +kernel
theorem d_M_address_45 : decode prog_6_method_4_code 45 = .ok (.aload_n 0, 1) := by decide +kernel
theorem d_M_address_46 : decode prog_6_method_4_code 46 = .ok (.getfield 14, 3) := by decide +kernel
theorem d_M_address_49 : decode prog_6_method_4_code 49 = .ok (.iload_n 1, 1) := by decide +kernel
theorem d_M_address_50 : decode prog_6_method_4_code 50 = .ok (.iload_n 2, 1) := by decide +kernel
theorem d_M_address_51 : decode prog_6_method_4_code 51 = .ok (.iastore, 1) := by decide +kernel
theorem d_M_address_52 : decode prog_6_method_4_code 52 = .ok (.iload_n 3, 1) := by decide +kernel
theorem d_M_address_53 : decode prog_6_method_4_code 53 = .ok (.ireturn, 1) := by decide +kernel
def b_M_address_26 (post : Option Value → Mm → Prop) : Kk := (i_putI 4 0 (i_aload 0 (i_getI 4 0 (i_if (fun x y => x ≤ y) (i_aload 0 (i_getR 4 3 (i_iload 1 (i_ald 10 (i_istore 3 (i_aload 0 (i_getR 4 3 (i_iload 1 (i_iload 2 (i_ast (i_iload 3 (i_iret post)))))))))))) (i_push (.int 0) (i_iret post))))))
theorem t_M_address_26 {Z : Zt} {X0 : Mm} {post : Option Value → Mm → Prop} (g : Good Z prog_6_method_4_code 4 "BusTelegramsModel" 1) (hq : RetZ Z true X0 0 0 post) (hr : (zM Z).sig.returnType = (some .int)) : Snd Z 4 26 (b_M_address_26 post) := by
  unfold b_M_address_26
  exact (s_putI g (c := 4) (j := 0) cok_4 (by decide) rfl rfl rfl mw_554 rfl d_M_address_26 (s_aload_n g d_M_address_29 rfl (s_getI g (c := 4) (j := 0) cok_4 (by decide) rfl mw_554 rfl d_M_address_30 (s_if_le g d_M_address_33 (by decide) (s_aload_n g d_M_address_38 rfl (s_getR g (c := 4) (j := 3) cok_4 (by decide) rfl mw_557 rfl d_M_address_39 (s_iload_n g d_M_address_42 rfl (s_iald g d_M_address_43 (s_istore_n g (by decide) d_M_address_44 rfl (s_aload_n g d_M_address_45 rfl (s_getR g (c := 4) (j := 3) cok_4 (by decide) rfl mw_557 rfl d_M_address_46 (s_iload_n g d_M_address_49 rfl (s_iload_n g d_M_address_50 rfl (s_iast g d_M_address_51 (s_iload_n g d_M_address_52 rfl (s_iret0 g hq hr d_M_address_53)))))))))))) (s_push_iconst g d_M_address_36 (by decide) (s_iret0 g hq hr d_M_address_37))))))
def b_M_address_25 (post : Option Value → Mm → Prop) : Kk := (i_push (.int 1) (b_M_address_26 post))
theorem t_M_address_25 {Z : Zt} {X0 : Mm} {post : Option Value → Mm → Prop} (g : Good Z prog_6_method_4_code 4 "BusTelegramsModel" 1) (hq : RetZ Z true X0 0 0 post) (hr : (zM Z).sig.returnType = (some .int)) : Snd Z 4 25 (b_M_address_25 post) := by
  unfold b_M_address_25
  exact (s_push_iconst g d_M_address_25 (by decide) (t_M_address_26 g hq hr))
def b_M_address_0 (post : Option Value → Mm → Prop) : Kk := (i_aload 0 (i_iload 1 (i_push (.int 0) (i_push (.int 7) (i_callS 3 w_M_isIn (i_if (fun x y => x = y) (b_M_address_25 post) (i_iload 2 (i_push (.int 0) (i_push (.int 65535) (i_callS 3 w_M_isIn (i_if (fun x y => x = y) (b_M_address_25 post) (i_push (.int 0) (b_M_address_26 post)))))))))))))
theorem t_M_address_0 {Z : Zt} {X0 : Mm} {post : Option Value → Mm → Prop} (g : Good Z prog_6_method_4_code 4 "BusTelegramsModel" 1) (hq : RetZ Z true X0 0 0 post) (hr : (zM Z).sig.returnType = (some .int)) : Snd Z 4 0 (b_M_address_0 post) := by
  unfold b_M_address_0
  exact (s_aload_n g d_M_address_0 rfl (s_iload_n g d_M_address_1 rfl (s_push_iconst g d_M_address_2 (by decide) (s_push_bipush g d_M_address_3 (by decide) (s_callS g (C_M_isIn (zl Z)) (gin_S mw_668 mw_669 mw_5 mw_670) hd_M_isIn (by decide) (by decide) d_M_address_5 (s_if_eq g d_M_address_8 (by decide) (t_M_address_25 g hq hr) (s_iload_n g d_M_address_11 rfl (s_push_iconst g d_M_address_12 (by decide) (s_push_ldc g mw_671 d_M_address_13 (s_callS g (C_M_isIn (zl Z)) (gin_S mw_668 mw_669 mw_5 mw_670) hd_M_isIn (by decide) (by decide) d_M_address_15 (s_if_eq g d_M_address_18 (by decide) (t_M_address_25 g hq hr) (s_push_iconst g d_M_address_21 (by decide) (s_goto g d_M_address_22 (by decide) (t_M_address_26 g hq hr))))))))))))))
def w_M_address : Wp := wpOf 4 (fun _ post => b_M_address_0 post)
theorem C_M_address (l : Launch) : MetS l ({ cls := "BusTelegramsModel", name := "address", desc := "(II)I" } : Jvm.MethodName) prog_6_method_4_code 4 (some .int) true 1 0 0 w_M_address := metS_of (by decide +kernel) (fun Z X0 post hZ g hq hr _ => t_M_address_0 g hq hr)
theorem hd_M_address : (({ cls := "BusTelegramsModel", name := "address", desc := "(II)I" } : Jvm.MethodName)).cls = "BusTelegramsModel" ∧ (({ cls := "BusTelegramsModel", name := "address", desc := "(II)I" } : Jvm.MethodName)).cls ≠ "java/lang/invoke/MethodHandle" ∧ (({ cls := "BusTelegramsModel", name := "address", desc := "(II)I" } : Jvm.MethodName)).cls ≠ "java/lang/invoke/VarHandle" ∧ (parseMethodDescriptor (({ cls := "BusTelegramsModel", name := "address", desc := "(II)I" } : Jvm.MethodName)).desc).map (fun d => d.parameters.length) = some 2 := ⟨rfl, by decide, by decide, by decide +kernel⟩
theorem d_M_listen_0 : decode prog_6_method_5_code 0 = .ok (.aload_n 0, 1) := by decide +kernel
theorem d_M_listen_1 : decode prog_6_method_5_code 1 = .ok (.iload_n 1, 1) := by decide +kernel
theorem d_M_listen_2 : decode prog_6_method_5_code 2 = .ok (.iconst 0, 1) := by decide +kernel
theorem d_M_listen_3 : decode prog_6_method_5_code 3 = .ok (.bipush 7, 2) := by decide +kernel
theorem d_M_listen_5 : decode prog_6_method_5_code 5 = .ok (.invokestatic 73, 3) := by decide +kernel
theorem d_M_listen_8 : decode prog_6_method_5_code 8 = .ok (.ifCond .eq 18, 3) := by decide +kernel
theorem d_M_listen_11 : decode prog_6_method_5_code 11 = .ok (.iload_n 2, 1) := by decide +kernel
theorem d_M_listen_12 : decode prog_6_method_5_code 12 = .ok (.iconst 0, 1) := by decide +kernel
theorem d_M_listen_13 : decode prog_6_method_5_code 13 = .ok (.sipush 255, 3) := by decide +kernel
theorem d_M_listen_16 : decode prog_6_method_5_code 16 = .ok (.invokestatic 73, 3) := by decide +kernel
theorem d_M_listen_19 : decode prog_6_method_5_code 19 = .ok (.ifCond .eq 7, 3) := by decide +kernel
theorem d_M_listen_22 : decode prog_6_method_5_code 22 = .ok (.iconst 0, 1) := by decide +kernel
theorem d_M_listen_23 : decode prog_6_method_5_code 23 = .ok (.goto 4, 3) := by decide +kernel
theorem d_M_listen_26 : decode prog_6_method_5_code 26 = .ok (.iconst 1, 1) := by decide +kernel
theorem d_M_listen_27 : decode prog_6_method_5_code 27 = .ok (.putfield 70, 3) := by decide +kernel
theorem d_M_listen_30 : decode prog_6_method_5_code 30 = .ok (.aload_n 0, 1) := by decide +kernel
theorem d_M_listen_31 : decode prog_6_method_5_code 31 = .ok (.getfield 70, 3) := by decide +kernel
theorem d_M_listen_34 : decode prog_6_method_5_code 34 = .ok (.ifCond .le 5, 3) := by decide +kernel
theorem d_M_listen_37 : decode prog_6_method_5_code 37 = .ok (.iconst 0, 1) := by decide +kernel
theorem d_M_listen_38 : decode prog_6_method_5_code 38 = .ok (.ireturn, 1) := by decide +kernel
theorem d_M_listen_39 : decode prog_6_method_5_code 39 = .ok (.aload_n 0, 1) := by decide +kernel
theorem d_M_listen_40 : decode prog_6_method_5_code 40 = .ok (.getfield 18, 3) := by decide +kernel
theorem d_M_listen_43 : decode prog_6_method_5_code 43 = .ok (.sipush 256, 3) := by decide +kernel
theorem d_M_listen_46 : decode prog_6_method_5_code 46 = .ok (.iload_n 1, 1) := by decide +kernel
theorem d_M_listen_47 : decode prog_6_method_5_code 47 = .ok (.imul, 1) := by decide +kernel
theorem d_M_listen_48 : decode prog_6_method_5_code 48 = .ok (.iload_n 2, 1) := by decide +kernel
theorem d_M_listen_49 : decode prog_6_method_5_code 49 = .ok (.iadd, 1) := by decide +kernel
theorem d_M_listen_50 : decode prog_6_method_5_code 50 = .ok (.baload, 1) := by decide +kernel
theorem d_M_listen_51 : decode prog_6_method_5_code 51 = .ok (.istore 4, 2) := by decide +kernel
theorem d_M_listen_53 : decode prog_6_method_5_code 53 = .ok (.aload_n 0, 1) := by decide +kernel
theorem d_M_listen_54 : decode prog_6_method_5_code 54 = .ok (.getfield 18, 3) := by decide +kernel
theorem d_M_listen_57 : decode prog_6_method_5_code 57 = .ok (.sipush 256, 3) := by decide +kernel
theorem d_M_listen_60 : decode prog_6_method_5_code 60 = .ok (.iload_n 1, 1) := by decide +kernel
theorem d_M_listen_61 : decode prog_6_method_5_code 61 = .ok (.imul, 1) := by decide +kernel
theorem d_M_listen_62 : decode prog_6_method_5_code 62 = .ok (.iload_n 2, 1) := by decide +kernel
theorem d_M_listen_63 : decode prog_6_method_5_code 63 = .ok (.iadd, 1) := by decide +kernel
theorem d_M_listen_64 : decode prog_6_method_5_code 64 = .ok (.iload_n 3, 1) := by decide +kernel
theorem d_M_listen_65 : decode prog_6_method_5_code 65 = .ok (.bastore, 1) := by decide +kernel
theorem d_M_listen_66 : decode prog_6_method_5_code 66 = .ok (.iload 4, 2) := by decide +kernel
theorem d_M_listen_68 : decode prog_6_method_5_code 68 = .ok (.ireturn, 1) := by decide +kernel
def b_M_listen_27 (post : Option Value → Mm → Prop) : Kk := (i_putI 4 0 (i_aload 0 (i_getI 4 0 (i_if (fun x y => x ≤ y) (i_aload 0 (i_getR 4 4 (i_push (.int 256) (i_iload 1 (i_bin (fun x y => x * y) (i_iload 2 (i_bin (fun x y => x + y) (i_ald 11 (i_istore 4 (i_aload 0 (i_getR 4 4 (i_push (.int 256) (i_iload 1 (i_bin (fun x y => x * y) (i_iload 2 (i_bin (fun x y => x + y) (i_iload 3 (i_zst (i_iload 4 (i_zret post)))))))))))))))))))) (i_push (.int 0) (i_zret post))))))
theorem t_M_listen_27 {Z : Zt} {X0 : Mm} {post : Option Value → Mm → Prop} (g : Good Z prog_6_method_5_code 5 "BusTelegramsModel" 1) (hq : RetZ Z true X0 0 0 post) (hr : (zM Z).sig.returnType = (some .boolean)) : Snd Z 5 27 (b_M_listen_27 post) := by
  unfold b_M_listen_27
  exact (s_putI g (c := 4) (j := 0) cok_4 (by decide) rfl rfl rfl mw_554 rfl d_M_listen_27 (s_aload_n g d_M_listen_30 rfl (s_getI g (c := 4) (j := 0) cok_4 (by decide) rfl mw_554 rfl d_M_listen_31 (s_if_le g d_M_listen_34 (by decide) (s_aload_n g d_M_listen_39 rfl (s_getR g (c := 4) (j := 4) cok_4 (by decide) rfl mw_558 rfl d_M_listen_40 (s_push_sipush g d_M_listen_43 (by decide) (s_iload_n g d_M_listen_46 rfl (s_imul g d_M_listen_47 (s_iload_n g d_M_listen_48 rfl (s_iadd g d_M_listen_49 (s_zald g d_M_listen_50 (s_istore g (by decide) d_M_listen_51 (s_aload_n g d_M_listen_53 rfl (s_getR g (c := 4) (j := 4) cok_4 (by decide) rfl mw_558 rfl d_M_listen_54 (s_push_sipush g d_M_listen_57 (by decide) (s_iload_n g d_M_listen_60 rfl (s_imul g d_M_listen_61 (s_iload_n g d_M_listen_62 rfl (s_iadd g d_M_listen_63 (s_iload_n g d_M_listen_64 rfl (s_zast g d_M_listen_65 (s_iload g d_M_listen_66 (s_zret0 g hq hr d_M_listen_68)))))))))))))))))))) (s_push_iconst g d_M_listen_37 (by decide) (s_zret0 g hq hr d_M_listen_38))))))
def b_M_listen_26 (post : Option Value → Mm → Prop) : Kk := (i_push (.int 1) (b_M_listen_27 post))
theorem t_M_listen_26 {Z : Zt} {X0 : Mm} {post : Option Value → Mm → Prop} (g : Good Z prog_6_method_5_code 5 "BusTelegramsModel" 1) (hq : RetZ Z true X0 0 0 post) (hr : (zM Z).sig.returnType = (some .boolean)) : Snd Z 5 26 (b_M_listen_26 post) := by
  unfold b_M_listen_26
  exact (s_push_iconst g d_M_listen_26 (by decide) (t_M_listen_27 g hq hr))
def b_M_listen_0 (post : Option Value → Mm → Prop) : Kk := (i_aload 0 (i_iload 1 (i_push (.int 0) (i_push (.int 7) (i_callS 3 w_M_isIn (i_if (fun x y => x = y) (b_M_listen_26 post) (i_iload 2 (i_push (.int 0) (i_push (.int 255) (i_callS 3 w_M_isIn (i_if (fun x y => x = y) (b_M_listen_26 post) (i_push (.int 0) (b_M_listen_27 post)))))))))))))
theorem t_M_listen_0 {Z : Zt} {X0 : Mm} {post : Option Value → Mm → Prop} (g : Good Z prog_6_method_5_code 5 "BusTelegramsModel" 1) (hq : RetZ Z true X0 0 0 post) (hr : (zM Z).sig.returnType = (some .boolean)) : Snd Z 5 0 (b_M_listen_0 post) := by
  unfold b_M_listen_0
  exact (s_aload_n g d_M_listen_0 rfl (s_iload_n g d_M_listen_1 rfl (s_push_iconst g d_M_listen_2 (by decide) (s_push_bipush g d_M_listen_3 (by decide) (s_callS g (C_M_isIn (zl Z)) (gin_S mw_668 mw_669 mw_5 mw_670) hd_M_isIn (by decide) (by decide) d_M_listen_5 (s_if_eq g d_M_listen_8 (by decide) (t_M_listen_26 g hq hr) (s_iload_n g d_M_listen_11 rfl (s_push_iconst g d_M_listen_12 (by decide) (s_push_sipush g d_M_listen_13 (by decide) (s_callS g (C_M_isIn (zl Z)) (gin_S mw_668 mw_669 mw_5 mw_670) hd_M_isIn (by decide) (by decide) d_M_listen_16 (s_if_eq g d_M_listen_19 (by decide) (t_M_listen_26 g hq hr) (s_push_iconst g d_M_listen_22 (by decide) (s_goto g d_M_listen_23 (by decide) (t_M_listen_27 g hq hr))))))))))))))
def w_M_listen : Wp := wpOf 5 (fun _ post => b_M_listen_0 post)
theorem C_M_listen (l : Launch) : MetS l ({ cls := "BusTelegramsModel", name := "listen", desc := "(IIZ)Z" } : Jvm.MethodName) prog_6_method_5_code 5 (some .boolean) true 1 0 0 w_M_listen := metS_of (by decide +kernel) (fun Z X0 post hZ g hq hr _ => t_M_listen_0 g hq hr)
theorem hd_M_listen : (({ cls := "BusTelegramsModel", name := "listen", desc := "(IIZ)Z" } : Jvm.MethodName)).cls = "BusTelegramsModel" ∧ (({ cls := "BusTelegramsModel", name := "listen", desc := "(IIZ)Z" } : Jvm.MethodName)).cls ≠ "java/lang/invoke/MethodHandle" ∧ (({ cls := "BusTelegramsModel", name := "listen", desc := "(IIZ)Z" } : Jvm.MethodName)).cls ≠ "java/lang/invoke/VarHandle" ∧ (parseMethodDescriptor (({ cls := "BusTelegramsModel", name := "listen", desc := "(IIZ)Z" } : Jvm.MethodName)).desc).map (fun d => d.parameters.length) = some 3 := ⟨rfl, by decide, by decide, by decide +kernel⟩
theorem d_M_busy_0 : decode prog_6_method_6_code 0 = .ok (.aload_n 0, 1) := by decide +kernel
theorem d_M_busy_1 : decode prog_6_method_6_code 1 = .ok (.iload_n 1, 1) := by decide +kernel
theorem d_M_busy_2 : decode prog_6_method_6_code 2 = .ok (.iconst 0, 1) := by decide +kernel
theorem d_M_busy_3 : decode prog_6_method_6_code 3 = .ok (.bipush 7, 2) := by decide +kernel
theorem d_M_busy_5 : decode prog_6_method_6_code 5 = .ok (.invokestatic 73, 3) := by decide +kernel
theorem d_M_busy_8 : decode prog_6_method_6_code 8 = .ok (.ifCond .eq 7, 3) := by decide +kernel
theorem d_M_busy_11 : decode prog_6_method_6_code 11 = .ok (.iconst 0, 1) := by decide +kernel
theorem d_M_busy_12 : decode prog_6_method_6_code 12 = .ok (.goto 4, 3) := by decide +kernel
theorem d_M_busy_15 : decode prog_6_method_6_code 15 = .ok (.iconst 1, 1) := by decide +kernel
theorem d_M_busy_16 : decode prog_6_method_6_code 16 = .ok (.putfield 70, 3) := by decide +kernel
theorem d_M_busy_19 : decode prog_6_method_6_code 19 = .ok (.aload_n 0, 1) := by decide +kernel
theorem d_M_busy_20 : decode prog_6_method_6_code 20 = .ok (.getfield 70, 3) := by decide +kernel
theorem d_M_busy_23 : decode prog_6_method_6_code 23 = .ok (.ifCond .le 5, 3) := by decide +kernel
theorem d_M_busy_26 : decode prog_6_method_6_code 26 = .ok (.iconst 0, 1) := by decide +kernel
theorem d_M_busy_27 : decode prog_6_method_6_code 27 = .ok (.ireturn, 1) := by decide +kernel
theorem d_M_busy_28 : decode prog_6_method_6_code 28 = .ok (.aload_n 0, 1) := by decide +kernel
theorem d_M_busy_29 : decode prog_6_method_6_code 29 = .ok (.getfield 22, 3) := by decide +kernel
theorem d_M_busy_32 : decode prog_6_method_6_code 32 = .ok (.iload_n 1, 1) := by decide +kernel
theorem d_M_busy_33 : decode prog_6_method_6_code 33 = .ok (.baload, 1) := by decide +kernel
theorem d_M_busy_34 : decode prog_6_method_6_code 34 = .ok (.istore_n 3, 1) := by decide +kernel
theorem d_M_busy_35 : decode prog_6_method_6_code 35 = .ok (.aload_n 0, 1) := by decide +kernel
theorem d_M_busy_36 : decode prog_6_method_6_code 36 = .ok (.getfield 22, 3) := by decide +kernel
theorem d_M_busy_39 : decode prog_6_method_6_code 39 = .ok (.iload_n 1, 1) := by decide +kernel
theorem d_M_busy_40 : decode prog_6_method_6_code 40 = .ok (.iload_n 2, 1) := by decide +kernel
theorem d_M_busy_41 : decode prog_6_method_6_code 41 = .ok (.bastore, 1) := by decide +kernel
theorem d_M_busy_42 : decode prog_6_method_6_code 42 = .ok (.iload_n 3, 1) := by decide +kernel
theorem d_M_busy_43 : decode prog_6_method_6_code 43 = .ok (.ireturn, 1) := by decide +kernel
def b_M_busy_16 (post : Option Value → Mm → Prop) : Kk := (i_putI 4 0 (i_aload 0 (i_getI 4 0 (i_if (fun x y => x ≤ y) (i_aload 0 (i_getR 4 5 (i_iload 1 (i_ald 11 (i_istore 3 (i_aload 0 (i_getR 4 5 (i_iload 1 (i_iload 2 (i_zst (i_iload 3 (i_zret post)))))))))))) (i_push (.int 0) (i_zret post))))))
theorem t_M_busy_16 {Z : Zt} {X0 : Mm} {post : Option Value → Mm → Prop} (g : Good Z prog_6_method_6_code 4 "BusTelegramsModel" 1) (hq : RetZ Z true X0 0 0 post) (hr : (zM Z).sig.returnType = (some .boolean)) : Snd Z 4 16 (b_M_busy_16 post) := by
  unfold b_M_busy_16
  exact (s_putI g (c := 4) (j := 0) cok_4 (by decide) rfl rfl rfl mw_554 rfl d_M_busy_16 (s_aload_n g d_M_busy_19 rfl (s_getI g (c := 4) (j := 0) cok_4 (by decide) rfl mw_554 rfl d_M_busy_20 (s_if_le g d_M_busy_23 (by decide) (s_aload_n g d_M_busy_28 rfl (s_getR g (c := 4) (j := 5) cok_4 (by decide) rfl mw_559 rfl d_M_busy_29 (s_iload_n g d_M_busy_32 rfl (s_zald g d_M_busy_33 (s_istore_n g (by decide) d_M_busy_34 rfl (s_aload_n g d_M_busy_35 rfl (s_getR g (c := 4) (j := 5) cok_4 (by decide) rfl mw_559 rfl d_M_busy_36 (s_iload_n g d_M_busy_39 rfl (s_iload_n g d_M_busy_40 rfl (s_zast g d_M_busy_41 (s_iload_n g d_M_busy_42 rfl (s_zret0 g hq hr d_M_busy_43)))))))))))) (s_push_iconst g d_M_busy_26 (by decide) (s_zret0 g hq hr d_M_busy_27))))))
def b_M_busy_0 (post : Option Value → Mm → Prop) : Kk := (i_aload 0 (i_iload 1 (i_push (.int 0) (i_push (.int 7) (i_callS 3 w_M_isIn (i_if (fun x y => x = y) (i_push (.int 1) (b_M_busy_16 post)) (i_push (.int 0) (b_M_busy_16 post))))))))
theorem t_M_busy_0 {Z : Zt} {X0 : Mm} {post : Option Value → Mm → Prop} (g : Good Z prog_6_method_6_code 4 "BusTelegramsModel" 1) (hq : RetZ Z true X0 0 0 post) (hr : (zM Z).sig.returnType = (some .boolean)) : Snd Z 4 0 (b_M_busy_0 post) := by
  unfold b_M_busy_0
  exact (s_aload_n g d_M_busy_0 rfl (s_iload_n g d_M_busy_1 rfl (s_push_iconst g d_M_busy_2 (by decide) (s_push_bipush g d_M_busy_3 (by decide) (s_callS g (C_M_isIn (zl Z)) (gin_S mw_668 mw_669 mw_5 mw_670) hd_M_isIn (by decide) (by decide) d_M_busy_5 (s_if_eq g d_M_busy_8 (by decide) (s_push_iconst g d_M_busy_15 (by decide) (t_M_busy_16 g hq hr)) (s_push_iconst g d_M_busy_11 (by decide) (s_goto g d_M_busy_12 (by decide) (t_M_busy_16 g hq hr)))))))))
def w_M_busy : Wp := wpOf 4 (fun _ post => b_M_busy_0 post)
theorem C_M_busy (l : Launch) : MetS l ({ cls := "BusTelegramsModel", name := "busy", desc := "(IZ)Z" } : Jvm.MethodName) prog_6_method_6_code 4 (some .boolean) true 1 0 0 w_M_busy := metS_of (by decide +kernel) (fun Z X0 post hZ g hq hr _ => t_M_busy_0 g hq hr)
theorem hd_M_busy : (({ cls := "BusTelegramsModel", name := "busy", desc := "(IZ)Z" } : Jvm.MethodName)).cls = "BusTelegramsModel" ∧ (({ cls := "BusTelegramsModel", name := "busy", desc := "(IZ)Z" } : Jvm.MethodName)).cls ≠ "java/lang/invoke/MethodHandle" ∧ (({ cls := "BusTelegramsModel", name := "busy", desc := "(IZ)Z" } : Jvm.MethodName)).cls ≠ "java/lang/invoke/VarHandle" ∧ (parseMethodDescriptor (({ cls := "BusTelegramsModel", name := "busy", desc := "(IZ)Z" } : Jvm.MethodName)).desc).map (fun d => d.parameters.length) = some 2 := ⟨rfl, by decide, by decide, by decide +kernel⟩
theorem d_M_maySend_0 : decode prog_6_method_7_code 0 = .ok (.iload_n 0, 1) := by decide +kernel
theorem d_M_maySend_1 : decode prog_6_method_7_code 1 = .ok (.iconst 0, 1) := by decide +kernel
theorem d_M_maySend_2 : decode prog_6_method_7_code 2 = .ok (.bipush 7, 2) := by decide +kernel
theorem d_M_maySend_4 : decode prog_6_method_7_code 4 = .ok (.invokestatic 73, 3) := by decide +kernel
theorem d_M_maySend_7 : decode prog_6_method_7_code 7 = .ok (.ifCond .eq 47, 3) := by decide +kernel
theorem d_M_maySend_10 : decode prog_6_method_7_code 10 = .ok (.iload_n 1, 1) := by decide +kernel
theorem d_M_maySend_11 : decode prog_6_method_7_code 11 = .ok (.iconst 0, 1) := by decide +kernel
theorem d_M_maySend_12 : decode prog_6_method_7_code 12 = .ok (.iconst 3, 1) := by decide +kernel
theorem d_M_maySend_13 : decode prog_6_method_7_code 13 = .ok (.invokestatic 73, 3) := by decide +kernel
theorem d_M_maySend_16 : decode prog_6_method_7_code 16 = .ok (.ifCond .eq 38, 3) := by decide +kernel
theorem d_M_maySend_19 : decode prog_6_method_7_code 19 = .ok (.iload_n 2, 1) := by decide +kernel
theorem d_M_maySend_20 : decode prog_6_method_7_code 20 = .ok (.iconst 0, 1) := by decide +kernel
theorem d_M_maySend_21 : decode prog_6_method_7_code 21 = .ok (.iload_n 3, 1) := by decide +kernel
theorem d_M_maySend_22 : decode prog_6_method_7_code 22 = .ok (.ifCond .eq 9, 3) := by decide +kernel
theorem d_M_maySend_25 : decode prog_6_method_7_code 25 = .ok (.sipush 255, 3) := by decide +kernel
theorem d_M_maySend_28 : decode prog_6_method_7_code 28 = .ok (.goto 5, 3) := by decide +kernel
theorem d_M_maySend_31 : decode prog_6_method_7_code 31 = .ok (.ldc 77, 2) := by decide +kernel
theorem d_M_maySend_33 : decode prog_6_method_7_code 33 = .ok (.invokestatic 73, 3) := by decide +kernel
theorem d_M_maySend_36 : decode prog_6_method_7_code 36 = .ok (.ifCond .eq 18, 3) := by decide +kernel
theorem d_M_maySend_39 : decode prog_6_method_7_code 39 = .ok (.iload 4, 2) := by decide +kernel
theorem d_M_maySend_41 : decode prog_6_method_7_code 41 = .ok (.iconst 1, 1) := by decide +kernel
theorem d_M_maySend_42 : decode prog_6_method_7_code 42 = .ok (.bipush 14, 2) := by decide +kernel
theorem d_M_maySend_44 : decode prog_6_method_7_code 44 = .ok (.invokestatic 73, 3) := by decide +kernel
theorem d_M_maySend_47 : decode prog_6_method_7_code 47 = .ok (.ifCond .eq 7, 3) := by decide +kernel
theorem d_M_maySend_50 : decode prog_6_method_7_code 50 = .ok (.iconst 1, 1) := by decide +kernel
theorem d_M_maySend_51 : decode prog_6_method_7_code 51 = .ok (.goto 4, 3) := by decide +kernel
theorem d_M_maySend_54 : decode prog_6_method_7_code 54 = .ok (.iconst 0, 1) := by decide +kernel
theorem d_M_maySend_55 : decode prog_6_method_7_code 55 = .ok (.ireturn, 1) := by decide +kernel
def b_M_maySend_55 (post : Option Value → Mm → Prop) : Kk := (i_zret post)
theorem t_M_maySend_55 {Z : Zt} {X0 : Mm} {post : Option Value → Mm → Prop} (g : Good Z prog_6_method_7_code 5 "BusTelegramsModel" 1) (hq : RetZ Z true X0 0 0 post) (hr : (zM Z).sig.returnType = (some .boolean)) : Snd Z 5 55 (b_M_maySend_55 post) := by
  unfold b_M_maySend_55
  exact (s_zret0 g hq hr d_M_maySend_55)
def b_M_maySend_54 (post : Option Value → Mm → Prop) : Kk := (i_push (.int 0) (b_M_maySend_55 post))
theorem t_M_maySend_54 {Z : Zt} {X0 : Mm} {post : Option Value → Mm → Prop} (g : Good Z prog_6_method_7_code 5 "BusTelegramsModel" 1) (hq : RetZ Z true X0 0 0 post) (hr : (zM Z).sig.returnType = (some .boolean)) : Snd Z 5 54 (b_M_maySend_54 post) := by
  unfold b_M_maySend_54
  exact (s_push_iconst g d_M_maySend_54 (by decide) (t_M_maySend_55 g hq hr))
def b_M_maySend_33 (post : Option Value → Mm → Prop) : Kk := (i_callS 3 w_M_isIn (i_if (fun x y => x = y) (b_M_maySend_54 post) (i_iload 4 (i_push (.int 1) (i_push (.int 14) (i_callS 3 w_M_isIn (i_if (fun x y => x = y) (b_M_maySend_54 post) (i_push (.int 1) (b_M_maySend_55 post)))))))))
theorem t_M_maySend_33 {Z : Zt} {X0 : Mm} {post : Option Value → Mm → Prop} (g : Good Z prog_6_method_7_code 5 "BusTelegramsModel" 1) (hq : RetZ Z true X0 0 0 post) (hr : (zM Z).sig.returnType = (some .boolean)) : Snd Z 5 33 (b_M_maySend_33 post) := by
  unfold b_M_maySend_33
  exact (s_callS g (C_M_isIn (zl Z)) (gin_S mw_668 mw_669 mw_5 mw_670) hd_M_isIn (by decide) (by decide) d_M_maySend_33 (s_if_eq g d_M_maySend_36 (by decide) (t_M_maySend_54 g hq hr) (s_iload g d_M_maySend_39 (s_push_iconst g d_M_maySend_41 (by decide) (s_push_bipush g d_M_maySend_42 (by decide) (s_callS g (C_M_isIn (zl Z)) (gin_S mw_668 mw_669 mw_5 mw_670) hd_M_isIn (by decide) (by decide) d_M_maySend_44 (s_if_eq g d_M_maySend_47 (by decide) (t_M_maySend_54 g hq hr) (s_push_iconst g d_M_maySend_50 (by decide) (s_goto g d_M_maySend_51 (by decide) (t_M_maySend_55 g hq hr))))))))))
def b_M_maySend_0 (post : Option Value → Mm → Prop) : Kk := (i_iload 0 (i_push (.int 0) (i_push (.int 7) (i_callS 3 w_M_isIn (i_if (fun x y => x = y) (b_M_maySend_54 post) (i_iload 1 (i_push (.int 0) (i_push (.int 3) (i_callS 3 w_M_isIn (i_if (fun x y => x = y) (b_M_maySend_54 post) (i_iload 2 (i_push (.int 0) (i_iload 3 (i_if (fun x y => x = y) (i_push (.int 65535) (b_M_maySend_33 post)) (i_push (.int 255) (b_M_maySend_33 post))))))))))))))))
theorem t_M_maySend_0 {Z : Zt} {X0 : Mm} {post : Option Value → Mm → Prop} (g : Good Z prog_6_method_7_code 5 "BusTelegramsModel" 1) (hq : RetZ Z true X0 0 0 post) (hr : (zM Z).sig.returnType = (some .boolean)) : Snd Z 5 0 (b_M_maySend_0 post) := by
  unfold b_M_maySend_0
  exact (s_iload_n g d_M_maySend_0 rfl (s_push_iconst g d_M_maySend_1 (by decide) (s_push_bipush g d_M_maySend_2 (by decide) (s_callS g (C_M_isIn (zl Z)) (gin_S mw_668 mw_669 mw_5 mw_670) hd_M_isIn (by decide) (by decide) d_M_maySend_4 (s_if_eq g d_M_maySend_7 (by decide) (t_M_maySend_54 g hq hr) (s_iload_n g d_M_maySend_10 rfl (s_push_iconst g d_M_maySend_11 (by decide) (s_push_iconst g d_M_maySend_12 (by decide) (s_callS g (C_M_isIn (zl Z)) (gin_S mw_668 mw_669 mw_5 mw_670) hd_M_isIn (by decide) (by decide) d_M_maySend_13 (s_if_eq g d_M_maySend_16 (by decide) (t_M_maySend_54 g hq hr) (s_iload_n g d_M_maySend_19 rfl (s_push_iconst g d_M_maySend_20 (by decide) (s_iload_n g d_M_maySend_21 rfl (s_if_eq g d_M_maySend_22 (by decide) (s_push_ldc g mw_671 d_M_maySend_31 (t_M_maySend_33 g hq hr)) (s_push_sipush g d_M_maySend_25 (by decide) (s_goto g d_M_maySend_28 (by decide) (t_M_maySend_33 g hq hr)))))))))))))))))
def w_M_maySend : Wp := wpOf 5 (fun _ post => b_M_maySend_0 post)
theorem C_M_maySend (l : Launch) : MetS l ({ cls := "BusTelegramsModel", name := "maySend", desc := "(IIIZI)Z" } : Jvm.MethodName) prog_6_method_7_code 5 (some .boolean) true 1 0 0 w_M_maySend := metS_of (by decide +kernel) (fun Z X0 post hZ g hq hr _ => t_M_maySend_0 g hq hr)
theorem hd_M_maySend : (({ cls := "BusTelegramsModel", name := "maySend", desc := "(IIIZI)Z" } : Jvm.MethodName)).cls ≠ "java/lang/invoke/MethodHandle" ∧ (({ cls := "BusTelegramsModel", name := "maySend", desc := "(IIIZI)Z" } : Jvm.MethodName)).cls ≠ "java/lang/invoke/VarHandle" ∧ (parseMethodDescriptor (({ cls := "BusTelegramsModel", name := "maySend", desc := "(IIIZI)Z" } : Jvm.MethodName)).desc).map (fun d => d.parameters.length) = some 5 := ⟨by decide, by decide, by decide +kernel⟩
theorem d_M_disturb_0 : decode prog_6_method_9_code 0 = .ok (.aload_n 0, 1) := by decide +kernel
theorem d_M_disturb_1 : decode prog_6_method_9_code 1 = .ok (.iload_n 1, 1) := by decide +kernel
theorem d_M_disturb_2 : decode prog_6_method_9_code 2 = .ok (.iconst 1, 1) := by decide +kernel
theorem d_M_disturb_3 : decode prog_6_method_9_code 3 = .ok (.sipush 2000, 3) := by decide +kernel
theorem d_M_disturb_6 : decode prog_6_method_9_code 6 = .ok (.invokestatic 73, 3) := by decide +kernel
theorem d_M_disturb_9 : decode prog_6_method_9_code 9 = .ok (.ifCond .ne 7, 3) := by decide +kernel
theorem d_M_disturb_12 : decode prog_6_method_9_code 12 = .ok (.iconst 1, 1) := by decide +kernel
theorem d_M_disturb_13 : decode prog_6_method_9_code 13 = .ok (.goto 17, 3) := by decide +kernel
theorem d_M_disturb_16 : decode prog_6_method_9_code 16 = .ok (.aload_n 0, 1) := by decide +kernel
theorem d_M_disturb_17 : decode prog_6_method_9_code 17 = .ok (.getfield 82, 3) := by decide +kernel
theorem d_M_disturb_20 : decode prog_6_method_9_code 20 = .ok (.bipush 50, 2) := by decide +kernel
theorem d_M_disturb_22 : decode prog_6_method_9_code 22 = .ok (.if_icmp .ne 7, 3) := by decide +kernel
theorem d_M_disturb_25 : decode prog_6_method_9_code 25 = .ok (.iconst 2, 1) := by decide +kernel
theorem d_M_disturb_26 : decode prog_6_method_9_code 26 = .ok (.goto 4, 3) := by decide +kernel
theorem d_M_disturb_29 : decode prog_6_method_9_code 29 = .ok (.iconst 0, 1) := by decide +kernel
theorem d_M_disturb_30 : decode prog_6_method_9_code 30 = .ok (.putfield 70, 3) := by decide +kernel
theorem d_M_disturb_33 : decode prog_6_method_9_code 33 = .ok (.aload_n 0, 1) := by decide +kernel
theorem d_M_disturb_34 : decode prog_6_method_9_code 34 = .ok (.getfield 85, 3) := by decide +kernel
theorem d_M_disturb_37 : decode prog_6_method_9_code 37 = .ok (.iload_n 1, 1) := by decide +kernel
theorem d_M_disturb_38 : decode prog_6_method_9_code 38 = .ok (.iadd, 1) := by decide +kernel
theorem d_M_disturb_39 : decode prog_6_method_9_code 39 = .ok (.sipush 2048, 3) := by decide +kernel
theorem d_M_disturb_42 : decode prog_6_method_9_code 42 = .ok (.irem, 1) := by decide +kernel
theorem d_M_disturb_43 : decode prog_6_method_9_code 43 = .ok (.istore_n 2, 1) := by decide +kernel
theorem d_M_disturb_44 : decode prog_6_method_9_code 44 = .ok (.aload_n 0, 1) := by decide +kernel
theorem d_M_disturb_45 : decode prog_6_method_9_code 45 = .ok (.getfield 70, 3) := by decide +kernel
theorem d_M_disturb_48 : decode prog_6_method_9_code 48 = .ok (.ifCond .gt 12, 3) := by decide +kernel
theorem d_M_disturb_51 : decode prog_6_method_9_code 51 = .ok (.aload_n 0, 1) := by decide +kernel
theorem d_M_disturb_52 : decode prog_6_method_9_code 52 = .ok (.getfield 52, 3) := by decide +kernel
theorem d_M_disturb_55 : decode prog_6_method_9_code 55 = .ok (.iload_n 2, 1) := by decide +kernel
theorem d_M_disturb_56 : decode prog_6_method_9_code 56 = .ok (.baload, 1) := by decide +kernel
theorem d_M_disturb_57 : decode prog_6_method_9_code 57 = .ok (.ifCond .eq 5, 3) := by decide +kernel
theorem d_M_disturb_60 : decode prog_6_method_9_code 60 = .ok (.iconst 0, 1) := by decide +kernel
theorem d_M_disturb_61 : decode prog_6_method_9_code 61 = .ok (.ireturn, 1) := by decide +kernel
theorem d_M_disturb_62 : decode prog_6_method_9_code 62 = .ok (.aload_n 0, 1) := by decide +kernel
theorem d_M_disturb_63 : decode prog_6_method_9_code 63 = .ok (.getfield 52, 3) := by decide +kernel
theorem d_M_disturb_66 : decode prog_6_method_9_code 66 = .ok (.iload_n 2, 1) := by decide +kernel
theorem d_M_disturb_67 : decode prog_6_method_9_code 67 = .ok (.iconst 1, 1) := by decide +kernel
theorem d_M_disturb_68 : decode prog_6_method_9_code 68 = .ok (.bastore, 1) := by decide +kernel
theorem d_M_disturb_69 : decode prog_6_method_9_code 69 = .ok (.aload_n 0, 1) := by decide +kernel
theorem d_M_disturb_70 : decode prog_6_method_9_code 70 = .ok (.dup, 1) := by decide +kernel
theorem d_M_disturb_71 : decode prog_6_method_9_code 71 = .ok (.getfield 82, 3) := by decide +kernel
theorem d_M_disturb_74 : decode prog_6_method_9_code 74 = .ok (.iconst 1, 1) := by decide +kernel
theorem d_M_disturb_75 : decode prog_6_method_9_code 75 = .ok (.iadd, 1) := by decide +kernel
theorem d_M_disturb_76 : decode prog_6_method_9_code 76 = .ok (.putfield 82, 3) := by decide +kernel
theorem d_M_disturb_79 : decode prog_6_method_9_code 79 = .ok (.iconst 1, 1) := by decide +kernel
theorem d_M_disturb_80 : decode prog_6_method_9_code 80 = .ok (.ireturn, 1) := by decide +kernel
def b_M_disturb_60 (post : Option Value → Mm → Prop) : Kk := (i_push (.int 0) (i_zret post))
theorem t_M_disturb_60 {Z : Zt} {X0 : Mm} {post : Option Value → Mm → Prop} (g : Good Z prog_6_method_9_code 3 "BusTelegramsModel" 1) (hq : RetZ Z true X0 0 0 post) (hr : (zM Z).sig.returnType = (some .boolean)) : Snd Z 3 60 (b_M_disturb_60 post) := by
  unfold b_M_disturb_60
  exact (s_push_iconst g d_M_disturb_60 (by decide) (s_zret0 g hq hr d_M_disturb_61))
def b_M_disturb_30 (post : Option Value → Mm → Prop) : Kk := (i_putI 4 0 (i_aload 0 (i_getI 4 1 (i_iload 1 (i_bin (fun x y => x + y) (i_push (.int 2048) (i_binz (fun x y => x - x / y * y) (i_istore 2 (i_aload 0 (i_getI 4 0 (i_if (fun x y => y < x) (b_M_disturb_60 post) (i_aload 0 (i_getR 4 15 (i_iload 2 (i_ald 11 (i_if (fun x y => x = y) (i_aload 0 (i_getR 4 15 (i_iload 2 (i_push (.int 1) (i_zst (i_aload 0 (i_dup (i_getI 4 16 (i_push (.int 1) (i_bin (fun x y => x + y) (i_putI 4 16 (i_push (.int 1) (i_zret post))))))))))))) (b_M_disturb_60 post)))))))))))))))))
theorem t_M_disturb_30 {Z : Zt} {X0 : Mm} {post : Option Value → Mm → Prop} (g : Good Z prog_6_method_9_code 3 "BusTelegramsModel" 1) (hq : RetZ Z true X0 0 0 post) (hr : (zM Z).sig.returnType = (some .boolean)) : Snd Z 3 30 (b_M_disturb_30 post) := by
  unfold b_M_disturb_30
  exact (s_putI g (c := 4) (j := 0) cok_4 (by decide) rfl rfl rfl mw_554 rfl d_M_disturb_30 (s_aload_n g d_M_disturb_33 rfl (s_getI g (c := 4) (j := 1) cok_4 (by decide) rfl mw_555 rfl d_M_disturb_34 (s_iload_n g d_M_disturb_37 rfl (s_iadd g d_M_disturb_38 (s_push_sipush g d_M_disturb_39 (by decide) (s_irem g d_M_disturb_42 (s_istore_n g (by decide) d_M_disturb_43 rfl (s_aload_n g d_M_disturb_44 rfl (s_getI g (c := 4) (j := 0) cok_4 (by decide) rfl mw_554 rfl d_M_disturb_45 (s_if_gt g d_M_disturb_48 (by decide) (t_M_disturb_60 g hq hr) (s_aload_n g d_M_disturb_51 rfl (s_getR g (c := 4) (j := 15) cok_4 (by decide) rfl mw_569 rfl d_M_disturb_52 (s_iload_n g d_M_disturb_55 rfl (s_zald g d_M_disturb_56 (s_if_eq g d_M_disturb_57 (by decide) (s_aload_n g d_M_disturb_62 rfl (s_getR g (c := 4) (j := 15) cok_4 (by decide) rfl mw_569 rfl d_M_disturb_63 (s_iload_n g d_M_disturb_66 rfl (s_push_iconst g d_M_disturb_67 (by decide) (s_zast g d_M_disturb_68 (s_aload_n g d_M_disturb_69 rfl (s_dup g d_M_disturb_70 (s_getI g (c := 4) (j := 16) cok_4 (by decide) rfl mw_570 rfl d_M_disturb_71 (s_push_iconst g d_M_disturb_74 (by decide) (s_iadd g d_M_disturb_75 (s_putI g (c := 4) (j := 16) cok_4 (by decide) rfl rfl rfl mw_570 rfl d_M_disturb_76 (s_push_iconst g d_M_disturb_79 (by decide) (s_zret0 g hq hr d_M_disturb_80))))))))))))) (t_M_disturb_60 g hq hr)))))))))))))))))
def b_M_disturb_0 (post : Option Value → Mm → Prop) : Kk := (i_aload 0 (i_iload 1 (i_push (.int 1) (i_push (.int 2000) (i_callS 3 w_M_isIn (i_if (fun x y => x = y) (i_push (.int 1) (b_M_disturb_30 post)) (i_aload 0 (i_getI 4 16 (i_push (.int 50) (i_icmp (fun x y => x = y) (i_push (.int 2) (b_M_disturb_30 post)) (i_push (.int 0) (b_M_disturb_30 post))))))))))))
theorem t_M_disturb_0 {Z : Zt} {X0 : Mm} {post : Option Value → Mm → Prop} (g : Good Z prog_6_method_9_code 3 "BusTelegramsModel" 1) (hq : RetZ Z true X0 0 0 post) (hr : (zM Z).sig.returnType = (some .boolean)) : Snd Z 3 0 (b_M_disturb_0 post) := by
  unfold b_M_disturb_0
  exact (s_aload_n g d_M_disturb_0 rfl (s_iload_n g d_M_disturb_1 rfl (s_push_iconst g d_M_disturb_2 (by decide) (s_push_sipush g d_M_disturb_3 (by decide) (s_callS g (C_M_isIn (zl Z)) (gin_S mw_668 mw_669 mw_5 mw_670) hd_M_isIn (by decide) (by decide) d_M_disturb_6 (s_if_ne g d_M_disturb_9 (by decide) (s_aload_n g d_M_disturb_16 rfl (s_getI g (c := 4) (j := 16) cok_4 (by decide) rfl mw_570 rfl d_M_disturb_17 (s_push_bipush g d_M_disturb_20 (by decide) (s_icmp_ne g d_M_disturb_22 (by decide) (s_push_iconst g d_M_disturb_29 (by decide) (t_M_disturb_30 g hq hr)) (s_push_iconst g d_M_disturb_25 (by decide) (s_goto g d_M_disturb_26 (by decide) (t_M_disturb_30 g hq hr))))))) (s_push_iconst g d_M_disturb_12 (by decide) (s_goto g d_M_disturb_13 (by decide) (t_M_disturb_30 g hq hr)))))))))
def w_M_disturb : Wp := wpOf 3 (fun _ post => b_M_disturb_0 post)
theorem C_M_disturb (l : Launch) : MetS l ({ cls := "BusTelegramsModel", name := "disturb", desc := "(I)Z" } : Jvm.MethodName) prog_6_method_9_code 3 (some .boolean) true 1 0 0 w_M_disturb := metS_of (by decide +kernel) (fun Z X0 post hZ g hq hr _ => t_M_disturb_0 g hq hr)
theorem hd_M_disturb : (({ cls := "BusTelegramsModel", name := "disturb", desc := "(I)Z" } : Jvm.MethodName)).cls = "BusTelegramsModel" ∧ (({ cls := "BusTelegramsModel", name := "disturb", desc := "(I)Z" } : Jvm.MethodName)).cls ≠ "java/lang/invoke/MethodHandle" ∧ (({ cls := "BusTelegramsModel", name := "disturb", desc := "(I)Z" } : Jvm.MethodName)).cls ≠ "java/lang/invoke/VarHandle" ∧ (parseMethodDescriptor (({ cls := "BusTelegramsModel", name := "disturb", desc := "(I)Z" } : Jvm.MethodName)).desc).map (fun d => d.parameters.length) = some 1 := ⟨rfl, by decide, by decide, by decide +kernel⟩
theorem d_M_begin_0 : decode prog_6_method_16_code 0 = .ok (.iconst 0, 1) := by decide +kernel
theorem d_M_begin_1 : decode prog_6_method_16_code 1 = .ok (.istore_n 1, 1) := by decide +kernel
theorem d_M_begin_2 : decode prog_6_method_16_code 2 = .ok (.iload_n 1, 1) := by decide +kernel
theorem d_M_begin_3 : decode prog_6_method_16_code 3 = .ok (.bipush 8, 2) := by decide +kernel
theorem d_M_begin_5 : decode prog_6_method_16_code 5 = .ok (.if_icmp .ge 93, 3) := by decide +kernel
theorem d_M_begin_8 : decode prog_6_method_16_code 8 = .ok (.bipush 36, 2) := by decide +kernel
theorem d_M_begin_10 : decode prog_6_method_16_code 10 = .ok (.iload_n 1, 1) := by decide +kernel
theorem d_M_begin_11 : decode prog_6_method_16_code 11 = .ok (.imul, 1) := by decide +kernel
theorem d_M_begin_12 : decode prog_6_method_16_code 12 = .ok (.istore_n 2, 1) := by decide +kernel
theorem d_M_begin_13 : decode prog_6_method_16_code 13 = .ok (.aload_n 0, 1) := by decide +kernel
theorem d_M_begin_14 : decode prog_6_method_16_code 14 = .ok (.getfield 28, 3) := by decide +kernel
theorem d_M_begin_17 : decode prog_6_method_16_code 17 = .ok (.iload_n 2, 1) := by decide +kernel
theorem d_M_begin_18 : decode prog_6_method_16_code 18 = .ok (.iaload, 1) := by decide +kernel
theorem d_M_begin_19 : decode prog_6_method_16_code 19 = .ok (.iconst 2, 1) := by decide +kernel
theorem d_M_begin_20 : decode prog_6_method_16_code 20 = .ok (.if_icmp .lt 18, 3) := by decide +kernel
theorem d_M_begin_23 : decode prog_6_method_16_code 23 = .ok (.aload_n 0, 1) := by decide +kernel
theorem d_M_begin_24 : decode prog_6_method_16_code 24 = .ok (.getfield 28, 3) := by decide +kernel
theorem d_M_begin_27 : decode prog_6_method_16_code 27 = .ok (.iload_n 2, 1) := by decide +kernel
theorem d_M_begin_28 : decode prog_6_method_16_code 28 = .ok (.iconst 5, 1) := by decide +kernel
theorem d_M_begin_29 : decode prog_6_method_16_code 29 = .ok (.iadd, 1) := by decide +kernel
theorem d_M_begin_30 : decode prog_6_method_16_code 30 = .ok (.iaload, 1) := by decide +kernel
theorem d_M_begin_31 : decode prog_6_method_16_code 31 = .ok (.ifCond .ne 7, 3) := by decide +kernel
theorem d_M_begin_34 : decode prog_6_method_16_code 34 = .ok (.iconst 1, 1) := by decide +kernel
theorem d_M_begin_35 : decode prog_6_method_16_code 35 = .ok (.goto 4, 3) := by decide +kernel
theorem d_M_begin_38 : decode prog_6_method_16_code 38 = .ok (.iconst 0, 1) := by decide +kernel
theorem d_M_begin_39 : decode prog_6_method_16_code 39 = .ok (.istore_n 3, 1) := by decide +kernel
theorem d_M_begin_40 : decode prog_6_method_16_code 40 = .ok (.aload_n 0, 1) := by decide +kernel
theorem d_M_begin_41 : decode prog_6_method_16_code 41 = .ok (.getfield 31, 3) := by decide +kernel
theorem d_M_begin_44 : decode prog_6_method_16_code 44 = .ok (.iload_n 1, 1) := by decide +kernel
theorem d_M_begin_45 : decode prog_6_method_16_code 45 = .ok (.iaload, 1) := by decide +kernel
theorem d_M_begin_46 : decode prog_6_method_16_code 46 = .ok (.ifCond .ge 46, 3) := by decide +kernel
theorem d_M_begin_49 : decode prog_6_method_16_code 49 = .ok (.aload_n 0, 1) := by decide +kernel
theorem d_M_begin_50 : decode prog_6_method_16_code 50 = .ok (.getfield 25, 3) := by decide +kernel
theorem d_M_begin_53 : decode prog_6_method_16_code 53 = .ok (.iload_n 1, 1) := by decide +kernel
theorem d_M_begin_54 : decode prog_6_method_16_code 54 = .ok (.iaload, 1) := by decide +kernel
theorem d_M_begin_55 : decode prog_6_method_16_code 55 = .ok (.ifCond .le 37, 3) := by decide +kernel
theorem d_M_begin_58 : decode prog_6_method_16_code 58 = .ok (.aload_n 0, 1) := by decide +kernel
theorem d_M_begin_59 : decode prog_6_method_16_code 59 = .ok (.getfield 40, 3) := by decide +kernel
theorem d_M_begin_62 : decode prog_6_method_16_code 62 = .ok (.iload_n 1, 1) := by decide +kernel
theorem d_M_begin_63 : decode prog_6_method_16_code 63 = .ok (.iaload, 1) := by decide +kernel
theorem d_M_begin_64 : decode prog_6_method_16_code 64 = .ok (.ifCond .ge 28, 3) := by decide +kernel
theorem d_M_begin_67 : decode prog_6_method_16_code 67 = .ok (.aload_n 0, 1) := by decide +kernel
theorem d_M_begin_68 : decode prog_6_method_16_code 68 = .ok (.getfield 8, 3) := by decide +kernel
theorem d_M_begin_71 : decode prog_6_method_16_code 71 = .ok (.iload_n 3, 1) := by decide +kernel
theorem d_M_begin_72 : decode prog_6_method_16_code 72 = .ok (.ifCond .eq 8, 3) := by decide +kernel
theorem d_M_begin_75 : decode prog_6_method_16_code 75 = .ok (.bipush 53, 2) := by decide +kernel
theorem d_M_begin_77 : decode prog_6_method_16_code 77 = .ok (.goto 5, 3) := by decide +kernel
theorem d_M_begin_80 : decode prog_6_method_16_code 80 = .ok (.bipush 50, 2) := by decide +kernel
theorem d_M_begin_82 : decode prog_6_method_16_code 82 = .ok (.if_icmp .lt 10, 3) := by decide +kernel
theorem d_M_begin_85 : decode prog_6_method_16_code 85 = .ok (.aload_n 0, 1) := by decide +kernel
theorem d_M_begin_86 : decode prog_6_method_16_code 86 = .ok (.getfield 31, 3) := by decide +kernel
theorem d_M_begin_89 : decode prog_6_method_16_code 89 = .ok (.iload_n 1, 1) := by decide +kernel
theorem d_M_begin_90 : decode prog_6_method_16_code 90 = .ok (.iconst 0, 1) := by decide +kernel
theorem d_M_begin_91 : decode prog_6_method_16_code 91 = .ok (.iastore, 1) := by decide +kernel
theorem d_M_begin_92 : decode prog_6_method_16_code 92 = .ok (.iinc 1 1, 3) := by decide +kernel
theorem d_M_begin_95 : decode prog_6_method_16_code 95 = .ok (.goto (-93), 3) := by decide +kernel
theorem d_M_begin_98 : decode prog_6_method_16_code 98 = .ok (.aload_n 0, 1) := by decide +kernel
theorem d_M_begin_99 : decode prog_6_method_16_code 99 = .ok (.getfield 102, 3) := by decide +kernel
theorem d_M_begin_102 : decode prog_6_method_16_code 102 = .ok (.ifCond .eq 24, 3) := by decide +kernel
theorem d_M_begin_105 : decode prog_6_method_16_code 105 = .ok (.aload_n 0, 1) := by decide +kernel
theorem d_M_begin_106 : decode prog_6_method_16_code 106 = .ok (.getfield 106, 3) := by decide +kernel
theorem d_M_begin_109 : decode prog_6_method_16_code 109 = .ok (.ifCond .ne 17, 3) := by decide +kernel
theorem d_M_begin_112 : decode prog_6_method_16_code 112 = .ok (.aload_n 0, 1) := by decide +kernel
theorem d_M_begin_113 : decode prog_6_method_16_code 113 = .ok (.getfield 85, 3) := by decide +kernel
theorem d_M_begin_116 : decode prog_6_method_16_code 116 = .ok (.aload_n 0, 1) := by decide +kernel
theorem d_M_begin_117 : decode prog_6_method_16_code 117 = .ok (.getfield 109, 3) := by decide +kernel
theorem d_M_begin_120 : decode prog_6_method_16_code 120 = .ok (.bipush 14, 2) := by decide +kernel
theorem d_M_begin_122 : decode prog_6_method_16_code 122 = .ok (.iadd, 1) := by decide +kernel
theorem d_M_begin_123 : decode prog_6_method_16_code 123 = .ok (.if_icmp .eq 4, 3) := by decide +kernel
theorem d_M_begin_126 : decode prog_6_method_16_code 126 = .ok (.return_, 1) := by decide +kernel
theorem d_M_begin_127 : decode prog_6_method_16_code 127 = .ok (.iconst 0, 1) := by decide +kernel
theorem d_M_begin_128 : decode prog_6_method_16_code 128 = .ok (.istore_n 1, 1) := by decide +kernel
theorem d_M_begin_129 : decode prog_6_method_16_code 129 = .ok (.iload_n 1, 1) := by decide +kernel
theorem d_M_begin_130 : decode prog_6_method_16_code 130 = .ok (.bipush 8, 2) := by decide +kernel
theorem d_M_begin_132 : decode prog_6_method_16_code 132 = .ok (.if_icmp .ge 78, 3) := by decide +kernel
theorem d_M_begin_135 : decode prog_6_method_16_code 135 = .ok (.aload_n 0, 1) := by decide +kernel
theorem d_M_begin_136 : decode prog_6_method_16_code 136 = .ok (.getfield 31, 3) := by decide +kernel
theorem d_M_begin_139 : decode prog_6_method_16_code 139 = .ok (.iload_n 1, 1) := by decide +kernel
theorem d_M_begin_140 : decode prog_6_method_16_code 140 = .ok (.iaload, 1) := by decide +kernel
theorem d_M_begin_141 : decode prog_6_method_16_code 141 = .ok (.ifCond .ge 63, 3) := by decide +kernel
theorem d_M_begin_144 : decode prog_6_method_16_code 144 = .ok (.aload_n 0, 1) := by decide +kernel
theorem d_M_begin_145 : decode prog_6_method_16_code 145 = .ok (.getfield 40, 3) := by decide +kernel
theorem d_M_begin_148 : decode prog_6_method_16_code 148 = .ok (.iload_n 1, 1) := by decide +kernel
theorem d_M_begin_149 : decode prog_6_method_16_code 149 = .ok (.iaload, 1) := by decide +kernel
theorem d_M_begin_150 : decode prog_6_method_16_code 150 = .ok (.ifCond .ge 54, 3) := by decide +kernel
theorem d_M_begin_153 : decode prog_6_method_16_code 153 = .ok (.aload_n 0, 1) := by decide +kernel
theorem d_M_begin_154 : decode prog_6_method_16_code 154 = .ok (.iload_n 1, 1) := by decide +kernel
theorem d_M_begin_155 : decode prog_6_method_16_code 155 = .ok (.invokevirtual 112, 3) := by decide +kernel
theorem d_M_begin_158 : decode prog_6_method_16_code 158 = .ok (.ifCond .eq 46, 3) := by decide +kernel
theorem d_M_begin_161 : decode prog_6_method_16_code 161 = .ok (.aload_n 0, 1) := by decide +kernel
theorem d_M_begin_162 : decode prog_6_method_16_code 162 = .ok (.getfield 34, 3) := by decide +kernel
theorem d_M_begin_165 : decode prog_6_method_16_code 165 = .ok (.iload_n 1, 1) := by decide +kernel
theorem d_M_begin_166 : decode prog_6_method_16_code 166 = .ok (.iconst 0, 1) := by decide +kernel
theorem d_M_begin_167 : decode prog_6_method_16_code 167 = .ok (.iastore, 1) := by decide +kernel
theorem d_M_begin_168 : decode prog_6_method_16_code 168 = .ok (.aload_n 0, 1) := by decide +kernel
theorem d_M_begin_169 : decode prog_6_method_16_code 169 = .ok (.getfield 37, 3) := by decide +kernel
theorem d_M_begin_172 : decode prog_6_method_16_code 172 = .ok (.iload_n 1, 1) := by decide +kernel
theorem d_M_begin_173 : decode prog_6_method_16_code 173 = .ok (.aload_n 0, 1) := by decide +kernel
theorem d_M_begin_174 : decode prog_6_method_16_code 174 = .ok (.getfield 116, 3) := by decide +kernel
theorem d_M_begin_177 : decode prog_6_method_16_code 177 = .ok (.ifCond .ne 8, 3) := by decide +kernel
theorem d_M_begin_180 : decode prog_6_method_16_code 180 = .ok (.bipush 12, 2) := by decide +kernel
theorem d_M_begin_182 : decode prog_6_method_16_code 182 = .ok (.goto 21, 3) := by decide +kernel
theorem d_M_begin_185 : decode prog_6_method_16_code 185 = .ok (.aload_n 0, 1) := by decide +kernel
theorem d_M_begin_186 : decode prog_6_method_16_code 186 = .ok (.getfield 22, 3) := by decide +kernel
theorem d_M_begin_189 : decode prog_6_method_16_code 189 = .ok (.iload_n 1, 1) := by decide +kernel
theorem d_M_begin_190 : decode prog_6_method_16_code 190 = .ok (.baload, 1) := by decide +kernel
theorem d_M_begin_191 : decode prog_6_method_16_code 191 = .ok (.ifCond .eq 9, 3) := by decide +kernel
theorem d_M_begin_194 : decode prog_6_method_16_code 194 = .ok (.sipush 192, 3) := by decide +kernel
theorem d_M_begin_197 : decode prog_6_method_16_code 197 = .ok (.goto 6, 3) := by decide +kernel
theorem d_M_begin_200 : decode prog_6_method_16_code 200 = .ok (.sipush 204, 3) := by decide +kernel
theorem d_M_begin_203 : decode prog_6_method_16_code 203 = .ok (.iastore, 1) := by decide +kernel
theorem d_M_begin_204 : decode prog_6_method_16_code 204 = .ok (.iinc 1 1, 3) := by decide +kernel
theorem d_M_begin_207 : decode prog_6_method_16_code 207 = .ok (.goto (-78), 3) := by decide +kernel
theorem d_M_begin_210 : decode prog_6_method_16_code 210 = .ok (.return_, 1) := by decide +kernel
def b_M_begin_126 (post : Option Value → Mm → Prop) : Kk := (i_vret post)
theorem t_M_begin_126 {Z : Zt} {X0 : Mm} {post : Option Value → Mm → Prop} (g : Good Z prog_6_method_16_code 4 "BusTelegramsModel" 1) (hq : RetZ Z true X0 0 0 post) (hr : (zM Z).sig.returnType = none) : Snd Z 4 126 (b_M_begin_126 post) := by
  unfold b_M_begin_126
  exact (s_vret0 g hq hr d_M_begin_126)
def b_M_begin_204 (post : Option Value → Mm → Prop) (k129 : Kk) : Kk := (i_iinc 1 1 k129)
theorem t_M_begin_204 {Z : Zt} {X0 : Mm} {post : Option Value → Mm → Prop} {k129 : Kk} (g : Good Z prog_6_method_16_code 4 "BusTelegramsModel" 1) (hq : RetZ Z true X0 0 0 post) (hr : (zM Z).sig.returnType = none) (hk129 : Snd Z 4 129 k129) : Snd Z 4 204 (b_M_begin_204 post k129) := by
  unfold b_M_begin_204
  exact (s_iinc g (by decide) d_M_begin_204 (by decide) (s_goto g d_M_begin_207 (by decide) hk129))
def b_M_begin_203 (post : Option Value → Mm → Prop) (k129 : Kk) : Kk := (i_ast (b_M_begin_204 post k129))
theorem t_M_begin_203 {Z : Zt} {X0 : Mm} {post : Option Value → Mm → Prop} {k129 : Kk} (g : Good Z prog_6_method_16_code 4 "BusTelegramsModel" 1) (hq : RetZ Z true X0 0 0 post) (hr : (zM Z).sig.returnType = none) (hk129 : Snd Z 4 129 k129) : Snd Z 4 203 (b_M_begin_203 post k129) := by
  unfold b_M_begin_203
  exact (s_iast g d_M_begin_203 (t_M_begin_204 g hq hr hk129))
def b_M_begin_129 (post : Option Value → Mm → Prop) : Kk := i_loop [0, 1] (fun k129 => (i_iload 1 (i_push (.int 8) (i_icmp (fun x y => y ≤ x) (i_vret post) (i_aload 0 (i_getR 4 8 (i_iload 1 (i_ald 10 (i_if (fun x y => y ≤ x) (b_M_begin_204 post k129) (i_aload 0 (i_getR 4 11 (i_iload 1 (i_ald 10 (i_if (fun x y => y ≤ x) (b_M_begin_204 post k129) (i_aload 0 (i_iload 1 (i_callV 1 4 w_M_isMeant (i_if (fun x y => x = y) (b_M_begin_204 post k129) (i_aload 0 (i_getR 4 9 (i_iload 1 (i_push (.int 0) (i_ast (i_aload 0 (i_getR 4 10 (i_iload 1 (i_aload 0 (i_getI 4 31 (i_if (fun x y => x = y) (i_push (.int 12) (b_M_begin_203 post k129)) (i_aload 0 (i_getR 4 5 (i_iload 1 (i_ald 11 (i_if (fun x y => x = y) (i_push (.int 204) (b_M_begin_203 post k129)) (i_push (.int 192) (b_M_begin_203 post k129))))))))))))))))))))))))))))))))))))
theorem t_M_begin_129 {Z : Zt} {X0 : Mm} {post : Option Value → Mm → Prop} (g : Good Z prog_6_method_16_code 4 "BusTelegramsModel" 1) (hq : RetZ Z true X0 0 0 post) (hr : (zM Z).sig.returnType = none) : Snd Z 4 129 (b_M_begin_129 post) := by
  unfold b_M_begin_129
  exact s_loop (fun k129 hk129 => (s_iload_n g d_M_begin_129 rfl (s_push_bipush g d_M_begin_130 (by decide) (s_icmp_ge g d_M_begin_132 (by decide) (s_vret0 g hq hr d_M_begin_210) (s_aload_n g d_M_begin_135 rfl (s_getR g (c := 4) (j := 8) cok_4 (by decide) rfl mw_562 rfl d_M_begin_136 (s_iload_n g d_M_begin_139 rfl (s_iald g d_M_begin_140 (s_if_ge g d_M_begin_141 (by decide) (t_M_begin_204 g hq hr hk129) (s_aload_n g d_M_begin_144 rfl (s_getR g (c := 4) (j := 11) cok_4 (by decide) rfl mw_565 rfl d_M_begin_145 (s_iload_n g d_M_begin_148 rfl (s_iald g d_M_begin_149 (s_if_ge g d_M_begin_150 (by decide) (t_M_begin_204 g hq hr hk129) (s_aload_n g d_M_begin_153 rfl (s_iload_n g d_M_begin_154 rfl (s_callV g (C_M_isMeant (zl Z)) (gin_V mw_700 mw_702 ms_16 mw_5 mw_703) hd_M_isMeant rfl (by decide) (by decide) (by decide) d_M_begin_155 (s_if_eq g d_M_begin_158 (by decide) (t_M_begin_204 g hq hr hk129) (s_aload_n g d_M_begin_161 rfl (s_getR g (c := 4) (j := 9) cok_4 (by decide) rfl mw_563 rfl d_M_begin_162 (s_iload_n g d_M_begin_165 rfl (s_push_iconst g d_M_begin_166 (by decide) (s_iast g d_M_begin_167 (s_aload_n g d_M_begin_168 rfl (s_getR g (c := 4) (j := 10) cok_4 (by decide) rfl mw_564 rfl d_M_begin_169 (s_iload_n g d_M_begin_172 rfl (s_aload_n g d_M_begin_173 rfl (s_getI g (c := 4) (j := 31) cok_4 (by decide) rfl mw_585 rfl d_M_begin_174 (s_if_ne g d_M_begin_177 (by decide) (s_aload_n g d_M_begin_185 rfl (s_getR g (c := 4) (j := 5) cok_4 (by decide) rfl mw_559 rfl d_M_begin_186 (s_iload_n g d_M_begin_189 rfl (s_zald g d_M_begin_190 (s_if_eq g d_M_begin_191 (by decide) (s_push_sipush g d_M_begin_200 (by decide) (t_M_begin_203 g hq hr hk129)) (s_push_sipush g d_M_begin_194 (by decide) (s_goto g d_M_begin_197 (by decide) (t_M_begin_203 g hq hr hk129)))))))) (s_push_bipush g d_M_begin_180 (by decide) (s_goto g d_M_begin_182 (by decide) (t_M_begin_203 g hq hr hk129))))))))))))))))))))))))))))))))
def b_M_begin_92 (post : Option Value → Mm → Prop) (k2 : Kk) : Kk := (i_iinc 1 1 k2)
theorem t_M_begin_92 {Z : Zt} {X0 : Mm} {post : Option Value → Mm → Prop} {k2 : Kk} (g : Good Z prog_6_method_16_code 4 "BusTelegramsModel" 1) (hq : RetZ Z true X0 0 0 post) (hr : (zM Z).sig.returnType = none) (hk2 : Snd Z 4 2 k2) : Snd Z 4 92 (b_M_begin_92 post k2) := by
  unfold b_M_begin_92
  exact (s_iinc g (by decide) d_M_begin_92 (by decide) (s_goto g d_M_begin_95 (by decide) hk2))
def b_M_begin_82 (post : Option Value → Mm → Prop) (k2 : Kk) : Kk := (i_icmp (fun x y => x < y) (b_M_begin_92 post k2) (i_aload 0 (i_getR 4 8 (i_iload 1 (i_push (.int 0) (i_ast (b_M_begin_92 post k2)))))))
theorem t_M_begin_82 {Z : Zt} {X0 : Mm} {post : Option Value → Mm → Prop} {k2 : Kk} (g : Good Z prog_6_method_16_code 4 "BusTelegramsModel" 1) (hq : RetZ Z true X0 0 0 post) (hr : (zM Z).sig.returnType = none) (hk2 : Snd Z 4 2 k2) : Snd Z 4 82 (b_M_begin_82 post k2) := by
  unfold b_M_begin_82
  exact (s_icmp_lt g d_M_begin_82 (by decide) (t_M_begin_92 g hq hr hk2) (s_aload_n g d_M_begin_85 rfl (s_getR g (c := 4) (j := 8) cok_4 (by decide) rfl mw_562 rfl d_M_begin_86 (s_iload_n g d_M_begin_89 rfl (s_push_iconst g d_M_begin_90 (by decide) (s_iast g d_M_begin_91 (t_M_begin_92 g hq hr hk2)))))))
def b_M_begin_39 (post : Option Value → Mm → Prop) (k2 : Kk) : Kk := (i_istore 3 (i_aload 0 (i_getR 4 8 (i_iload 1 (i_ald 10 (i_if (fun x y => y ≤ x) (b_M_begin_92 post k2) (i_aload 0 (i_getR 4 6 (i_iload 1 (i_ald 10 (i_if (fun x y => x ≤ y) (b_M_begin_92 post k2) (i_aload 0 (i_getR 4 11 (i_iload 1 (i_ald 10 (i_if (fun x y => y ≤ x) (b_M_begin_92 post k2) (i_aload 0 (i_getI 4 2 (i_iload 3 (i_if (fun x y => x = y) (i_push (.int 50) (b_M_begin_82 post k2)) (i_push (.int 53) (b_M_begin_82 post k2))))))))))))))))))))))
theorem t_M_begin_39 {Z : Zt} {X0 : Mm} {post : Option Value → Mm → Prop} {k2 : Kk} (g : Good Z prog_6_method_16_code 4 "BusTelegramsModel" 1) (hq : RetZ Z true X0 0 0 post) (hr : (zM Z).sig.returnType = none) (hk2 : Snd Z 4 2 k2) : Snd Z 4 39 (b_M_begin_39 post k2) := by
  unfold b_M_begin_39
  exact (s_istore_n g (by decide) d_M_begin_39 rfl (s_aload_n g d_M_begin_40 rfl (s_getR g (c := 4) (j := 8) cok_4 (by decide) rfl mw_562 rfl d_M_begin_41 (s_iload_n g d_M_begin_44 rfl (s_iald g d_M_begin_45 (s_if_ge g d_M_begin_46 (by decide) (t_M_begin_92 g hq hr hk2) (s_aload_n g d_M_begin_49 rfl (s_getR g (c := 4) (j := 6) cok_4 (by decide) rfl mw_560 rfl d_M_begin_50 (s_iload_n g d_M_begin_53 rfl (s_iald g d_M_begin_54 (s_if_le g d_M_begin_55 (by decide) (t_M_begin_92 g hq hr hk2) (s_aload_n g d_M_begin_58 rfl (s_getR g (c := 4) (j := 11) cok_4 (by decide) rfl mw_565 rfl d_M_begin_59 (s_iload_n g d_M_begin_62 rfl (s_iald g d_M_begin_63 (s_if_ge g d_M_begin_64 (by decide) (t_M_begin_92 g hq hr hk2) (s_aload_n g d_M_begin_67 rfl (s_getI g (c := 4) (j := 2) cok_4 (by decide) rfl mw_556 rfl d_M_begin_68 (s_iload_n g d_M_begin_71 rfl (s_if_eq g d_M_begin_72 (by decide) (s_push_bipush g d_M_begin_80 (by decide) (t_M_begin_82 g hq hr hk2)) (s_push_bipush g d_M_begin_75 (by decide) (s_goto g d_M_begin_77 (by decide) (t_M_begin_82 g hq hr hk2)))))))))))))))))))))))
def b_M_begin_38 (post : Option Value → Mm → Prop) (k2 : Kk) : Kk := (i_push (.int 0) (b_M_begin_39 post k2))
theorem t_M_begin_38 {Z : Zt} {X0 : Mm} {post : Option Value → Mm → Prop} {k2 : Kk} (g : Good Z prog_6_method_16_code 4 "BusTelegramsModel" 1) (hq : RetZ Z true X0 0 0 post) (hr : (zM Z).sig.returnType = none) (hk2 : Snd Z 4 2 k2) : Snd Z 4 38 (b_M_begin_38 post k2) := by
  unfold b_M_begin_38
  exact (s_push_iconst g d_M_begin_38 (by decide) (t_M_begin_39 g hq hr hk2))
def b_M_begin_2 (post : Option Value → Mm → Prop) : Kk := i_loop [0, 1] (fun k2 => (i_iload 1 (i_push (.int 8) (i_icmp (fun x y => y ≤ x) (i_aload 0 (i_getI 4 28 (i_if (fun x y => x = y) (b_M_begin_126 post) (i_aload 0 (i_getI 4 32 (i_if (fun x y => x = y) (i_aload 0 (i_getI 4 1 (i_aload 0 (i_getI 4 29 (i_push (.int 14) (i_bin (fun x y => x + y) (i_icmp (fun x y => x = y) (i_push (.int 0) (i_istore 1 (b_M_begin_129 post))) (b_M_begin_126 post)))))))) (b_M_begin_126 post))))))) (i_push (.int 36) (i_iload 1 (i_bin (fun x y => x * y) (i_istore 2 (i_aload 0 (i_getR 4 7 (i_iload 2 (i_ald 10 (i_push (.int 2) (i_icmp (fun x y => x < y) (b_M_begin_38 post k2) (i_aload 0 (i_getR 4 7 (i_iload 2 (i_push (.int 5) (i_bin (fun x y => x + y) (i_ald 10 (i_if (fun x y => x = y) (i_push (.int 1) (b_M_begin_39 post k2)) (b_M_begin_38 post k2))))))))))))))))))))))
theorem t_M_begin_2 {Z : Zt} {X0 : Mm} {post : Option Value → Mm → Prop} (g : Good Z prog_6_method_16_code 4 "BusTelegramsModel" 1) (hq : RetZ Z true X0 0 0 post) (hr : (zM Z).sig.returnType = none) : Snd Z 4 2 (b_M_begin_2 post) := by
  unfold b_M_begin_2
  exact s_loop (fun k2 hk2 => (s_iload_n g d_M_begin_2 rfl (s_push_bipush g d_M_begin_3 (by decide) (s_icmp_ge g d_M_begin_5 (by decide) (s_aload_n g d_M_begin_98 rfl (s_getI g (c := 4) (j := 28) cok_4 (by decide) rfl mw_582 rfl d_M_begin_99 (s_if_eq g d_M_begin_102 (by decide) (t_M_begin_126 g hq hr) (s_aload_n g d_M_begin_105 rfl (s_getI g (c := 4) (j := 32) cok_4 (by decide) rfl mw_586 rfl d_M_begin_106 (s_if_ne g d_M_begin_109 (by decide) (t_M_begin_126 g hq hr) (s_aload_n g d_M_begin_112 rfl (s_getI g (c := 4) (j := 1) cok_4 (by decide) rfl mw_555 rfl d_M_begin_113 (s_aload_n g d_M_begin_116 rfl (s_getI g (c := 4) (j := 29) cok_4 (by decide) rfl mw_583 rfl d_M_begin_117 (s_push_bipush g d_M_begin_120 (by decide) (s_iadd g d_M_begin_122 (s_icmp_eq g d_M_begin_123 (by decide) (s_push_iconst g d_M_begin_127 (by decide) (s_istore_n g (by decide) d_M_begin_128 rfl (t_M_begin_129 g hq hr))) (t_M_begin_126 g hq hr)))))))))))))) (s_push_bipush g d_M_begin_8 (by decide) (s_iload_n g d_M_begin_10 rfl (s_imul g d_M_begin_11 (s_istore_n g (by decide) d_M_begin_12 rfl (s_aload_n g d_M_begin_13 rfl (s_getR g (c := 4) (j := 7) cok_4 (by decide) rfl mw_561 rfl d_M_begin_14 (s_iload_n g d_M_begin_17 rfl (s_iald g d_M_begin_18 (s_push_iconst g d_M_begin_19 (by decide) (s_icmp_lt g d_M_begin_20 (by decide) (t_M_begin_38 g hq hr hk2) (s_aload_n g d_M_begin_23 rfl (s_getR g (c := 4) (j := 7) cok_4 (by decide) rfl mw_561 rfl d_M_begin_24 (s_iload_n g d_M_begin_27 rfl (s_push_iconst g d_M_begin_28 (by decide) (s_iadd g d_M_begin_29 (s_iald g d_M_begin_30 (s_if_ne g d_M_begin_31 (by decide) (t_M_begin_38 g hq hr hk2) (s_push_iconst g d_M_begin_34 (by decide) (s_goto g d_M_begin_35 (by decide) (t_M_begin_39 g hq hr hk2))))))))))))))))))))))))
def b_M_begin_0 (post : Option Value → Mm → Prop) : Kk := (i_push (.int 0) (i_istore 1 (b_M_begin_2 post)))
theorem t_M_begin_0 {Z : Zt} {X0 : Mm} {post : Option Value → Mm → Prop} (g : Good Z prog_6_method_16_code 4 "BusTelegramsModel" 1) (hq : RetZ Z true X0 0 0 post) (hr : (zM Z).sig.returnType = none) : Snd Z 4 0 (b_M_begin_0 post) := by
  unfold b_M_begin_0
  exact (s_push_iconst g d_M_begin_0 (by decide) (s_istore_n g (by decide) d_M_begin_1 rfl (t_M_begin_2 g hq hr)))
def w_M_begin : Wp := wpOf 4 (fun _ post => b_M_begin_0 post)
theorem C_M_begin (l : Launch) : MetS l ({ cls := "BusTelegramsModel", name := "begin", desc := "()V" } : Jvm.MethodName) prog_6_method_16_code 4 none true 1 0 0 w_M_begin := metS_of (by decide +kernel) (fun Z X0 post hZ g hq hr _ => t_M_begin_0 g hq hr)
theorem hd_M_begin : (({ cls := "BusTelegramsModel", name := "begin", desc := "()V" } : Jvm.MethodName)).cls = "BusTelegramsModel" ∧ (({ cls := "BusTelegramsModel", name := "begin", desc := "()V" } : Jvm.MethodName)).cls ≠ "java/lang/invoke/MethodHandle" ∧ (({ cls := "BusTelegramsModel", name := "begin", desc := "()V" } : Jvm.MethodName)).cls ≠ "java/lang/invoke/VarHandle" ∧ (parseMethodDescriptor (({ cls := "BusTelegramsModel", name := "begin", desc := "()V" } : Jvm.MethodName)).desc).map (fun d => d.parameters.length) = some 0 := ⟨rfl, by decide, by decide, by decide +kernel⟩
theorem d_M_byteOf_0 : decode prog_6_method_12_code 0 = .ok (.iload_n 2, 1) := by decide +kernel
theorem d_M_byteOf_1 : decode prog_6_method_12_code 1 = .ok (.iconst 1, 1) := by decide +kernel
theorem d_M_byteOf_2 : decode prog_6_method_12_code 2 = .ok (.iadd, 1) := by decide +kernel
theorem d_M_byteOf_3 : decode prog_6_method_12_code 3 = .ok (.aload_n 0, 1) := by decide +kernel
theorem d_M_byteOf_4 : decode prog_6_method_12_code 4 = .ok (.iload_n 1, 1) := by decide +kernel
theorem d_M_byteOf_5 : decode prog_6_method_12_code 5 = .ok (.invokevirtual 88, 3) := by decide +kernel
theorem d_M_byteOf_8 : decode prog_6_method_12_code 8 = .ok (.if_icmp .ge 10, 3) := by decide +kernel
theorem d_M_byteOf_11 : decode prog_6_method_12_code 11 = .ok (.aload_n 0, 1) := by decide +kernel
theorem d_M_byteOf_12 : decode prog_6_method_12_code 12 = .ok (.iload_n 1, 1) := by decide +kernel
theorem d_M_byteOf_13 : decode prog_6_method_12_code 13 = .ok (.iload_n 2, 1) := by decide +kernel
theorem d_M_byteOf_14 : decode prog_6_method_12_code 14 = .ok (.invokevirtual 92, 3) := by decide +kernel
theorem d_M_byteOf_17 : decode prog_6_method_12_code 17 = .ok (.ireturn, 1) := by decide +kernel
theorem d_M_byteOf_18 : decode prog_6_method_12_code 18 = .ok (.sipush 255, 3) := by decide +kernel
theorem d_M_byteOf_21 : decode prog_6_method_12_code 21 = .ok (.istore_n 3, 1) := by decide +kernel
theorem d_M_byteOf_22 : decode prog_6_method_12_code 22 = .ok (.iconst 0, 1) := by decide +kernel
theorem d_M_byteOf_23 : decode prog_6_method_12_code 23 = .ok (.istore 4, 2) := by decide +kernel
theorem d_M_byteOf_25 : decode prog_6_method_12_code 25 = .ok (.iload 4, 2) := by decide +kernel
theorem d_M_byteOf_27 : decode prog_6_method_12_code 27 = .ok (.iload_n 2, 1) := by decide +kernel
theorem d_M_byteOf_28 : decode prog_6_method_12_code 28 = .ok (.if_icmp .ge 19, 3) := by decide +kernel
theorem d_M_byteOf_31 : decode prog_6_method_12_code 31 = .ok (.iload_n 3, 1) := by decide +kernel
theorem d_M_byteOf_32 : decode prog_6_method_12_code 32 = .ok (.aload_n 0, 1) := by decide +kernel
theorem d_M_byteOf_33 : decode prog_6_method_12_code 33 = .ok (.iload_n 1, 1) := by decide +kernel
theorem d_M_byteOf_34 : decode prog_6_method_12_code 34 = .ok (.iload 4, 2) := by decide +kernel
theorem d_M_byteOf_36 : decode prog_6_method_12_code 36 = .ok (.invokevirtual 92, 3) := by decide +kernel
theorem d_M_byteOf_39 : decode prog_6_method_12_code 39 = .ok (.ixor, 1) := by decide +kernel
theorem d_M_byteOf_40 : decode prog_6_method_12_code 40 = .ok (.istore_n 3, 1) := by decide +kernel
theorem d_M_byteOf_41 : decode prog_6_method_12_code 41 = .ok (.iinc 4 1, 3) := by decide +kernel
theorem d_M_byteOf_44 : decode prog_6_method_12_code 44 = .ok (.goto (-19), 3) := by decide +kernel
theorem d_M_byteOf_47 : decode prog_6_method_12_code 47 = .ok (.iload_n 3, 1) := by decide +kernel
theorem d_M_byteOf_48 : decode prog_6_method_12_code 48 = .ok (.ireturn, 1) := by decide +kernel
def b_M_byteOf_25 (post : Option Value → Mm → Prop) : Kk := i_loop [0, 1, 2, 3, 4] (fun k25 => (i_iload 4 (i_iload 2 (i_icmp (fun x y => y ≤ x) (i_iload 3 (i_iret post)) (i_iload 3 (i_aload 0 (i_iload 1 (i_iload 4 (i_callV 2 4 w_M_plain (i_bin (fun x y => x ^^^ y) (i_istore 3 (i_iinc 4 1 k25))))))))))))
theorem t_M_byteOf_25 {Z : Zt} {X0 : Mm} {post : Option Value → Mm → Prop} (g : Good Z prog_6_method_12_code 5 "BusTelegramsModel" 1) (hq : RetZ Z true X0 0 0 post) (hr : (zM Z).sig.returnType = (some .int)) : Snd Z 5 25 (b_M_byteOf_25 post) := by
  unfold b_M_byteOf_25
  exact s_loop (fun k25 hk25 => (s_iload g d_M_byteOf_25 (s_iload_n g d_M_byteOf_27 rfl (s_icmp_ge g d_M_byteOf_28 (by decide) (s_iload_n g d_M_byteOf_47 rfl (s_iret0 g hq hr d_M_byteOf_48)) (s_iload_n g d_M_byteOf_31 rfl (s_aload_n g d_M_byteOf_32 rfl (s_iload_n g d_M_byteOf_33 rfl (s_iload g d_M_byteOf_34 (s_callV g (C_M_plain (zl Z)) (gin_V mw_720 mw_722 ms_21 mw_5 mw_723) hd_M_plain rfl (by decide) (by decide) (by decide) d_M_byteOf_36 (s_ixor g d_M_byteOf_39 (s_istore_n g (by decide) d_M_byteOf_40 rfl (s_iinc g (by decide) d_M_byteOf_41 (by decide) (s_goto g d_M_byteOf_44 (by decide) hk25)))))))))))))
def b_M_byteOf_0 (post : Option Value → Mm → Prop) : Kk := (i_iload 2 (i_push (.int 1) (i_bin (fun x y => x + y) (i_aload 0 (i_iload 1 (i_callV 1 4 w_M_size (i_icmp (fun x y => y ≤ x) (i_push (.int 255) (i_istore 3 (i_push (.int 0) (i_istore 4 (b_M_byteOf_25 post))))) (i_aload 0 (i_iload 1 (i_iload 2 (i_callV 2 4 w_M_plain (i_iret post))))))))))))
theorem t_M_byteOf_0 {Z : Zt} {X0 : Mm} {post : Option Value → Mm → Prop} (g : Good Z prog_6_method_12_code 5 "BusTelegramsModel" 1) (hq : RetZ Z true X0 0 0 post) (hr : (zM Z).sig.returnType = (some .int)) : Snd Z 5 0 (b_M_byteOf_0 post) := by
  unfold b_M_byteOf_0
  exact (s_iload_n g d_M_byteOf_0 rfl (s_push_iconst g d_M_byteOf_1 (by decide) (s_iadd g d_M_byteOf_2 (s_aload_n g d_M_byteOf_3 rfl (s_iload_n g d_M_byteOf_4 rfl (s_callV g (C_M_size (zl Z)) (gin_V mw_716 mw_718 ms_20 mw_5 mw_719) hd_M_size rfl (by decide) (by decide) (by decide) d_M_byteOf_5 (s_icmp_ge g d_M_byteOf_8 (by decide) (s_push_sipush g d_M_byteOf_18 (by decide) (s_istore_n g (by decide) d_M_byteOf_21 rfl (s_push_iconst g d_M_byteOf_22 (by decide) (s_istore g (by decide) d_M_byteOf_23 (t_M_byteOf_25 g hq hr))))) (s_aload_n g d_M_byteOf_11 rfl (s_iload_n g d_M_byteOf_12 rfl (s_iload_n g d_M_byteOf_13 rfl (s_callV g (C_M_plain (zl Z)) (gin_V mw_720 mw_722 ms_21 mw_5 mw_723) hd_M_plain rfl (by decide) (by decide) (by decide) d_M_byteOf_14 (s_iret0 g hq hr d_M_byteOf_17))))))))))))
def w_M_byteOf : Wp := wpOf 5 (fun _ post => b_M_byteOf_0 post)
theorem C_M_byteOf (l : Launch) : MetS l ({ cls := "BusTelegramsModel", name := "byteOf", desc := "(II)I" } : Jvm.MethodName) prog_6_method_12_code 5 (some .int) true 1 0 0 w_M_byteOf := metS_of (by decide +kernel) (fun Z X0 post hZ g hq hr _ => t_M_byteOf_0 g hq hr)
theorem hd_M_byteOf : (({ cls := "BusTelegramsModel", name := "byteOf", desc := "(II)I" } : Jvm.MethodName)).cls = "BusTelegramsModel" ∧ (({ cls := "BusTelegramsModel", name := "byteOf", desc := "(II)I" } : Jvm.MethodName)).cls ≠ "java/lang/invoke/MethodHandle" ∧ (({ cls := "BusTelegramsModel", name := "byteOf", desc := "(II)I" } : Jvm.MethodName)).cls ≠ "java/lang/invoke/VarHandle" ∧ (parseMethodDescriptor (({ cls := "BusTelegramsModel", name := "byteOf", desc := "(II)I" } : Jvm.MethodName)).desc).map (fun d => d.parameters.length) = some 2 := ⟨rfl, by decide, by decide, by decide +kernel⟩
theorem d_M_first_0 : decode prog_6_method_21_code 0 = .ok (.aload_n 0, 1) := by decide +kernel
theorem d_M_first_1 : decode prog_6_method_21_code 1 = .ok (.aload_n 0, 1) := by decide +kernel
theorem d_M_first_2 : decode prog_6_method_21_code 2 = .ok (.getfield 85, 3) := by decide +kernel
theorem d_M_first_5 : decode prog_6_method_21_code 5 = .ok (.putfield 134, 3) := by decide +kernel
theorem d_M_first_8 : decode prog_6_method_21_code 8 = .ok (.aload_n 0, 1) := by decide +kernel
theorem d_M_first_9 : decode prog_6_method_21_code 9 = .ok (.iconst 0, 1) := by decide +kernel
theorem d_M_first_10 : decode prog_6_method_21_code 10 = .ok (.putfield 122, 3) := by decide +kernel
theorem d_M_first_13 : decode prog_6_method_21_code 13 = .ok (.aload_n 0, 1) := by decide +kernel
theorem d_M_first_14 : decode prog_6_method_21_code 14 = .ok (.iconst 0, 1) := by decide +kernel
theorem d_M_first_15 : decode prog_6_method_21_code 15 = .ok (.putfield 125, 3) := by decide +kernel
theorem d_M_first_18 : decode prog_6_method_21_code 18 = .ok (.aload_n 0, 1) := by decide +kernel
theorem d_M_first_19 : decode prog_6_method_21_code 19 = .ok (.invokevirtual 149, 3) := by decide +kernel
theorem d_M_first_22 : decode prog_6_method_21_code 22 = .ok (.return_, 1) := by decide +kernel
def b_M_first_0 (post : Option Value → Mm → Prop) : Kk := (i_aload 0 (i_aload 0 (i_getI 4 1 (i_putI 4 23 (i_aload 0 (i_push (.int 0) (i_putI 4 25 (i_aload 0 (i_push (.int 0) (i_putZ 4 22 (i_aload 0 (i_callV 0 4 w_M_open (i_vret post)))))))))))))
theorem t_M_first_0 {Z : Zt} {X0 : Mm} {post : Option Value → Mm → Prop} (g : Good Z prog_6_method_21_code 1 "BusTelegramsModel" 1) (hq : RetZ Z true X0 0 0 post) (hr : (zM Z).sig.returnType = none) : Snd Z 1 0 (b_M_first_0 post) := by
  unfold b_M_first_0
  exact (s_aload_n g d_M_first_0 rfl (s_aload_n g d_M_first_1 rfl (s_getI g (c := 4) (j := 1) cok_4 (by decide) rfl mw_555 rfl d_M_first_2 (s_putI g (c := 4) (j := 23) cok_4 (by decide) rfl rfl rfl mw_577 rfl d_M_first_5 (s_aload_n g d_M_first_8 rfl (s_push_iconst g d_M_first_9 (by decide) (s_putI g (c := 4) (j := 25) cok_4 (by decide) rfl rfl rfl mw_579 rfl d_M_first_10 (s_aload_n g d_M_first_13 rfl (s_push_iconst g d_M_first_14 (by decide) (s_putZ g (c := 4) (j := 22) cok_4 (by decide) rfl rfl rfl mw_576 rfl d_M_first_15 (s_aload_n g d_M_first_18 rfl (s_callV g (C_M_open (zl Z)) (gin_V mw_739 mw_741 ms_25 mw_5 mw_742) hd_M_open rfl (by decide) (by decide) (by decide) d_M_first_19 (s_vret0 g hq hr d_M_first_22)))))))))))))
def w_M_first : Wp := wpOf 1 (fun _ post => b_M_first_0 post)
theorem C_M_first (l : Launch) : MetS l ({ cls := "BusTelegramsModel", name := "first", desc := "()V" } : Jvm.MethodName) prog_6_method_21_code 1 none true 1 0 0 w_M_first := metS_of (by decide +kernel) (fun Z X0 post hZ g hq hr _ => t_M_first_0 g hq hr)
theorem hd_M_first : (({ cls := "BusTelegramsModel", name := "first", desc := "()V" } : Jvm.MethodName)).cls = "BusTelegramsModel" ∧ (({ cls := "BusTelegramsModel", name := "first", desc := "()V" } : Jvm.MethodName)).cls ≠ "java/lang/invoke/MethodHandle" ∧ (({ cls := "BusTelegramsModel", name := "first", desc := "()V" } : Jvm.MethodName)).cls ≠ "java/lang/invoke/VarHandle" ∧ (parseMethodDescriptor (({ cls := "BusTelegramsModel", name := "first", desc := "()V" } : Jvm.MethodName)).desc).map (fun d => d.parameters.length) = some 0 := ⟨rfl, by decide, by decide, by decide +kernel⟩
theorem d_M_look_0 : decode prog_6_method_24_code 0 = .ok (.iconst 0, 1) := by decide +kernel
theorem d_M_look_1 : decode prog_6_method_24_code 1 = .ok (.istore_n 1, 1) := by decide +kernel
theorem d_M_look_2 : decode prog_6_method_24_code 2 = .ok (.iload_n 1, 1) := by decide +kernel
theorem d_M_look_3 : decode prog_6_method_24_code 3 = .ok (.bipush 8, 2) := by decide +kernel
theorem d_M_look_5 : decode prog_6_method_24_code 5 = .ok (.if_icmp .ge 152, 3) := by decide +kernel
theorem d_M_look_8 : decode prog_6_method_24_code 8 = .ok (.aload_n 0, 1) := by decide +kernel
theorem d_M_look_9 : decode prog_6_method_24_code 9 = .ok (.getfield 40, 3) := by decide +kernel
theorem d_M_look_12 : decode prog_6_method_24_code 12 = .ok (.iload_n 1, 1) := by decide +kernel
theorem d_M_look_13 : decode prog_6_method_24_code 13 = .ok (.iaload, 1) := by decide +kernel
theorem d_M_look_14 : decode prog_6_method_24_code 14 = .ok (.ifCond .lt 137, 3) := by decide +kernel
theorem d_M_look_17 : decode prog_6_method_24_code 17 = .ok (.aload_n 0, 1) := by decide +kernel
theorem d_M_look_18 : decode prog_6_method_24_code 18 = .ok (.getfield 40, 3) := by decide +kernel
theorem d_M_look_21 : decode prog_6_method_24_code 21 = .ok (.iload_n 1, 1) := by decide +kernel
theorem d_M_look_22 : decode prog_6_method_24_code 22 = .ok (.iaload, 1) := by decide +kernel
theorem d_M_look_23 : decode prog_6_method_24_code 23 = .ok (.aload_n 0, 1) := by decide +kernel
theorem d_M_look_24 : decode prog_6_method_24_code 24 = .ok (.getfield 85, 3) := by decide +kernel
theorem d_M_look_27 : decode prog_6_method_24_code 27 = .ok (.bipush 28, 2) := by decide +kernel
theorem d_M_look_29 : decode prog_6_method_24_code 29 = .ok (.isub, 1) := by decide +kernel
theorem d_M_look_30 : decode prog_6_method_24_code 30 = .ok (.if_icmp .ne 121, 3) := by decide +kernel
theorem d_M_look_33 : decode prog_6_method_24_code 33 = .ok (.aload_n 0, 1) := by decide +kernel
theorem d_M_look_34 : decode prog_6_method_24_code 34 = .ok (.getfield 40, 3) := by decide +kernel
theorem d_M_look_37 : decode prog_6_method_24_code 37 = .ok (.iload_n 1, 1) := by decide +kernel
theorem d_M_look_38 : decode prog_6_method_24_code 38 = .ok (.iconst (-1), 1) := by decide +kernel
theorem d_M_look_39 : decode prog_6_method_24_code 39 = .ok (.iastore, 1) := by decide +kernel
theorem d_M_look_40 : decode prog_6_method_24_code 40 = .ok (.aload_n 0, 1) := by decide +kernel
theorem d_M_look_41 : decode prog_6_method_24_code 41 = .ok (.getfield 102, 3) := by decide +kernel
theorem d_M_look_44 : decode prog_6_method_24_code 44 = .ok (.ifCond .eq 31, 3) := by decide +kernel
theorem d_M_look_47 : decode prog_6_method_24_code 47 = .ok (.aload_n 0, 1) := by decide +kernel
theorem d_M_look_48 : decode prog_6_method_24_code 48 = .ok (.getfield 109, 3) := by decide +kernel
theorem d_M_look_51 : decode prog_6_method_24_code 51 = .ok (.aload_n 0, 1) := by decide +kernel
theorem d_M_look_52 : decode prog_6_method_24_code 52 = .ok (.getfield 85, 3) := by decide +kernel
theorem d_M_look_55 : decode prog_6_method_24_code 55 = .ok (.bipush 28, 2) := by decide +kernel
theorem d_M_look_57 : decode prog_6_method_24_code 57 = .ok (.isub, 1) := by decide +kernel
theorem d_M_look_58 : decode prog_6_method_24_code 58 = .ok (.if_icmp .ne 17, 3) := by decide +kernel
theorem d_M_look_61 : decode prog_6_method_24_code 61 = .ok (.aload_n 0, 1) := by decide +kernel
theorem d_M_look_62 : decode prog_6_method_24_code 62 = .ok (.getfield 64, 3) := by decide +kernel
theorem d_M_look_65 : decode prog_6_method_24_code 65 = .ok (.sipush 204, 3) := by decide +kernel
theorem d_M_look_68 : decode prog_6_method_24_code 68 = .ok (.if_icmp .ne 7, 3) := by decide +kernel
theorem d_M_look_71 : decode prog_6_method_24_code 71 = .ok (.iconst 1, 1) := by decide +kernel
theorem d_M_look_72 : decode prog_6_method_24_code 72 = .ok (.goto 4, 3) := by decide +kernel
theorem d_M_look_75 : decode prog_6_method_24_code 75 = .ok (.iconst 0, 1) := by decide +kernel
theorem d_M_look_76 : decode prog_6_method_24_code 76 = .ok (.istore_n 2, 1) := by decide +kernel
theorem d_M_look_77 : decode prog_6_method_24_code 77 = .ok (.iload_n 2, 1) := by decide +kernel
theorem d_M_look_78 : decode prog_6_method_24_code 78 = .ok (.ifCond .ne 22, 3) := by decide +kernel
theorem d_M_look_81 : decode prog_6_method_24_code 81 = .ok (.aload_n 0, 1) := by decide +kernel
theorem d_M_look_82 : decode prog_6_method_24_code 82 = .ok (.getfield 28, 3) := by decide +kernel
theorem d_M_look_85 : decode prog_6_method_24_code 85 = .ok (.bipush 36, 2) := by decide +kernel
theorem d_M_look_87 : decode prog_6_method_24_code 87 = .ok (.iload_n 1, 1) := by decide +kernel
theorem d_M_look_88 : decode prog_6_method_24_code 88 = .ok (.imul, 1) := by decide +kernel
theorem d_M_look_89 : decode prog_6_method_24_code 89 = .ok (.iconst 5, 1) := by decide +kernel
theorem d_M_look_90 : decode prog_6_method_24_code 90 = .ok (.iadd, 1) := by decide +kernel
theorem d_M_look_91 : decode prog_6_method_24_code 91 = .ok (.iaload, 1) := by decide +kernel
theorem d_M_look_92 : decode prog_6_method_24_code 92 = .ok (.iconst 4, 1) := by decide +kernel
theorem d_M_look_93 : decode prog_6_method_24_code 93 = .ok (.if_icmp .ne 7, 3) := by decide +kernel
theorem d_M_look_96 : decode prog_6_method_24_code 96 = .ok (.iconst 1, 1) := by decide +kernel
theorem d_M_look_97 : decode prog_6_method_24_code 97 = .ok (.goto 4, 3) := by decide +kernel
theorem d_M_look_100 : decode prog_6_method_24_code 100 = .ok (.iconst 0, 1) := by decide +kernel
theorem d_M_look_101 : decode prog_6_method_24_code 101 = .ok (.istore_n 3, 1) := by decide +kernel
theorem d_M_look_102 : decode prog_6_method_24_code 102 = .ok (.aload_n 0, 1) := by decide +kernel
theorem d_M_look_103 : decode prog_6_method_24_code 103 = .ok (.getfield 43, 3) := by decide +kernel
theorem d_M_look_106 : decode prog_6_method_24_code 106 = .ok (.iload_n 1, 1) := by decide +kernel
theorem d_M_look_107 : decode prog_6_method_24_code 107 = .ok (.dup2, 1) := by decide +kernel
theorem d_M_look_108 : decode prog_6_method_24_code 108 = .ok (.iaload, 1) := by decide +kernel
theorem d_M_look_109 : decode prog_6_method_24_code 109 = .ok (.iload_n 2, 1) := by decide +kernel
theorem d_M_look_110 : decode prog_6_method_24_code 110 = .ok (.ifCond .eq 7, 3) := by decide +kernel
theorem d_M_look_113 : decode prog_6_method_24_code 113 = .ok (.iconst 1, 1) := by decide +kernel
theorem d_M_look_114 : decode prog_6_method_24_code 114 = .ok (.goto 4, 3) := by decide +kernel
theorem d_M_look_117 : decode prog_6_method_24_code 117 = .ok (.iconst 0, 1) := by decide +kernel
theorem d_M_look_118 : decode prog_6_method_24_code 118 = .ok (.iadd, 1) := by decide +kernel
theorem d_M_look_119 : decode prog_6_method_24_code 119 = .ok (.iastore, 1) := by decide +kernel
theorem d_M_look_120 : decode prog_6_method_24_code 120 = .ok (.aload_n 0, 1) := by decide +kernel
theorem d_M_look_121 : decode prog_6_method_24_code 121 = .ok (.getfield 46, 3) := by decide +kernel
theorem d_M_look_124 : decode prog_6_method_24_code 124 = .ok (.iload_n 1, 1) := by decide +kernel
theorem d_M_look_125 : decode prog_6_method_24_code 125 = .ok (.dup2, 1) := by decide +kernel
theorem d_M_look_126 : decode prog_6_method_24_code 126 = .ok (.iaload, 1) := by decide +kernel
theorem d_M_look_127 : decode prog_6_method_24_code 127 = .ok (.iload_n 3, 1) := by decide +kernel
theorem d_M_look_128 : decode prog_6_method_24_code 128 = .ok (.ifCond .eq 7, 3) := by decide +kernel
theorem d_M_look_131 : decode prog_6_method_24_code 131 = .ok (.iconst 1, 1) := by decide +kernel
theorem d_M_look_132 : decode prog_6_method_24_code 132 = .ok (.goto 4, 3) := by decide +kernel
theorem d_M_look_135 : decode prog_6_method_24_code 135 = .ok (.iconst 0, 1) := by decide +kernel
theorem d_M_look_136 : decode prog_6_method_24_code 136 = .ok (.iadd, 1) := by decide +kernel
theorem d_M_look_137 : decode prog_6_method_24_code 137 = .ok (.iastore, 1) := by decide +kernel
theorem d_M_look_138 : decode prog_6_method_24_code 138 = .ok (.iload_n 2, 1) := by decide +kernel
theorem d_M_look_139 : decode prog_6_method_24_code 139 = .ok (.ifCond .ne 7, 3) := by decide +kernel
theorem d_M_look_142 : decode prog_6_method_24_code 142 = .ok (.iload_n 3, 1) := by decide +kernel
theorem d_M_look_143 : decode prog_6_method_24_code 143 = .ok (.ifCond .eq 8, 3) := by decide +kernel
theorem d_M_look_146 : decode prog_6_method_24_code 146 = .ok (.aload_n 0, 1) := by decide +kernel
theorem d_M_look_147 : decode prog_6_method_24_code 147 = .ok (.iload_n 1, 1) := by decide +kernel
theorem d_M_look_148 : decode prog_6_method_24_code 148 = .ok (.invokevirtual 162, 3) := by decide +kernel
theorem d_M_look_151 : decode prog_6_method_24_code 151 = .ok (.iinc 1 1, 3) := by decide +kernel
theorem d_M_look_154 : decode prog_6_method_24_code 154 = .ok (.goto (-152), 3) := by decide +kernel
theorem d_M_look_157 : decode prog_6_method_24_code 157 = .ok (.return_, 1) := by decide +kernel
def b_M_look_151 (post : Option Value → Mm → Prop) (k2 : Kk) : Kk := (i_iinc 1 1 k2)
theorem t_M_look_151 {Z : Zt} {X0 : Mm} {post : Option Value → Mm → Prop} {k2 : Kk} (g : Good Z prog_6_method_24_code 4 "BusTelegramsModel" 1) (hq : RetZ Z true X0 0 0 post) (hr : (zM Z).sig.returnType = none) (hk2 : Snd Z 4 2 k2) : Snd Z 4 151 (b_M_look_151 post k2) := by
  unfold b_M_look_151
  exact (s_iinc g (by decide) d_M_look_151 (by decide) (s_goto g d_M_look_154 (by decide) hk2))
def b_M_look_146 (post : Option Value → Mm → Prop) (k2 : Kk) : Kk := (i_aload 0 (i_iload 1 (i_callV 1 4 w_M_drop (b_M_look_151 post k2))))
theorem t_M_look_146 {Z : Zt} {X0 : Mm} {post : Option Value → Mm → Prop} {k2 : Kk} (g : Good Z prog_6_method_24_code 4 "BusTelegramsModel" 1) (hq : RetZ Z true X0 0 0 post) (hr : (zM Z).sig.returnType = none) (hk2 : Snd Z 4 2 k2) : Snd Z 4 146 (b_M_look_146 post k2) := by
  unfold b_M_look_146
  exact (s_aload_n g d_M_look_146 rfl (s_iload_n g d_M_look_147 rfl (s_callV g (C_M_drop (zl Z)) (gin_V mw_755 mw_757 ms_29 mw_5 mw_758) hd_M_drop rfl (by decide) (by decide) (by decide) d_M_look_148 (t_M_look_151 g hq hr hk2))))
def b_M_look_136 (post : Option Value → Mm → Prop) (k2 : Kk) : Kk := (i_bin (fun x y => x + y) (i_ast (i_iload 2 (i_if (fun x y => x = y) (i_iload 3 (i_if (fun x y => x = y) (b_M_look_151 post k2) (b_M_look_146 post k2))) (b_M_look_146 post k2)))))
theorem t_M_look_136 {Z : Zt} {X0 : Mm} {post : Option Value → Mm → Prop} {k2 : Kk} (g : Good Z prog_6_method_24_code 4 "BusTelegramsModel" 1) (hq : RetZ Z true X0 0 0 post) (hr : (zM Z).sig.returnType = none) (hk2 : Snd Z 4 2 k2) : Snd Z 4 136 (b_M_look_136 post k2) := by
  unfold b_M_look_136
  exact (s_iadd g d_M_look_136 (s_iast g d_M_look_137 (s_iload_n g d_M_look_138 rfl (s_if_ne g d_M_look_139 (by decide) (t_M_look_146 g hq hr hk2) (s_iload_n g d_M_look_142 rfl (s_if_eq g d_M_look_143 (by decide) (t_M_look_151 g hq hr hk2) (t_M_look_146 g hq hr hk2)))))))
def b_M_look_118 (post : Option Value → Mm → Prop) (k2 : Kk) : Kk := (i_bin (fun x y => x + y) (i_ast (i_aload 0 (i_getR 4 13 (i_iload 1 (i_dup2 (i_ald 10 (i_iload 3 (i_if (fun x y => x = y) (i_push (.int 0) (b_M_look_136 post k2)) (i_push (.int 1) (b_M_look_136 post k2)))))))))))
theorem t_M_look_118 {Z : Zt} {X0 : Mm} {post : Option Value → Mm → Prop} {k2 : Kk} (g : Good Z prog_6_method_24_code 4 "BusTelegramsModel" 1) (hq : RetZ Z true X0 0 0 post) (hr : (zM Z).sig.returnType = none) (hk2 : Snd Z 4 2 k2) : Snd Z 4 118 (b_M_look_118 post k2) := by
  unfold b_M_look_118
  exact (s_iadd g d_M_look_118 (s_iast g d_M_look_119 (s_aload_n g d_M_look_120 rfl (s_getR g (c := 4) (j := 13) cok_4 (by decide) rfl mw_567 rfl d_M_look_121 (s_iload_n g d_M_look_124 rfl (s_dup2 g d_M_look_125 (s_iald g d_M_look_126 (s_iload_n g d_M_look_127 rfl (s_if_eq g d_M_look_128 (by decide) (s_push_iconst g d_M_look_135 (by decide) (t_M_look_136 g hq hr hk2)) (s_push_iconst g d_M_look_131 (by decide) (s_goto g d_M_look_132 (by decide) (t_M_look_136 g hq hr hk2))))))))))))
def b_M_look_101 (post : Option Value → Mm → Prop) (k2 : Kk) : Kk := (i_istore 3 (i_aload 0 (i_getR 4 12 (i_iload 1 (i_dup2 (i_ald 10 (i_iload 2 (i_if (fun x y => x = y) (i_push (.int 0) (b_M_look_118 post k2)) (i_push (.int 1) (b_M_look_118 post k2))))))))))
theorem t_M_look_101 {Z : Zt} {X0 : Mm} {post : Option Value → Mm → Prop} {k2 : Kk} (g : Good Z prog_6_method_24_code 4 "BusTelegramsModel" 1) (hq : RetZ Z true X0 0 0 post) (hr : (zM Z).sig.returnType = none) (hk2 : Snd Z 4 2 k2) : Snd Z 4 101 (b_M_look_101 post k2) := by
  unfold b_M_look_101
  exact (s_istore_n g (by decide) d_M_look_101 rfl (s_aload_n g d_M_look_102 rfl (s_getR g (c := 4) (j := 12) cok_4 (by decide) rfl mw_566 rfl d_M_look_103 (s_iload_n g d_M_look_106 rfl (s_dup2 g d_M_look_107 (s_iald g d_M_look_108 (s_iload_n g d_M_look_109 rfl (s_if_eq g d_M_look_110 (by decide) (s_push_iconst g d_M_look_117 (by decide) (t_M_look_118 g hq hr hk2)) (s_push_iconst g d_M_look_113 (by decide) (s_goto g d_M_look_114 (by decide) (t_M_look_118 g hq hr hk2)))))))))))
def b_M_look_100 (post : Option Value → Mm → Prop) (k2 : Kk) : Kk := (i_push (.int 0) (b_M_look_101 post k2))
theorem t_M_look_100 {Z : Zt} {X0 : Mm} {post : Option Value → Mm → Prop} {k2 : Kk} (g : Good Z prog_6_method_24_code 4 "BusTelegramsModel" 1) (hq : RetZ Z true X0 0 0 post) (hr : (zM Z).sig.returnType = none) (hk2 : Snd Z 4 2 k2) : Snd Z 4 100 (b_M_look_100 post k2) := by
  unfold b_M_look_100
  exact (s_push_iconst g d_M_look_100 (by decide) (t_M_look_101 g hq hr hk2))
def b_M_look_76 (post : Option Value → Mm → Prop) (k2 : Kk) : Kk := (i_istore 2 (i_iload 2 (i_if (fun x y => x = y) (i_aload 0 (i_getR 4 7 (i_push (.int 36) (i_iload 1 (i_bin (fun x y => x * y) (i_push (.int 5) (i_bin (fun x y => x + y) (i_ald 10 (i_push (.int 4) (i_icmp (fun x y => x = y) (i_push (.int 1) (b_M_look_101 post k2)) (b_M_look_100 post k2))))))))))) (b_M_look_100 post k2))))
theorem t_M_look_76 {Z : Zt} {X0 : Mm} {post : Option Value → Mm → Prop} {k2 : Kk} (g : Good Z prog_6_method_24_code 4 "BusTelegramsModel" 1) (hq : RetZ Z true X0 0 0 post) (hr : (zM Z).sig.returnType = none) (hk2 : Snd Z 4 2 k2) : Snd Z 4 76 (b_M_look_76 post k2) := by
  unfold b_M_look_76
  exact (s_istore_n g (by decide) d_M_look_76 rfl (s_iload_n g d_M_look_77 rfl (s_if_ne g d_M_look_78 (by decide) (t_M_look_100 g hq hr hk2) (s_aload_n g d_M_look_81 rfl (s_getR g (c := 4) (j := 7) cok_4 (by decide) rfl mw_561 rfl d_M_look_82 (s_push_bipush g d_M_look_85 (by decide) (s_iload_n g d_M_look_87 rfl (s_imul g d_M_look_88 (s_push_iconst g d_M_look_89 (by decide) (s_iadd g d_M_look_90 (s_iald g d_M_look_91 (s_push_iconst g d_M_look_92 (by decide) (s_icmp_ne g d_M_look_93 (by decide) (t_M_look_100 g hq hr hk2) (s_push_iconst g d_M_look_96 (by decide) (s_goto g d_M_look_97 (by decide) (t_M_look_101 g hq hr hk2))))))))))))))))
def b_M_look_75 (post : Option Value → Mm → Prop) (k2 : Kk) : Kk := (i_push (.int 0) (b_M_look_76 post k2))
theorem t_M_look_75 {Z : Zt} {X0 : Mm} {post : Option Value → Mm → Prop} {k2 : Kk} (g : Good Z prog_6_method_24_code 4 "BusTelegramsModel" 1) (hq : RetZ Z true X0 0 0 post) (hr : (zM Z).sig.returnType = none) (hk2 : Snd Z 4 2 k2) : Snd Z 4 75 (b_M_look_75 post k2) := by
  unfold b_M_look_75
  exact (s_push_iconst g d_M_look_75 (by decide) (t_M_look_76 g hq hr hk2))
def b_M_look_2 (post : Option Value → Mm → Prop) : Kk := i_loop [0, 1] (fun k2 => (i_iload 1 (i_push (.int 8) (i_icmp (fun x y => y ≤ x) (i_vret post) (i_aload 0 (i_getR 4 11 (i_iload 1 (i_ald 10 (i_if (fun x y => x < y) (b_M_look_151 post k2) (i_aload 0 (i_getR 4 11 (i_iload 1 (i_ald 10 (i_aload 0 (i_getI 4 1 (i_push (.int 28) (i_bin (fun x y => x - y) (i_icmp (fun x y => x = y) (i_aload 0 (i_getR 4 11 (i_iload 1 (i_push (.int (-1)) (i_ast (i_aload 0 (i_getI 4 28 (i_if (fun x y => x = y) (b_M_look_75 post k2) (i_aload 0 (i_getI 4 29 (i_aload 0 (i_getI 4 1 (i_push (.int 28) (i_bin (fun x y => x - y) (i_icmp (fun x y => x = y) (i_aload 0 (i_getI 4 33 (i_push (.int 204) (i_icmp (fun x y => x = y) (i_push (.int 1) (b_M_look_76 post k2)) (b_M_look_75 post k2))))) (b_M_look_75 post k2)))))))))))))))) (b_M_look_151 post k2)))))))))))))))))))
theorem t_M_look_2 {Z : Zt} {X0 : Mm} {post : Option Value → Mm → Prop} (g : Good Z prog_6_method_24_code 4 "BusTelegramsModel" 1) (hq : RetZ Z true X0 0 0 post) (hr : (zM Z).sig.returnType = none) : Snd Z 4 2 (b_M_look_2 post) := by
  unfold b_M_look_2
  exact s_loop (fun k2 hk2 => (s_iload_n g d_M_look_2 rfl (s_push_bipush g d_M_look_3 (by decide) (s_icmp_ge g d_M_look_5 (by decide) (s_vret0 g hq hr d_M_look_157) (s_aload_n g d_M_look_8 rfl (s_getR g (c := 4) (j := 11) cok_4 (by decide) rfl mw_565 rfl d_M_look_9 (s_iload_n g d_M_look_12 rfl (s_iald g d_M_look_13 (s_if_lt g d_M_look_14 (by decide) (t_M_look_151 g hq hr hk2) (s_aload_n g d_M_look_17 rfl (s_getR g (c := 4) (j := 11) cok_4 (by decide) rfl mw_565 rfl d_M_look_18 (s_iload_n g d_M_look_21 rfl (s_iald g d_M_look_22 (s_aload_n g d_M_look_23 rfl (s_getI g (c := 4) (j := 1) cok_4 (by decide) rfl mw_555 rfl d_M_look_24 (s_push_bipush g d_M_look_27 (by decide) (s_isub g d_M_look_29 (s_icmp_ne g d_M_look_30 (by decide) (t_M_look_151 g hq hr hk2) (s_aload_n g d_M_look_33 rfl (s_getR g (c := 4) (j := 11) cok_4 (by decide) rfl mw_565 rfl d_M_look_34 (s_iload_n g d_M_look_37 rfl (s_push_iconst g d_M_look_38 (by decide) (s_iast g d_M_look_39 (s_aload_n g d_M_look_40 rfl (s_getI g (c := 4) (j := 28) cok_4 (by decide) rfl mw_582 rfl d_M_look_41 (s_if_eq g d_M_look_44 (by decide) (t_M_look_75 g hq hr hk2) (s_aload_n g d_M_look_47 rfl (s_getI g (c := 4) (j := 29) cok_4 (by decide) rfl mw_583 rfl d_M_look_48 (s_aload_n g d_M_look_51 rfl (s_getI g (c := 4) (j := 1) cok_4 (by decide) rfl mw_555 rfl d_M_look_52 (s_push_bipush g d_M_look_55 (by decide) (s_isub g d_M_look_57 (s_icmp_ne g d_M_look_58 (by decide) (t_M_look_75 g hq hr hk2) (s_aload_n g d_M_look_61 rfl (s_getI g (c := 4) (j := 33) cok_4 (by decide) rfl mw_587 rfl d_M_look_62 (s_push_sipush g d_M_look_65 (by decide) (s_icmp_ne g d_M_look_68 (by decide) (t_M_look_75 g hq hr hk2) (s_push_iconst g d_M_look_71 (by decide) (s_goto g d_M_look_72 (by decide) (t_M_look_76 g hq hr hk2))))))))))))))))))))))))))))))))))))))))
def b_M_look_0 (post : Option Value → Mm → Prop) : Kk := (i_push (.int 0) (i_istore 1 (b_M_look_2 post)))
theorem t_M_look_0 {Z : Zt} {X0 : Mm} {post : Option Value → Mm → Prop} (g : Good Z prog_6_method_24_code 4 "BusTelegramsModel" 1) (hq : RetZ Z true X0 0 0 post) (hr : (zM Z).sig.returnType = none) : Snd Z 4 0 (b_M_look_0 post) := by
  unfold b_M_look_0
  exact (s_push_iconst g d_M_look_0 (by decide) (s_istore_n g (by decide) d_M_look_1 rfl (t_M_look_2 g hq hr)))
def w_M_look : Wp := wpOf 4 (fun _ post => b_M_look_0 post)
theorem C_M_look (l : Launch) : MetS l ({ cls := "BusTelegramsModel", name := "look", desc := "()V" } : Jvm.MethodName) prog_6_method_24_code 4 none true 1 0 0 w_M_look := metS_of (by decide +kernel) (fun Z X0 post hZ g hq hr _ => t_M_look_0 g hq hr)
theorem hd_M_look : (({ cls := "BusTelegramsModel", name := "look", desc := "()V" } : Jvm.MethodName)).cls = "BusTelegramsModel" ∧ (({ cls := "BusTelegramsModel", name := "look", desc := "()V" } : Jvm.MethodName)).cls ≠ "java/lang/invoke/MethodHandle" ∧ (({ cls := "BusTelegramsModel", name := "look", desc := "()V" } : Jvm.MethodName)).cls ≠ "java/lang/invoke/VarHandle" ∧ (parseMethodDescriptor (({ cls := "BusTelegramsModel", name := "look", desc := "()V" } : Jvm.MethodName)).desc).map (fun d => d.parameters.length) = some 0 := ⟨rfl, by decide, by decide, by decide +kernel⟩
theorem d_M_bit_0 : decode prog_6_method_27_code 0 = .ok (.aload_n 0, 1) := by decide +kernel
theorem d_M_bit_1 : decode prog_6_method_27_code 1 = .ok (.iload_n 1, 1) := by decide +kernel
theorem d_M_bit_2 : decode prog_6_method_27_code 2 = .ok (.iconst 0, 1) := by decide +kernel
theorem d_M_bit_3 : decode prog_6_method_27_code 3 = .ok (.bipush 63, 2) := by decide +kernel
theorem d_M_bit_5 : decode prog_6_method_27_code 5 = .ok (.invokestatic 73, 3) := by decide +kernel
theorem d_M_bit_8 : decode prog_6_method_27_code 8 = .ok (.ifCond .eq 15, 3) := by decide +kernel
theorem d_M_bit_11 : decode prog_6_method_27_code 11 = .ok (.iload_n 1, 1) := by decide +kernel
theorem d_M_bit_12 : decode prog_6_method_27_code 12 = .ok (.aload_n 0, 1) := by decide +kernel
theorem d_M_bit_13 : decode prog_6_method_27_code 13 = .ok (.getfield 85, 3) := by decide +kernel
theorem d_M_bit_16 : decode prog_6_method_27_code 16 = .ok (.if_icmp .ge 7, 3) := by decide +kernel
theorem d_M_bit_19 : decode prog_6_method_27_code 19 = .ok (.iconst 0, 1) := by decide +kernel
theorem d_M_bit_20 : decode prog_6_method_27_code 20 = .ok (.goto 4, 3) := by decide +kernel
theorem d_M_bit_23 : decode prog_6_method_27_code 23 = .ok (.iconst 1, 1) := by decide +kernel
theorem d_M_bit_24 : decode prog_6_method_27_code 24 = .ok (.putfield 70, 3) := by decide +kernel
theorem d_M_bit_27 : decode prog_6_method_27_code 27 = .ok (.aload_n 0, 1) := by decide +kernel
theorem d_M_bit_28 : decode prog_6_method_27_code 28 = .ok (.getfield 70, 3) := by decide +kernel
theorem d_M_bit_31 : decode prog_6_method_27_code 31 = .ok (.ifCond .le 7, 3) := by decide +kernel
theorem d_M_bit_34 : decode prog_6_method_27_code 34 = .ok (.iconst 0, 1) := by decide +kernel
theorem d_M_bit_35 : decode prog_6_method_27_code 35 = .ok (.goto 17, 3) := by decide +kernel
theorem d_M_bit_38 : decode prog_6_method_27_code 38 = .ok (.aload_n 0, 1) := by decide +kernel
theorem d_M_bit_39 : decode prog_6_method_27_code 39 = .ok (.getfield 55, 3) := by decide +kernel
theorem d_M_bit_42 : decode prog_6_method_27_code 42 = .ok (.aload_n 0, 1) := by decide +kernel
theorem d_M_bit_43 : decode prog_6_method_27_code 43 = .ok (.getfield 85, 3) := by decide +kernel
theorem d_M_bit_46 : decode prog_6_method_27_code 46 = .ok (.iload_n 1, 1) := by decide +kernel
theorem d_M_bit_47 : decode prog_6_method_27_code 47 = .ok (.isub, 1) := by decide +kernel
theorem d_M_bit_48 : decode prog_6_method_27_code 48 = .ok (.bipush 64, 2) := by decide +kernel
theorem d_M_bit_50 : decode prog_6_method_27_code 50 = .ok (.irem, 1) := by decide +kernel
theorem d_M_bit_51 : decode prog_6_method_27_code 51 = .ok (.iaload, 1) := by decide +kernel
theorem d_M_bit_52 : decode prog_6_method_27_code 52 = .ok (.ireturn, 1) := by decide +kernel
def b_M_bit_52 (post : Option Value → Mm → Prop) : Kk := (i_iret post)
theorem t_M_bit_52 {Z : Zt} {X0 : Mm} {post : Option Value → Mm → Prop} (g : Good Z prog_6_method_27_code 2 "BusTelegramsModel" 1) (hq : RetZ Z true X0 0 0 post) (hr : (zM Z).sig.returnType = (some .int)) : Snd Z 2 52 (b_M_bit_52 post) := by
  unfold b_M_bit_52
  exact (s_iret0 g hq hr d_M_bit_52)
def b_M_bit_24 (post : Option Value → Mm → Prop) : Kk := (i_putI 4 0 (i_aload 0 (i_getI 4 0 (i_if (fun x y => x ≤ y) (i_aload 0 (i_getR 4 17 (i_aload 0 (i_getI 4 1 (i_iload 1 (i_bin (fun x y => x - y) (i_push (.int 64) (i_binz (fun x y => x - x / y * y) (i_ald 10 (b_M_bit_52 post)))))))))) (i_push (.int 0) (b_M_bit_52 post))))))
theorem t_M_bit_24 {Z : Zt} {X0 : Mm} {post : Option Value → Mm → Prop} (g : Good Z prog_6_method_27_code 2 "BusTelegramsModel" 1) (hq : RetZ Z true X0 0 0 post) (hr : (zM Z).sig.returnType = (some .int)) : Snd Z 2 24 (b_M_bit_24 post) := by
  unfold b_M_bit_24
  exact (s_putI g (c := 4) (j := 0) cok_4 (by decide) rfl rfl rfl mw_554 rfl d_M_bit_24 (s_aload_n g d_M_bit_27 rfl (s_getI g (c := 4) (j := 0) cok_4 (by decide) rfl mw_554 rfl d_M_bit_28 (s_if_le g d_M_bit_31 (by decide) (s_aload_n g d_M_bit_38 rfl (s_getR g (c := 4) (j := 17) cok_4 (by decide) rfl mw_571 rfl d_M_bit_39 (s_aload_n g d_M_bit_42 rfl (s_getI g (c := 4) (j := 1) cok_4 (by decide) rfl mw_555 rfl d_M_bit_43 (s_iload_n g d_M_bit_46 rfl (s_isub g d_M_bit_47 (s_push_bipush g d_M_bit_48 (by decide) (s_irem g d_M_bit_50 (s_iald g d_M_bit_51 (t_M_bit_52 g hq hr)))))))))) (s_push_iconst g d_M_bit_34 (by decide) (s_goto g d_M_bit_35 (by decide) (t_M_bit_52 g hq hr)))))))
def b_M_bit_23 (post : Option Value → Mm → Prop) : Kk := (i_push (.int 1) (b_M_bit_24 post))
theorem t_M_bit_23 {Z : Zt} {X0 : Mm} {post : Option Value → Mm → Prop} (g : Good Z prog_6_method_27_code 2 "BusTelegramsModel" 1) (hq : RetZ Z true X0 0 0 post) (hr : (zM Z).sig.returnType = (some .int)) : Snd Z 2 23 (b_M_bit_23 post) := by
  unfold b_M_bit_23
  exact (s_push_iconst g d_M_bit_23 (by decide) (t_M_bit_24 g hq hr))
def b_M_bit_0 (post : Option Value → Mm → Prop) : Kk := (i_aload 0 (i_iload 1 (i_push (.int 0) (i_push (.int 63) (i_callS 3 w_M_isIn (i_if (fun x y => x = y) (b_M_bit_23 post) (i_iload 1 (i_aload 0 (i_getI 4 1 (i_icmp (fun x y => y ≤ x) (b_M_bit_23 post) (i_push (.int 0) (b_M_bit_24 post))))))))))))
theorem t_M_bit_0 {Z : Zt} {X0 : Mm} {post : Option Value → Mm → Prop} (g : Good Z prog_6_method_27_code 2 "BusTelegramsModel" 1) (hq : RetZ Z true X0 0 0 post) (hr : (zM Z).sig.returnType = (some .int)) : Snd Z 2 0 (b_M_bit_0 post) := by
  unfold b_M_bit_0
  exact (s_aload_n g d_M_bit_0 rfl (s_iload_n g d_M_bit_1 rfl (s_push_iconst g d_M_bit_2 (by decide) (s_push_bipush g d_M_bit_3 (by decide) (s_callS g (C_M_isIn (zl Z)) (gin_S mw_668 mw_669 mw_5 mw_670) hd_M_isIn (by decide) (by decide) d_M_bit_5 (s_if_eq g d_M_bit_8 (by decide) (t_M_bit_23 g hq hr) (s_iload_n g d_M_bit_11 rfl (s_aload_n g d_M_bit_12 rfl (s_getI g (c := 4) (j := 1) cok_4 (by decide) rfl mw_555 rfl d_M_bit_13 (s_icmp_ge g d_M_bit_16 (by decide) (t_M_bit_23 g hq hr) (s_push_iconst g d_M_bit_19 (by decide) (s_goto g d_M_bit_20 (by decide) (t_M_bit_24 g hq hr)))))))))))))
def w_M_bit : Wp := wpOf 2 (fun _ post => b_M_bit_0 post)
theorem C_M_bit (l : Launch) : MetS l ({ cls := "BusTelegramsModel", name := "bit", desc := "(I)I" } : Jvm.MethodName) prog_6_method_27_code 2 (some .int) true 1 0 0 w_M_bit := metS_of (by decide +kernel) (fun Z X0 post hZ g hq hr _ => t_M_bit_0 g hq hr)
theorem hd_M_bit : (({ cls := "BusTelegramsModel", name := "bit", desc := "(I)I" } : Jvm.MethodName)).cls = "BusTelegramsModel" ∧ (({ cls := "BusTelegramsModel", name := "bit", desc := "(I)I" } : Jvm.MethodName)).cls ≠ "java/lang/invoke/MethodHandle" ∧ (({ cls := "BusTelegramsModel", name := "bit", desc := "(I)I" } : Jvm.MethodName)).cls ≠ "java/lang/invoke/VarHandle" ∧ (parseMethodDescriptor (({ cls := "BusTelegramsModel", name := "bit", desc := "(I)I" } : Jvm.MethodName)).desc).map (fun d => d.parameters.length) = some 1 := ⟨rfl, by decide, by decide, by decide +kernel⟩
theorem d_M_station_0 : decode prog_6_method_28_code 0 = .ok (.aload_n 0, 1) := by decide +kernel
theorem d_M_station_1 : decode prog_6_method_28_code 1 = .ok (.iload_n 1, 1) := by decide +kernel
theorem d_M_station_2 : decode prog_6_method_28_code 2 = .ok (.iconst 0, 1) := by decide +kernel
theorem d_M_station_3 : decode prog_6_method_28_code 3 = .ok (.bipush 7, 2) := by decide +kernel
theorem d_M_station_5 : decode prog_6_method_28_code 5 = .ok (.invokestatic 73, 3) := by decide +kernel
theorem d_M_station_8 : decode prog_6_method_28_code 8 = .ok (.ifCond .eq 16, 3) := by decide +kernel
theorem d_M_station_11 : decode prog_6_method_28_code 11 = .ok (.iload_n 2, 1) := by decide +kernel
theorem d_M_station_12 : decode prog_6_method_28_code 12 = .ok (.iconst 0, 1) := by decide +kernel
theorem d_M_station_13 : decode prog_6_method_28_code 13 = .ok (.iconst 5, 1) := by decide +kernel
theorem d_M_station_14 : decode prog_6_method_28_code 14 = .ok (.invokestatic 73, 3) := by decide +kernel
theorem d_M_station_17 : decode prog_6_method_28_code 17 = .ok (.ifCond .eq 7, 3) := by decide +kernel
theorem d_M_station_20 : decode prog_6_method_28_code 20 = .ok (.iconst 0, 1) := by decide +kernel
theorem d_M_station_21 : decode prog_6_method_28_code 21 = .ok (.goto 4, 3) := by decide +kernel
theorem d_M_station_24 : decode prog_6_method_28_code 24 = .ok (.iconst 1, 1) := by decide +kernel
theorem d_M_station_25 : decode prog_6_method_28_code 25 = .ok (.putfield 70, 3) := by decide +kernel
theorem d_M_station_28 : decode prog_6_method_28_code 28 = .ok (.aload_n 0, 1) := by decide +kernel
theorem d_M_station_29 : decode prog_6_method_28_code 29 = .ok (.getfield 70, 3) := by decide +kernel
theorem d_M_station_32 : decode prog_6_method_28_code 32 = .ok (.ifCond .le 5, 3) := by decide +kernel
theorem d_M_station_35 : decode prog_6_method_28_code 35 = .ok (.iconst 0, 1) := by decide +kernel
theorem d_M_station_36 : decode prog_6_method_28_code 36 = .ok (.ireturn, 1) := by decide +kernel
theorem d_M_station_37 : decode prog_6_method_28_code 37 = .ok (.iload_n 2, 1) := by decide +kernel
theorem d_M_station_38 : decode prog_6_method_28_code 38 = .ok (.tableswitch 85 0 4 #[34, 41, 56, 71, 78], 34) := by decide +kernel
theorem d_M_station_72 : decode prog_6_method_28_code 72 = .ok (.aload_n 0, 1) := by decide +kernel
theorem d_M_station_73 : decode prog_6_method_28_code 73 = .ok (.getfield 25, 3) := by decide +kernel
theorem d_M_station_76 : decode prog_6_method_28_code 76 = .ok (.iload_n 1, 1) := by decide +kernel
theorem d_M_station_77 : decode prog_6_method_28_code 77 = .ok (.iaload, 1) := by decide +kernel
theorem d_M_station_78 : decode prog_6_method_28_code 78 = .ok (.ireturn, 1) := by decide +kernel
theorem d_M_station_79 : decode prog_6_method_28_code 79 = .ok (.aload_n 0, 1) := by decide +kernel
theorem d_M_station_80 : decode prog_6_method_28_code 80 = .ok (.getfield 31, 3) := by decide +kernel
theorem d_M_station_83 : decode prog_6_method_28_code 83 = .ok (.iload_n 1, 1) := by decide +kernel
theorem d_M_station_84 : decode prog_6_method_28_code 84 = .ok (.iaload, 1) := by decide +kernel
theorem d_M_station_85 : decode prog_6_method_28_code 85 = .ok (.ifCond .lt 7, 3) := by decide +kernel
theorem d_M_station_88 : decode prog_6_method_28_code 88 = .ok (.iconst 1, 1) := by decide +kernel
theorem d_M_station_89 : decode prog_6_method_28_code 89 = .ok (.goto 4, 3) := by decide +kernel
theorem d_M_station_92 : decode prog_6_method_28_code 92 = .ok (.iconst 0, 1) := by decide +kernel
theorem d_M_station_93 : decode prog_6_method_28_code 93 = .ok (.ireturn, 1) := by decide +kernel
theorem d_M_station_94 : decode prog_6_method_28_code 94 = .ok (.aload_n 0, 1) := by decide +kernel
theorem d_M_station_95 : decode prog_6_method_28_code 95 = .ok (.getfield 40, 3) := by decide +kernel
theorem d_M_station_98 : decode prog_6_method_28_code 98 = .ok (.iload_n 1, 1) := by decide +kernel
theorem d_M_station_99 : decode prog_6_method_28_code 99 = .ok (.iaload, 1) := by decide +kernel
theorem d_M_station_100 : decode prog_6_method_28_code 100 = .ok (.ifCond .lt 7, 3) := by decide +kernel
theorem d_M_station_103 : decode prog_6_method_28_code 103 = .ok (.iconst 1, 1) := by decide +kernel
theorem d_M_station_104 : decode prog_6_method_28_code 104 = .ok (.goto 4, 3) := by decide +kernel
theorem d_M_station_107 : decode prog_6_method_28_code 107 = .ok (.iconst 0, 1) := by decide +kernel
theorem d_M_station_108 : decode prog_6_method_28_code 108 = .ok (.ireturn, 1) := by decide +kernel
theorem d_M_station_109 : decode prog_6_method_28_code 109 = .ok (.aload_n 0, 1) := by decide +kernel
theorem d_M_station_110 : decode prog_6_method_28_code 110 = .ok (.getfield 43, 3) := by decide +kernel
theorem d_M_station_113 : decode prog_6_method_28_code 113 = .ok (.iload_n 1, 1) := by decide +kernel
theorem d_M_station_114 : decode prog_6_method_28_code 114 = .ok (.iaload, 1) := by decide +kernel
theorem d_M_station_115 : decode prog_6_method_28_code 115 = .ok (.ireturn, 1) := by decide +kernel
theorem d_M_station_116 : decode prog_6_method_28_code 116 = .ok (.aload_n 0, 1) := by decide +kernel
theorem d_M_station_117 : decode prog_6_method_28_code 117 = .ok (.getfield 46, 3) := by decide +kernel
theorem d_M_station_120 : decode prog_6_method_28_code 120 = .ok (.iload_n 1, 1) := by decide +kernel
theorem d_M_station_121 : decode prog_6_method_28_code 121 = .ok (.iaload, 1) := by decide +kernel
theorem d_M_station_122 : decode prog_6_method_28_code 122 = .ok (.ireturn, 1) := by decide +kernel
theorem d_M_station_123 : decode prog_6_method_28_code 123 = .ok (.aload_n 0, 1) := by decide +kernel
theorem d_M_station_124 : decode prog_6_method_28_code 124 = .ok (.getfield 49, 3) := by decide +kernel
theorem d_M_station_127 : decode prog_6_method_28_code 127 = .ok (.iload_n 1, 1) := by decide +kernel
theorem d_M_station_128 : decode prog_6_method_28_code 128 = .ok (.iaload, 1) := by decide +kernel
theorem d_M_station_129 : decode prog_6_method_28_code 129 = .ok (.ireturn, 1) := by decide +kernel
def b_M_station_93 (post : Option Value → Mm → Prop) : Kk := (i_iret post)
theorem t_M_station_93 {Z : Zt} {X0 : Mm} {post : Option Value → Mm → Prop} (g : Good Z prog_6_method_28_code 3 "BusTelegramsModel" 1) (hq : RetZ Z true X0 0 0 post) (hr : (zM Z).sig.returnType = (some .int)) : Snd Z 3 93 (b_M_station_93 post) := by
  unfold b_M_station_93
  exact (s_iret0 g hq hr d_M_station_93)
def b_M_station_108 (post : Option Value → Mm → Prop) : Kk := (i_iret post)
theorem t_M_station_108 {Z : Zt} {X0 : Mm} {post : Option Value → Mm → Prop} (g : Good Z prog_6_method_28_code 3 "BusTelegramsModel" 1) (hq : RetZ Z true X0 0 0 post) (hr : (zM Z).sig.returnType = (some .int)) : Snd Z 3 108 (b_M_station_108 post) := by
  unfold b_M_station_108
  exact (s_iret0 g hq hr d_M_station_108)
def b_M_station_25 (post : Option Value → Mm → Prop) : Kk := (i_putI 4 0 (i_aload 0 (i_getI 4 0 (i_if (fun x y => x ≤ y) (i_iload 2 (i_tsw 0 [(i_aload 0 (i_getR 4 6 (i_iload 1 (i_ald 10 (i_iret post))))), (i_aload 0 (i_getR 4 8 (i_iload 1 (i_ald 10 (i_if (fun x y => x < y) (i_push (.int 0) (b_M_station_93 post)) (i_push (.int 1) (b_M_station_93 post))))))), (i_aload 0 (i_getR 4 11 (i_iload 1 (i_ald 10 (i_if (fun x y => x < y) (i_push (.int 0) (b_M_station_108 post)) (i_push (.int 1) (b_M_station_108 post))))))), (i_aload 0 (i_getR 4 12 (i_iload 1 (i_ald 10 (i_iret post))))), (i_aload 0 (i_getR 4 13 (i_iload 1 (i_ald 10 (i_iret post)))))] (i_aload 0 (i_getR 4 14 (i_iload 1 (i_ald 10 (i_iret post))))))) (i_push (.int 0) (i_iret post))))))
theorem t_M_station_25 {Z : Zt} {X0 : Mm} {post : Option Value → Mm → Prop} (g : Good Z prog_6_method_28_code 3 "BusTelegramsModel" 1) (hq : RetZ Z true X0 0 0 post) (hr : (zM Z).sig.returnType = (some .int)) : Snd Z 3 25 (b_M_station_25 post) := by
  unfold b_M_station_25
  exact (s_putI g (c := 4) (j := 0) cok_4 (by decide) rfl rfl rfl mw_554 rfl d_M_station_25 (s_aload_n g d_M_station_28 rfl (s_getI g (c := 4) (j := 0) cok_4 (by decide) rfl mw_554 rfl d_M_station_29 (s_if_le g d_M_station_32 (by decide) (s_iload_n g d_M_station_37 rfl (s_tsw g d_M_station_38 rfl (by decide) (tsw_cons (by decide) (s_aload_n g d_M_station_72 rfl (s_getR g (c := 4) (j := 6) cok_4 (by decide) rfl mw_560 rfl d_M_station_73 (s_iload_n g d_M_station_76 rfl (s_iald g d_M_station_77 (s_iret0 g hq hr d_M_station_78))))) (tsw_cons (by decide) (s_aload_n g d_M_station_79 rfl (s_getR g (c := 4) (j := 8) cok_4 (by decide) rfl mw_562 rfl d_M_station_80 (s_iload_n g d_M_station_83 rfl (s_iald g d_M_station_84 (s_if_lt g d_M_station_85 (by decide) (s_push_iconst g d_M_station_92 (by decide) (t_M_station_93 g hq hr)) (s_push_iconst g d_M_station_88 (by decide) (s_goto g d_M_station_89 (by decide) (t_M_station_93 g hq hr)))))))) (tsw_cons (by decide) (s_aload_n g d_M_station_94 rfl (s_getR g (c := 4) (j := 11) cok_4 (by decide) rfl mw_565 rfl d_M_station_95 (s_iload_n g d_M_station_98 rfl (s_iald g d_M_station_99 (s_if_lt g d_M_station_100 (by decide) (s_push_iconst g d_M_station_107 (by decide) (t_M_station_108 g hq hr)) (s_push_iconst g d_M_station_103 (by decide) (s_goto g d_M_station_104 (by decide) (t_M_station_108 g hq hr)))))))) (tsw_cons (by decide) (s_aload_n g d_M_station_109 rfl (s_getR g (c := 4) (j := 12) cok_4 (by decide) rfl mw_566 rfl d_M_station_110 (s_iload_n g d_M_station_113 rfl (s_iald g d_M_station_114 (s_iret0 g hq hr d_M_station_115))))) (tsw_cons (by decide) (s_aload_n g d_M_station_116 rfl (s_getR g (c := 4) (j := 13) cok_4 (by decide) rfl mw_567 rfl d_M_station_117 (s_iload_n g d_M_station_120 rfl (s_iald g d_M_station_121 (s_iret0 g hq hr d_M_station_122))))) tsw_nil))))) (s_aload_n g d_M_station_123 rfl (s_getR g (c := 4) (j := 14) cok_4 (by decide) rfl mw_568 rfl d_M_station_124 (s_iload_n g d_M_station_127 rfl (s_iald g d_M_station_128 (s_iret0 g hq hr d_M_station_129))))))) (s_push_iconst g d_M_station_35 (by decide) (s_iret0 g hq hr d_M_station_36))))))
def b_M_station_24 (post : Option Value → Mm → Prop) : Kk := (i_push (.int 1) (b_M_station_25 post))
theorem t_M_station_24 {Z : Zt} {X0 : Mm} {post : Option Value → Mm → Prop} (g : Good Z prog_6_method_28_code 3 "BusTelegramsModel" 1) (hq : RetZ Z true X0 0 0 post) (hr : (zM Z).sig.returnType = (some .int)) : Snd Z 3 24 (b_M_station_24 post) := by
  unfold b_M_station_24
  exact (s_push_iconst g d_M_station_24 (by decide) (t_M_station_25 g hq hr))
def b_M_station_0 (post : Option Value → Mm → Prop) : Kk := (i_aload 0 (i_iload 1 (i_push (.int 0) (i_push (.int 7) (i_callS 3 w_M_isIn (i_if (fun x y => x = y) (b_M_station_24 post) (i_iload 2 (i_push (.int 0) (i_push (.int 5) (i_callS 3 w_M_isIn (i_if (fun x y => x = y) (b_M_station_24 post) (i_push (.int 0) (b_M_station_25 post)))))))))))))
theorem t_M_station_0 {Z : Zt} {X0 : Mm} {post : Option Value → Mm → Prop} (g : Good Z prog_6_method_28_code 3 "BusTelegramsModel" 1) (hq : RetZ Z true X0 0 0 post) (hr : (zM Z).sig.returnType = (some .int)) : Snd Z 3 0 (b_M_station_0 post) := by
  unfold b_M_station_0
  exact (s_aload_n g d_M_station_0 rfl (s_iload_n g d_M_station_1 rfl (s_push_iconst g d_M_station_2 (by decide) (s_push_bipush g d_M_station_3 (by decide) (s_callS g (C_M_isIn (zl Z)) (gin_S mw_668 mw_669 mw_5 mw_670) hd_M_isIn (by decide) (by decide) d_M_station_5 (s_if_eq g d_M_station_8 (by decide) (t_M_station_24 g hq hr) (s_iload_n g d_M_station_11 rfl (s_push_iconst g d_M_station_12 (by decide) (s_push_iconst g d_M_station_13 (by decide) (s_callS g (C_M_isIn (zl Z)) (gin_S mw_668 mw_669 mw_5 mw_670) hd_M_isIn (by decide) (by decide) d_M_station_14 (s_if_eq g d_M_station_17 (by decide) (t_M_station_24 g hq hr) (s_push_iconst g d_M_station_20 (by decide) (s_goto g d_M_station_21 (by decide) (t_M_station_25 g hq hr))))))))))))))
def w_M_station : Wp := wpOf 3 (fun _ post => b_M_station_0 post)
theorem C_M_station (l : Launch) : MetS l ({ cls := "BusTelegramsModel", name := "station", desc := "(II)I" } : Jvm.MethodName) prog_6_method_28_code 3 (some .int) true 1 0 0 w_M_station := metS_of (by decide +kernel) (fun Z X0 post hZ g hq hr _ => t_M_station_0 g hq hr)
theorem hd_M_station : (({ cls := "BusTelegramsModel", name := "station", desc := "(II)I" } : Jvm.MethodName)).cls = "BusTelegramsModel" ∧ (({ cls := "BusTelegramsModel", name := "station", desc := "(II)I" } : Jvm.MethodName)).cls ≠ "java/lang/invoke/MethodHandle" ∧ (({ cls := "BusTelegramsModel", name := "station", desc := "(II)I" } : Jvm.MethodName)).cls ≠ "java/lang/invoke/VarHandle" ∧ (parseMethodDescriptor (({ cls := "BusTelegramsModel", name := "station", desc := "(II)I" } : Jvm.MethodName)).desc).map (fun d => d.parameters.length) = some 2 := ⟨rfl, by decide, by decide, by decide +kernel⟩
theorem d_M_heard_0 : decode prog_6_method_29_code 0 = .ok (.aload_n 0, 1) := by decide +kernel
theorem d_M_heard_1 : decode prog_6_method_29_code 1 = .ok (.iload_n 1, 1) := by decide +kernel
theorem d_M_heard_2 : decode prog_6_method_29_code 2 = .ok (.iconst 0, 1) := by decide +kernel
theorem d_M_heard_3 : decode prog_6_method_29_code 3 = .ok (.iconst 4, 1) := by decide +kernel
theorem d_M_heard_4 : decode prog_6_method_29_code 4 = .ok (.invokestatic 73, 3) := by decide +kernel
theorem d_M_heard_7 : decode prog_6_method_29_code 7 = .ok (.ifCond .eq 7, 3) := by decide +kernel
theorem d_M_heard_10 : decode prog_6_method_29_code 10 = .ok (.iconst 0, 1) := by decide +kernel
theorem d_M_heard_11 : decode prog_6_method_29_code 11 = .ok (.goto 4, 3) := by decide +kernel
theorem d_M_heard_14 : decode prog_6_method_29_code 14 = .ok (.iconst 1, 1) := by decide +kernel
theorem d_M_heard_15 : decode prog_6_method_29_code 15 = .ok (.putfield 70, 3) := by decide +kernel
theorem d_M_heard_18 : decode prog_6_method_29_code 18 = .ok (.aload_n 0, 1) := by decide +kernel
theorem d_M_heard_19 : decode prog_6_method_29_code 19 = .ok (.getfield 70, 3) := by decide +kernel
theorem d_M_heard_22 : decode prog_6_method_29_code 22 = .ok (.ifCond .le 7, 3) := by decide +kernel
theorem d_M_heard_25 : decode prog_6_method_29_code 25 = .ok (.iconst 0, 1) := by decide +kernel
theorem d_M_heard_26 : decode prog_6_method_29_code 26 = .ok (.goto 9, 3) := by decide +kernel
theorem d_M_heard_29 : decode prog_6_method_29_code 29 = .ok (.aload_n 0, 1) := by decide +kernel
theorem d_M_heard_30 : decode prog_6_method_29_code 30 = .ok (.getfield 61, 3) := by decide +kernel
theorem d_M_heard_33 : decode prog_6_method_29_code 33 = .ok (.iload_n 1, 1) := by decide +kernel
theorem d_M_heard_34 : decode prog_6_method_29_code 34 = .ok (.iaload, 1) := by decide +kernel
theorem d_M_heard_35 : decode prog_6_method_29_code 35 = .ok (.ireturn, 1) := by decide +kernel
def b_M_heard_35 (post : Option Value → Mm → Prop) : Kk := (i_iret post)
theorem t_M_heard_35 {Z : Zt} {X0 : Mm} {post : Option Value → Mm → Prop} (g : Good Z prog_6_method_29_code 2 "BusTelegramsModel" 1) (hq : RetZ Z true X0 0 0 post) (hr : (zM Z).sig.returnType = (some .int)) : Snd Z 2 35 (b_M_heard_35 post) := by
  unfold b_M_heard_35
  exact (s_iret0 g hq hr d_M_heard_35)
def b_M_heard_15 (post : Option Value → Mm → Prop) : Kk := (i_putI 4 0 (i_aload 0 (i_getI 4 0 (i_if (fun x y => x ≤ y) (i_aload 0 (i_getR 4 27 (i_iload 1 (i_ald 10 (b_M_heard_35 post))))) (i_push (.int 0) (b_M_heard_35 post))))))
theorem t_M_heard_15 {Z : Zt} {X0 : Mm} {post : Option Value → Mm → Prop} (g : Good Z prog_6_method_29_code 2 "BusTelegramsModel" 1) (hq : RetZ Z true X0 0 0 post) (hr : (zM Z).sig.returnType = (some .int)) : Snd Z 2 15 (b_M_heard_15 post) := by
  unfold b_M_heard_15
  exact (s_putI g (c := 4) (j := 0) cok_4 (by decide) rfl rfl rfl mw_554 rfl d_M_heard_15 (s_aload_n g d_M_heard_18 rfl (s_getI g (c := 4) (j := 0) cok_4 (by decide) rfl mw_554 rfl d_M_heard_19 (s_if_le g d_M_heard_22 (by decide) (s_aload_n g d_M_heard_29 rfl (s_getR g (c := 4) (j := 27) cok_4 (by decide) rfl mw_581 rfl d_M_heard_30 (s_iload_n g d_M_heard_33 rfl (s_iald g d_M_heard_34 (t_M_heard_35 g hq hr))))) (s_push_iconst g d_M_heard_25 (by decide) (s_goto g d_M_heard_26 (by decide) (t_M_heard_35 g hq hr)))))))
def b_M_heard_0 (post : Option Value → Mm → Prop) : Kk := (i_aload 0 (i_iload 1 (i_push (.int 0) (i_push (.int 4) (i_callS 3 w_M_isIn (i_if (fun x y => x = y) (i_push (.int 1) (b_M_heard_15 post)) (i_push (.int 0) (b_M_heard_15 post))))))))
theorem t_M_heard_0 {Z : Zt} {X0 : Mm} {post : Option Value → Mm → Prop} (g : Good Z prog_6_method_29_code 2 "BusTelegramsModel" 1) (hq : RetZ Z true X0 0 0 post) (hr : (zM Z).sig.returnType = (some .int)) : Snd Z 2 0 (b_M_heard_0 post) := by
  unfold b_M_heard_0
  exact (s_aload_n g d_M_heard_0 rfl (s_iload_n g d_M_heard_1 rfl (s_push_iconst g d_M_heard_2 (by decide) (s_push_iconst g d_M_heard_3 (by decide) (s_callS g (C_M_isIn (zl Z)) (gin_S mw_668 mw_669 mw_5 mw_670) hd_M_isIn (by decide) (by decide) d_M_heard_4 (s_if_eq g d_M_heard_7 (by decide) (s_push_iconst g d_M_heard_14 (by decide) (t_M_heard_15 g hq hr)) (s_push_iconst g d_M_heard_10 (by decide) (s_goto g d_M_heard_11 (by decide) (t_M_heard_15 g hq hr)))))))))
def w_M_heard : Wp := wpOf 2 (fun _ post => b_M_heard_0 post)
theorem C_M_heard (l : Launch) : MetS l ({ cls := "BusTelegramsModel", name := "heard", desc := "(I)I" } : Jvm.MethodName) prog_6_method_29_code 2 (some .int) true 1 0 0 w_M_heard := metS_of (by decide +kernel) (fun Z X0 post hZ g hq hr _ => t_M_heard_0 g hq hr)
theorem hd_M_heard : (({ cls := "BusTelegramsModel", name := "heard", desc := "(I)I" } : Jvm.MethodName)).cls = "BusTelegramsModel" ∧ (({ cls := "BusTelegramsModel", name := "heard", desc := "(I)I" } : Jvm.MethodName)).cls ≠ "java/lang/invoke/MethodHandle" ∧ (({ cls := "BusTelegramsModel", name := "heard", desc := "(I)I" } : Jvm.MethodName)).cls ≠ "java/lang/invoke/VarHandle" ∧ (parseMethodDescriptor (({ cls := "BusTelegramsModel", name := "heard", desc := "(I)I" } : Jvm.MethodName)).desc).map (fun d => d.parameters.length) = some 1 := ⟨rfl, by decide, by decide, by decide +kernel⟩
theorem d_M_byteAt_0 : decode prog_6_method_30_code 0 = .ok (.aload_n 0, 1) := by decide +kernel
theorem d_M_byteAt_1 : decode prog_6_method_30_code 1 = .ok (.aload_n 0, 1) := by decide +kernel
theorem d_M_byteAt_2 : decode prog_6_method_30_code 2 = .ok (.getfield 102, 3) := by decide +kernel
theorem d_M_byteAt_5 : decode prog_6_method_30_code 5 = .ok (.ifCond .eq 21, 3) := by decide +kernel
theorem d_M_byteAt_8 : decode prog_6_method_30_code 8 = .ok (.iload_n 1, 1) := by decide +kernel
theorem d_M_byteAt_9 : decode prog_6_method_30_code 9 = .ok (.iconst 0, 1) := by decide +kernel
theorem d_M_byteAt_10 : decode prog_6_method_30_code 10 = .ok (.aload_n 0, 1) := by decide +kernel
theorem d_M_byteAt_11 : decode prog_6_method_30_code 11 = .ok (.getfield 131, 3) := by decide +kernel
theorem d_M_byteAt_14 : decode prog_6_method_30_code 14 = .ok (.iconst 1, 1) := by decide +kernel
theorem d_M_byteAt_15 : decode prog_6_method_30_code 15 = .ok (.isub, 1) := by decide +kernel
theorem d_M_byteAt_16 : decode prog_6_method_30_code 16 = .ok (.invokestatic 73, 3) := by decide +kernel
theorem d_M_byteAt_19 : decode prog_6_method_30_code 19 = .ok (.ifCond .eq 7, 3) := by decide +kernel
theorem d_M_byteAt_22 : decode prog_6_method_30_code 22 = .ok (.iconst 0, 1) := by decide +kernel
theorem d_M_byteAt_23 : decode prog_6_method_30_code 23 = .ok (.goto 4, 3) := by decide +kernel
theorem d_M_byteAt_26 : decode prog_6_method_30_code 26 = .ok (.iconst 1, 1) := by decide +kernel
theorem d_M_byteAt_27 : decode prog_6_method_30_code 27 = .ok (.putfield 70, 3) := by decide +kernel
theorem d_M_byteAt_30 : decode prog_6_method_30_code 30 = .ok (.aload_n 0, 1) := by decide +kernel
theorem d_M_byteAt_31 : decode prog_6_method_30_code 31 = .ok (.getfield 70, 3) := by decide +kernel
theorem d_M_byteAt_34 : decode prog_6_method_30_code 34 = .ok (.ifCond .le 7, 3) := by decide +kernel
theorem d_M_byteAt_37 : decode prog_6_method_30_code 37 = .ok (.iconst 0, 1) := by decide +kernel
theorem d_M_byteAt_38 : decode prog_6_method_30_code 38 = .ok (.goto 9, 3) := by decide +kernel
theorem d_M_byteAt_41 : decode prog_6_method_30_code 41 = .ok (.aload_n 0, 1) := by decide +kernel
theorem d_M_byteAt_42 : decode prog_6_method_30_code 42 = .ok (.getfield 67, 3) := by decide +kernel
theorem d_M_byteAt_45 : decode prog_6_method_30_code 45 = .ok (.iload_n 1, 1) := by decide +kernel
theorem d_M_byteAt_46 : decode prog_6_method_30_code 46 = .ok (.iaload, 1) := by decide +kernel
theorem d_M_byteAt_47 : decode prog_6_method_30_code 47 = .ok (.ireturn, 1) := by decide +kernel
def b_M_byteAt_47 (post : Option Value → Mm → Prop) : Kk := (i_iret post)
theorem t_M_byteAt_47 {Z : Zt} {X0 : Mm} {post : Option Value → Mm → Prop} (g : Good Z prog_6_method_30_code 2 "BusTelegramsModel" 1) (hq : RetZ Z true X0 0 0 post) (hr : (zM Z).sig.returnType = (some .int)) : Snd Z 2 47 (b_M_byteAt_47 post) := by
  unfold b_M_byteAt_47
  exact (s_iret0 g hq hr d_M_byteAt_47)
def b_M_byteAt_27 (post : Option Value → Mm → Prop) : Kk := (i_putI 4 0 (i_aload 0 (i_getI 4 0 (i_if (fun x y => x ≤ y) (i_aload 0 (i_getR 4 34 (i_iload 1 (i_ald 10 (b_M_byteAt_47 post))))) (i_push (.int 0) (b_M_byteAt_47 post))))))
theorem t_M_byteAt_27 {Z : Zt} {X0 : Mm} {post : Option Value → Mm → Prop} (g : Good Z prog_6_method_30_code 2 "BusTelegramsModel" 1) (hq : RetZ Z true X0 0 0 post) (hr : (zM Z).sig.returnType = (some .int)) : Snd Z 2 27 (b_M_byteAt_27 post) := by
  unfold b_M_byteAt_27
  exact (s_putI g (c := 4) (j := 0) cok_4 (by decide) rfl rfl rfl mw_554 rfl d_M_byteAt_27 (s_aload_n g d_M_byteAt_30 rfl (s_getI g (c := 4) (j := 0) cok_4 (by decide) rfl mw_554 rfl d_M_byteAt_31 (s_if_le g d_M_byteAt_34 (by decide) (s_aload_n g d_M_byteAt_41 rfl (s_getR g (c := 4) (j := 34) cok_4 (by decide) rfl mw_588 rfl d_M_byteAt_42 (s_iload_n g d_M_byteAt_45 rfl (s_iald g d_M_byteAt_46 (t_M_byteAt_47 g hq hr))))) (s_push_iconst g d_M_byteAt_37 (by decide) (s_goto g d_M_byteAt_38 (by decide) (t_M_byteAt_47 g hq hr)))))))
def b_M_byteAt_26 (post : Option Value → Mm → Prop) : Kk := (i_push (.int 1) (b_M_byteAt_27 post))
theorem t_M_byteAt_26 {Z : Zt} {X0 : Mm} {post : Option Value → Mm → Prop} (g : Good Z prog_6_method_30_code 2 "BusTelegramsModel" 1) (hq : RetZ Z true X0 0 0 post) (hr : (zM Z).sig.returnType = (some .int)) : Snd Z 2 26 (b_M_byteAt_26 post) := by
  unfold b_M_byteAt_26
  exact (s_push_iconst g d_M_byteAt_26 (by decide) (t_M_byteAt_27 g hq hr))
def b_M_byteAt_0 (post : Option Value → Mm → Prop) : Kk := (i_aload 0 (i_aload 0 (i_getI 4 28 (i_if (fun x y => x = y) (b_M_byteAt_26 post) (i_iload 1 (i_push (.int 0) (i_aload 0 (i_getI 4 30 (i_push (.int 1) (i_bin (fun x y => x - y) (i_callS 3 w_M_isIn (i_if (fun x y => x = y) (b_M_byteAt_26 post) (i_push (.int 0) (b_M_byteAt_27 post))))))))))))))
theorem t_M_byteAt_0 {Z : Zt} {X0 : Mm} {post : Option Value → Mm → Prop} (g : Good Z prog_6_method_30_code 2 "BusTelegramsModel" 1) (hq : RetZ Z true X0 0 0 post) (hr : (zM Z).sig.returnType = (some .int)) : Snd Z 2 0 (b_M_byteAt_0 post) := by
  unfold b_M_byteAt_0
  exact (s_aload_n g d_M_byteAt_0 rfl (s_aload_n g d_M_byteAt_1 rfl (s_getI g (c := 4) (j := 28) cok_4 (by decide) rfl mw_582 rfl d_M_byteAt_2 (s_if_eq g d_M_byteAt_5 (by decide) (t_M_byteAt_26 g hq hr) (s_iload_n g d_M_byteAt_8 rfl (s_push_iconst g d_M_byteAt_9 (by decide) (s_aload_n g d_M_byteAt_10 rfl (s_getI g (c := 4) (j := 30) cok_4 (by decide) rfl mw_584 rfl d_M_byteAt_11 (s_push_iconst g d_M_byteAt_14 (by decide) (s_isub g d_M_byteAt_15 (s_callS g (C_M_isIn (zl Z)) (gin_S mw_668 mw_669 mw_5 mw_670) hd_M_isIn (by decide) (by decide) d_M_byteAt_16 (s_if_eq g d_M_byteAt_19 (by decide) (t_M_byteAt_26 g hq hr) (s_push_iconst g d_M_byteAt_22 (by decide) (s_goto g d_M_byteAt_23 (by decide) (t_M_byteAt_27 g hq hr)))))))))))))))
def w_M_byteAt : Wp := wpOf 2 (fun _ post => b_M_byteAt_0 post)
theorem C_M_byteAt (l : Launch) : MetS l ({ cls := "BusTelegramsModel", name := "byteAt", desc := "(I)I" } : Jvm.MethodName) prog_6_method_30_code 2 (some .int) true 1 0 0 w_M_byteAt := metS_of (by decide +kernel) (fun Z X0 post hZ g hq hr _ => t_M_byteAt_0 g hq hr)
theorem hd_M_byteAt : (({ cls := "BusTelegramsModel", name := "byteAt", desc := "(I)I" } : Jvm.MethodName)).cls = "BusTelegramsModel" ∧ (({ cls := "BusTelegramsModel", name := "byteAt", desc := "(I)I" } : Jvm.MethodName)).cls ≠ "java/lang/invoke/MethodHandle" ∧ (({ cls := "BusTelegramsModel", name := "byteAt", desc := "(I)I" } : Jvm.MethodName)).cls ≠ "java/lang/invoke/VarHandle" ∧ (parseMethodDescriptor (({ cls := "BusTelegramsModel", name := "byteAt", desc := "(I)I" } : Jvm.MethodName)).desc).map (fun d => d.parameters.length) = some 1 := ⟨rfl, by decide, by decide, by decide +kernel⟩
theorem d_M_pack_0 : decode prog_6_method_33_code 0 = .ok (.aload_n 0, 1) := by decide +kernel
theorem d_M_pack_1 : decode prog_6_method_33_code 1 = .ok (.iconst 0, 1) := by decide +kernel
theorem d_M_pack_2 : decode prog_6_method_33_code 2 = .ok (.putfield 70, 3) := by decide +kernel
theorem d_M_pack_5 : decode prog_6_method_33_code 5 = .ok (.dload_n 1, 1) := by decide +kernel
theorem d_M_pack_6 : decode prog_6_method_33_code 6 = .ok (.dload_n 1, 1) := by decide +kernel
theorem d_M_pack_7 : decode prog_6_method_33_code 7 = .ok (.dcmp .l, 1) := by decide +kernel
theorem d_M_pack_8 : decode prog_6_method_33_code 8 = .ok (.ifCond .eq 5, 3) := by decide +kernel
theorem d_M_pack_11 : decode prog_6_method_33_code 11 = .ok (.iconst 0, 1) := by decide +kernel
theorem d_M_pack_12 : decode prog_6_method_33_code 12 = .ok (.ireturn, 1) := by decide +kernel
theorem d_M_pack_13 : decode prog_6_method_33_code 13 = .ok (.dconst 1, 1) := by decide +kernel
theorem d_M_pack_14 : decode prog_6_method_33_code 14 = .ok (.dstore_n 3, 1) := by decide +kernel
theorem d_M_pack_15 : decode prog_6_method_33_code 15 = .ok (.iconst 0, 1) := by decide +kernel
theorem d_M_pack_16 : decode prog_6_method_33_code 16 = .ok (.istore 5, 2) := by decide +kernel
theorem d_M_pack_18 : decode prog_6_method_33_code 18 = .ok (.iload 5, 2) := by decide +kernel
theorem d_M_pack_20 : decode prog_6_method_33_code 20 = .ok (.bipush 16, 2) := by decide +kernel
theorem d_M_pack_22 : decode prog_6_method_33_code 22 = .ok (.if_icmp .ge 87, 3) := by decide +kernel
theorem d_M_pack_25 : decode prog_6_method_33_code 25 = .ok (.ldc2_w 182, 3) := by decide +kernel
theorem d_M_pack_28 : decode prog_6_method_33_code 28 = .ok (.dload_n 1, 1) := by decide +kernel
theorem d_M_pack_29 : decode prog_6_method_33_code 29 = .ok (.dmul, 1) := by decide +kernel
theorem d_M_pack_30 : decode prog_6_method_33_code 30 = .ok (.dload_n 3, 1) := by decide +kernel
theorem d_M_pack_31 : decode prog_6_method_33_code 31 = .ok (.ddiv, 1) := by decide +kernel
theorem d_M_pack_32 : decode prog_6_method_33_code 32 = .ok (.ldc2_w 184, 3) := by decide +kernel
theorem d_M_pack_35 : decode prog_6_method_33_code 35 = .ok (.dadd, 1) := by decide +kernel
theorem d_M_pack_36 : decode prog_6_method_33_code 36 = .ok (.dstore 6, 2) := by decide +kernel
theorem d_M_pack_38 : decode prog_6_method_33_code 38 = .ok (.dload 6, 2) := by decide +kernel
theorem d_M_pack_40 : decode prog_6_method_33_code 40 = .ok (.ldc2_w 186, 3) := by decide +kernel
theorem d_M_pack_43 : decode prog_6_method_33_code 43 = .ok (.dcmp .l, 1) := by decide +kernel
theorem d_M_pack_44 : decode prog_6_method_33_code 44 = .ok (.ifCond .lt 53, 3) := by decide +kernel
theorem d_M_pack_47 : decode prog_6_method_33_code 47 = .ok (.dload 6, 2) := by decide +kernel
theorem d_M_pack_49 : decode prog_6_method_33_code 49 = .ok (.ldc2_w 188, 3) := by decide +kernel
theorem d_M_pack_52 : decode prog_6_method_33_code 52 = .ok (.dcmp .g, 1) := by decide +kernel
theorem d_M_pack_53 : decode prog_6_method_33_code 53 = .ok (.ifCond .ge 44, 3) := by decide +kernel
theorem d_M_pack_56 : decode prog_6_method_33_code 56 = .ok (.dload 6, 2) := by decide +kernel
theorem d_M_pack_58 : decode prog_6_method_33_code 58 = .ok (.invokestatic 190, 3) := by decide +kernel
theorem d_M_pack_61 : decode prog_6_method_33_code 61 = .ok (.istore 8, 2) := by decide +kernel
theorem d_M_pack_63 : decode prog_6_method_33_code 63 = .ok (.iload 8, 2) := by decide +kernel
theorem d_M_pack_65 : decode prog_6_method_33_code 65 = .ok (.ifCond .ge 22, 3) := by decide +kernel
theorem d_M_pack_68 : decode prog_6_method_33_code 68 = .ok (.ldc 194, 2) := by decide +kernel
theorem d_M_pack_70 : decode prog_6_method_33_code 70 = .ok (.sipush 2048, 3) := by decide +kernel
theorem d_M_pack_73 : decode prog_6_method_33_code 73 = .ok (.iload 5, 2) := by decide +kernel
theorem d_M_pack_75 : decode prog_6_method_33_code 75 = .ok (.imul, 1) := by decide +kernel
theorem d_M_pack_76 : decode prog_6_method_33_code 76 = .ok (.iadd, 1) := by decide +kernel
theorem d_M_pack_77 : decode prog_6_method_33_code 77 = .ok (.iload 8, 2) := by decide +kernel
theorem d_M_pack_79 : decode prog_6_method_33_code 79 = .ok (.iadd, 1) := by decide +kernel
theorem d_M_pack_80 : decode prog_6_method_33_code 80 = .ok (.sipush 2048, 3) := by decide +kernel
theorem d_M_pack_83 : decode prog_6_method_33_code 83 = .ok (.iadd, 1) := by decide +kernel
theorem d_M_pack_84 : decode prog_6_method_33_code 84 = .ok (.goto 12, 3) := by decide +kernel
theorem d_M_pack_87 : decode prog_6_method_33_code 87 = .ok (.sipush 2048, 3) := by decide +kernel
theorem d_M_pack_90 : decode prog_6_method_33_code 90 = .ok (.iload 5, 2) := by decide +kernel
theorem d_M_pack_92 : decode prog_6_method_33_code 92 = .ok (.imul, 1) := by decide +kernel
theorem d_M_pack_93 : decode prog_6_method_33_code 93 = .ok (.iload 8, 2) := by decide +kernel
theorem d_M_pack_95 : decode prog_6_method_33_code 95 = .ok (.iadd, 1) := by decide +kernel
theorem d_M_pack_96 : decode prog_6_method_33_code 96 = .ok (.ireturn, 1) := by decide +kernel
theorem d_M_pack_97 : decode prog_6_method_33_code 97 = .ok (.dload_n 3, 1) := by decide +kernel
theorem d_M_pack_98 : decode prog_6_method_33_code 98 = .ok (.ldc2_w 195, 3) := by decide +kernel
theorem d_M_pack_101 : decode prog_6_method_33_code 101 = .ok (.dmul, 1) := by decide +kernel
theorem d_M_pack_102 : decode prog_6_method_33_code 102 = .ok (.dstore_n 3, 1) := by decide +kernel
theorem d_M_pack_103 : decode prog_6_method_33_code 103 = .ok (.iinc 5 1, 3) := by decide +kernel
theorem d_M_pack_106 : decode prog_6_method_33_code 106 = .ok (.goto (-88), 3) := by decide +kernel
theorem d_M_pack_109 : decode prog_6_method_33_code 109 = .ok (.dload_n 1, 1) := by decide +kernel
theorem d_M_pack_110 : decode prog_6_method_33_code 110 = .ok (.dconst 0, 1) := by decide +kernel
theorem d_M_pack_111 : decode prog_6_method_33_code 111 = .ok (.dcmp .g, 1) := by decide +kernel
theorem d_M_pack_112 : decode prog_6_method_33_code 112 = .ok (.ifCond .ge 8, 3) := by decide +kernel
theorem d_M_pack_115 : decode prog_6_method_33_code 115 = .ok (.ldc 197, 2) := by decide +kernel
theorem d_M_pack_117 : decode prog_6_method_33_code 117 = .ok (.goto 6, 3) := by decide +kernel
theorem d_M_pack_120 : decode prog_6_method_33_code 120 = .ok (.sipush 32767, 3) := by decide +kernel
theorem d_M_pack_123 : decode prog_6_method_33_code 123 = .ok (.ireturn, 1) := by decide +kernel
def b_M_pack_123 (post : Option Value → Mm → Prop) : Kk := (i_iret post)
theorem t_M_pack_123 {Z : Zt} {X0 : Mm} {post : Option Value → Mm → Prop} (g : Good Z prog_6_method_33_code 9 "BusTelegramsModel" 1) (hq : RetZ Z true X0 0 0 post) (hr : (zM Z).sig.returnType = (some .int)) : Snd Z 9 123 (b_M_pack_123 post) := by
  unfold b_M_pack_123
  exact (s_iret0 g hq hr d_M_pack_123)
def b_M_pack_97 (post : Option Value → Mm → Prop) (k18 : Kk) : Kk := (i_dload 3 (i_push (.double 4611686018427387904) (i_dbin FP.dmul (i_dstore 3 (i_iinc 5 1 k18)))))
theorem t_M_pack_97 {Z : Zt} {X0 : Mm} {post : Option Value → Mm → Prop} {k18 : Kk} (g : Good Z prog_6_method_33_code 9 "BusTelegramsModel" 1) (hq : RetZ Z true X0 0 0 post) (hr : (zM Z).sig.returnType = (some .int)) (hk18 : Snd Z 9 18 k18) : Snd Z 9 97 (b_M_pack_97 post k18) := by
  unfold b_M_pack_97
  exact (s_dload_n g d_M_pack_97 rfl (s_push_ldc2 g mw_791 d_M_pack_98 (s_dmul g d_M_pack_101 (s_dstore_n g (by decide) d_M_pack_102 rfl (s_iinc g (by decide) d_M_pack_103 (by decide) (s_goto g d_M_pack_106 (by decide) hk18))))))
def b_M_pack_96 (post : Option Value → Mm → Prop) : Kk := (i_iret post)
theorem t_M_pack_96 {Z : Zt} {X0 : Mm} {post : Option Value → Mm → Prop} (g : Good Z prog_6_method_33_code 9 "BusTelegramsModel" 1) (hq : RetZ Z true X0 0 0 post) (hr : (zM Z).sig.returnType = (some .int)) : Snd Z 9 96 (b_M_pack_96 post) := by
  unfold b_M_pack_96
  exact (s_iret0 g hq hr d_M_pack_96)
def b_M_pack_18 (post : Option Value → Mm → Prop) : Kk := i_loop [0, 1, 3, 5] (fun k18 => (i_iload 5 (i_push (.int 16) (i_icmp (fun x y => y ≤ x) (i_dload 1 (i_push (.double FP.dconst0) (i_dcmp .g (i_if (fun x y => y ≤ x) (i_push (.int 32767) (b_M_pack_123 post)) (i_push (.int 63488) (b_M_pack_123 post)))))) (i_push (.double 4636737291354636288) (i_dload 1 (i_dbin FP.dmul (i_dload 3 (i_dbin FP.ddiv (i_push (.double 4602678819172646912) (i_dbin FP.dadd (i_dstore 6 (i_dload 6 (i_push (.double 13880094051555868672) (i_dcmp .l (i_if (fun x y => x < y) (b_M_pack_97 post k18) (i_dload 6 (i_push (.double 4656722014701092864) (i_dcmp .g (i_if (fun x y => y ≤ x) (b_M_pack_97 post k18) (i_dload 6 (i_callS 1 w_M_whole (i_istore 8 (i_iload 8 (i_if (fun x y => y ≤ x) (i_push (.int 2048) (i_iload 5 (i_bin (fun x y => x * y) (i_iload 8 (i_bin (fun x y => x + y) (b_M_pack_96 post)))))) (i_push (.int 32768) (i_push (.int 2048) (i_iload 5 (i_bin (fun x y => x * y) (i_bin (fun x y => x + y) (i_iload 8 (i_bin (fun x y => x + y) (i_push (.int 2048) (i_bin (fun x y => x + y) (b_M_pack_96 post)))))))))))))))))))))))))))))))))))
theorem t_M_pack_18 {Z : Zt} {X0 : Mm} {post : Option Value → Mm → Prop} (g : Good Z prog_6_method_33_code 9 "BusTelegramsModel" 1) (hq : RetZ Z true X0 0 0 post) (hr : (zM Z).sig.returnType = (some .int)) : Snd Z 9 18 (b_M_pack_18 post) := by
  unfold b_M_pack_18
  exact s_loop (fun k18 hk18 => (s_iload g d_M_pack_18 (s_push_bipush g d_M_pack_20 (by decide) (s_icmp_ge g d_M_pack_22 (by decide) (s_dload_n g d_M_pack_109 rfl (s_push_dconst0 g d_M_pack_110 (s_dcmp g d_M_pack_111 (s_if_ge g d_M_pack_112 (by decide) (s_push_sipush g d_M_pack_120 (by decide) (t_M_pack_123 g hq hr)) (s_push_ldc g mw_792 d_M_pack_115 (s_goto g d_M_pack_117 (by decide) (t_M_pack_123 g hq hr))))))) (s_push_ldc2 g mw_783 d_M_pack_25 (s_dload_n g d_M_pack_28 rfl (s_dmul g d_M_pack_29 (s_dload_n g d_M_pack_30 rfl (s_ddiv g d_M_pack_31 (s_push_ldc2 g mw_784 d_M_pack_32 (s_dadd g d_M_pack_35 (s_dstore g (by decide) d_M_pack_36 (s_dload g d_M_pack_38 (s_push_ldc2 g mw_785 d_M_pack_40 (s_dcmp g d_M_pack_43 (s_if_lt g d_M_pack_44 (by decide) (t_M_pack_97 g hq hr hk18) (s_dload g d_M_pack_47 (s_push_ldc2 g mw_786 d_M_pack_49 (s_dcmp g d_M_pack_52 (s_if_ge g d_M_pack_53 (by decide) (t_M_pack_97 g hq hr hk18) (s_dload g d_M_pack_56 (s_callS g (C_M_whole (zl Z)) (gin_S mw_787 mw_788 mw_5 mw_789) hd_M_whole (by decide) (by decide) d_M_pack_58 (s_istore g (by decide) d_M_pack_61 (s_iload g d_M_pack_63 (s_if_ge g d_M_pack_65 (by decide) (s_push_sipush g d_M_pack_87 (by decide) (s_iload g d_M_pack_90 (s_imul g d_M_pack_92 (s_iload g d_M_pack_93 (s_iadd g d_M_pack_95 (t_M_pack_96 g hq hr)))))) (s_push_ldc g mw_790 d_M_pack_68 (s_push_sipush g d_M_pack_70 (by decide) (s_iload g d_M_pack_73 (s_imul g d_M_pack_75 (s_iadd g d_M_pack_76 (s_iload g d_M_pack_77 (s_iadd g d_M_pack_79 (s_push_sipush g d_M_pack_80 (by decide) (s_iadd g d_M_pack_83 (s_goto g d_M_pack_84 (by decide) (t_M_pack_96 g hq hr))))))))))))))))))))))))))))))))))))
def b_M_pack_0 (post : Option Value → Mm → Prop) : Kk := (i_aload 0 (i_push (.int 0) (i_putI 4 0 (i_dload 1 (i_dload 1 (i_dcmp .l (i_if (fun x y => x = y) (i_push (.double FP.dconst1) (i_dstore 3 (i_push (.int 0) (i_istore 5 (b_M_pack_18 post))))) (i_push (.int 0) (i_iret post)))))))))
theorem t_M_pack_0 {Z : Zt} {X0 : Mm} {post : Option Value → Mm → Prop} (g : Good Z prog_6_method_33_code 9 "BusTelegramsModel" 1) (hq : RetZ Z true X0 0 0 post) (hr : (zM Z).sig.returnType = (some .int)) : Snd Z 9 0 (b_M_pack_0 post) := by
  unfold b_M_pack_0
  exact (s_aload_n g d_M_pack_0 rfl (s_push_iconst g d_M_pack_1 (by decide) (s_putI g (c := 4) (j := 0) cok_4 (by decide) rfl rfl rfl mw_554 rfl d_M_pack_2 (s_dload_n g d_M_pack_5 rfl (s_dload_n g d_M_pack_6 rfl (s_dcmp g d_M_pack_7 (s_if_eq g d_M_pack_8 (by decide) (s_push_dconst1 g d_M_pack_13 (s_dstore_n g (by decide) d_M_pack_14 rfl (s_push_iconst g d_M_pack_15 (by decide) (s_istore g (by decide) d_M_pack_16 (t_M_pack_18 g hq hr))))) (s_push_iconst g d_M_pack_11 (by decide) (s_iret0 g hq hr d_M_pack_12)))))))))
def w_M_pack : Wp := wpOf 9 (fun _ post => b_M_pack_0 post)
theorem C_M_pack (l : Launch) : MetS l ({ cls := "BusTelegramsModel", name := "pack", desc := "(D)I" } : Jvm.MethodName) prog_6_method_33_code 9 (some .int) true 1 0 0 w_M_pack := metS_of (by decide +kernel) (fun Z X0 post hZ g hq hr _ => t_M_pack_0 g hq hr)
theorem hd_M_pack : (({ cls := "BusTelegramsModel", name := "pack", desc := "(D)I" } : Jvm.MethodName)).cls = "BusTelegramsModel" ∧ (({ cls := "BusTelegramsModel", name := "pack", desc := "(D)I" } : Jvm.MethodName)).cls ≠ "java/lang/invoke/MethodHandle" ∧ (({ cls := "BusTelegramsModel", name := "pack", desc := "(D)I" } : Jvm.MethodName)).cls ≠ "java/lang/invoke/VarHandle" ∧ (parseMethodDescriptor (({ cls := "BusTelegramsModel", name := "pack", desc := "(D)I" } : Jvm.MethodName)).desc).map (fun d => d.parameters.length) = some 1 := ⟨rfl, by decide, by decide, by decide +kernel⟩
theorem d_M_unpack_0 : decode prog_6_method_34_code 0 = .ok (.aload_n 0, 1) := by decide +kernel
theorem d_M_unpack_1 : decode prog_6_method_34_code 1 = .ok (.iload_n 1, 1) := by decide +kernel
theorem d_M_unpack_2 : decode prog_6_method_34_code 2 = .ok (.iconst 0, 1) := by decide +kernel
theorem d_M_unpack_3 : decode prog_6_method_34_code 3 = .ok (.ldc 77, 2) := by decide +kernel
theorem d_M_unpack_5 : decode prog_6_method_34_code 5 = .ok (.invokestatic 73, 3) := by decide +kernel
theorem d_M_unpack_8 : decode prog_6_method_34_code 8 = .ok (.ifCond .eq 7, 3) := by decide +kernel
theorem d_M_unpack_11 : decode prog_6_method_34_code 11 = .ok (.iconst 0, 1) := by decide +kernel
theorem d_M_unpack_12 : decode prog_6_method_34_code 12 = .ok (.goto 4, 3) := by decide +kernel
theorem d_M_unpack_15 : decode prog_6_method_34_code 15 = .ok (.iconst 1, 1) := by decide +kernel
theorem d_M_unpack_16 : decode prog_6_method_34_code 16 = .ok (.putfield 70, 3) := by decide +kernel
theorem d_M_unpack_19 : decode prog_6_method_34_code 19 = .ok (.aload_n 0, 1) := by decide +kernel
theorem d_M_unpack_20 : decode prog_6_method_34_code 20 = .ok (.getfield 70, 3) := by decide +kernel
theorem d_M_unpack_23 : decode prog_6_method_34_code 23 = .ok (.ifCond .le 5, 3) := by decide +kernel
theorem d_M_unpack_26 : decode prog_6_method_34_code 26 = .ok (.dconst 0, 1) := by decide +kernel
theorem d_M_unpack_27 : decode prog_6_method_34_code 27 = .ok (.dreturn, 1) := by decide +kernel
theorem d_M_unpack_28 : decode prog_6_method_34_code 28 = .ok (.iload_n 1, 1) := by decide +kernel
theorem d_M_unpack_29 : decode prog_6_method_34_code 29 = .ok (.sipush 2048, 3) := by decide +kernel
theorem d_M_unpack_32 : decode prog_6_method_34_code 32 = .ok (.irem, 1) := by decide +kernel
theorem d_M_unpack_33 : decode prog_6_method_34_code 33 = .ok (.iload_n 1, 1) := by decide +kernel
theorem d_M_unpack_34 : decode prog_6_method_34_code 34 = .ok (.ldc 194, 2) := by decide +kernel
theorem d_M_unpack_36 : decode prog_6_method_34_code 36 = .ok (.if_icmp .lt 9, 3) := by decide +kernel
theorem d_M_unpack_39 : decode prog_6_method_34_code 39 = .ok (.sipush 2048, 3) := by decide +kernel
theorem d_M_unpack_42 : decode prog_6_method_34_code 42 = .ok (.goto 4, 3) := by decide +kernel
theorem d_M_unpack_45 : decode prog_6_method_34_code 45 = .ok (.iconst 0, 1) := by decide +kernel
theorem d_M_unpack_46 : decode prog_6_method_34_code 46 = .ok (.isub, 1) := by decide +kernel
theorem d_M_unpack_47 : decode prog_6_method_34_code 47 = .ok (.istore_n 2, 1) := by decide +kernel
theorem d_M_unpack_48 : decode prog_6_method_34_code 48 = .ok (.iconst 1, 1) := by decide +kernel
theorem d_M_unpack_49 : decode prog_6_method_34_code 49 = .ok (.iload_n 1, 1) := by decide +kernel
theorem d_M_unpack_50 : decode prog_6_method_34_code 50 = .ok (.sipush 2048, 3) := by decide +kernel
theorem d_M_unpack_53 : decode prog_6_method_34_code 53 = .ok (.idiv, 1) := by decide +kernel
theorem d_M_unpack_54 : decode prog_6_method_34_code 54 = .ok (.bipush 16, 2) := by decide +kernel
theorem d_M_unpack_56 : decode prog_6_method_34_code 56 = .ok (.irem, 1) := by decide +kernel
theorem d_M_unpack_57 : decode prog_6_method_34_code 57 = .ok (.ishl, 1) := by decide +kernel
theorem d_M_unpack_58 : decode prog_6_method_34_code 58 = .ok (.istore_n 3, 1) := by decide +kernel
theorem d_M_unpack_59 : decode prog_6_method_34_code 59 = .ok (.iload_n 2, 1) := by decide +kernel
theorem d_M_unpack_60 : decode prog_6_method_34_code 60 = .ok (.iload_n 3, 1) := by decide +kernel
theorem d_M_unpack_61 : decode prog_6_method_34_code 61 = .ok (.imul, 1) := by decide +kernel
theorem d_M_unpack_62 : decode prog_6_method_34_code 62 = .ok (.i2d, 1) := by decide +kernel
theorem d_M_unpack_63 : decode prog_6_method_34_code 63 = .ok (.ldc2_w 182, 3) := by decide +kernel
theorem d_M_unpack_66 : decode prog_6_method_34_code 66 = .ok (.ddiv, 1) := by decide +kernel
theorem d_M_unpack_67 : decode prog_6_method_34_code 67 = .ok (.dreturn, 1) := by decide +kernel
def b_M_unpack_46 (post : Option Value → Mm → Prop) : Kk := (i_bin (fun x y => x - y) (i_istore 2 (i_push (.int 1) (i_iload 1 (i_push (.int 2048) (i_binz (fun x y => x / y) (i_push (.int 16) (i_binz (fun x y => x - x / y * y) (i_bin (fun x y => x <<< (y &&& 31)) (i_istore 3 (i_iload 2 (i_iload 3 (i_bin (fun x y => x * y) (i_i2d (i_push (.double 4636737291354636288) (i_dbin FP.ddiv (i_dret post)))))))))))))))))
theorem t_M_unpack_46 {Z : Zt} {X0 : Mm} {post : Option Value → Mm → Prop} (g : Good Z prog_6_method_34_code 4 "BusTelegramsModel" 1) (hq : RetZ Z true X0 0 0 post) (hr : (zM Z).sig.returnType = (some .double)) : Snd Z 4 46 (b_M_unpack_46 post) := by
  unfold b_M_unpack_46
  exact (s_isub g d_M_unpack_46 (s_istore_n g (by decide) d_M_unpack_47 rfl (s_push_iconst g d_M_unpack_48 (by decide) (s_iload_n g d_M_unpack_49 rfl (s_push_sipush g d_M_unpack_50 (by decide) (s_idiv g d_M_unpack_53 (s_push_bipush g d_M_unpack_54 (by decide) (s_irem g d_M_unpack_56 (s_ishl g d_M_unpack_57 (s_istore_n g (by decide) d_M_unpack_58 rfl (s_iload_n g d_M_unpack_59 rfl (s_iload_n g d_M_unpack_60 rfl (s_imul g d_M_unpack_61 (s_i2d g d_M_unpack_62 (s_push_ldc2 g mw_783 d_M_unpack_63 (s_ddiv g d_M_unpack_66 (s_dret0 g hq hr d_M_unpack_67)))))))))))))))))
def b_M_unpack_16 (post : Option Value → Mm → Prop) : Kk := (i_putI 4 0 (i_aload 0 (i_getI 4 0 (i_if (fun x y => x ≤ y) (i_iload 1 (i_push (.int 2048) (i_binz (fun x y => x - x / y * y) (i_iload 1 (i_push (.int 32768) (i_icmp (fun x y => x < y) (i_push (.int 0) (b_M_unpack_46 post)) (i_push (.int 2048) (b_M_unpack_46 post)))))))) (i_push (.double FP.dconst0) (i_dret post))))))
theorem t_M_unpack_16 {Z : Zt} {X0 : Mm} {post : Option Value → Mm → Prop} (g : Good Z prog_6_method_34_code 4 "BusTelegramsModel" 1) (hq : RetZ Z true X0 0 0 post) (hr : (zM Z).sig.returnType = (some .double)) : Snd Z 4 16 (b_M_unpack_16 post) := by
  unfold b_M_unpack_16
  exact (s_putI g (c := 4) (j := 0) cok_4 (by decide) rfl rfl rfl mw_554 rfl d_M_unpack_16 (s_aload_n g d_M_unpack_19 rfl (s_getI g (c := 4) (j := 0) cok_4 (by decide) rfl mw_554 rfl d_M_unpack_20 (s_if_le g d_M_unpack_23 (by decide) (s_iload_n g d_M_unpack_28 rfl (s_push_sipush g d_M_unpack_29 (by decide) (s_irem g d_M_unpack_32 (s_iload_n g d_M_unpack_33 rfl (s_push_ldc g mw_790 d_M_unpack_34 (s_icmp_lt g d_M_unpack_36 (by decide) (s_push_iconst g d_M_unpack_45 (by decide) (t_M_unpack_46 g hq hr)) (s_push_sipush g d_M_unpack_39 (by decide) (s_goto g d_M_unpack_42 (by decide) (t_M_unpack_46 g hq hr))))))))) (s_push_dconst0 g d_M_unpack_26 (s_dret0 g hq hr d_M_unpack_27))))))
def b_M_unpack_0 (post : Option Value → Mm → Prop) : Kk := (i_aload 0 (i_iload 1 (i_push (.int 0) (i_push (.int 65535) (i_callS 3 w_M_isIn (i_if (fun x y => x = y) (i_push (.int 1) (b_M_unpack_16 post)) (i_push (.int 0) (b_M_unpack_16 post))))))))
theorem t_M_unpack_0 {Z : Zt} {X0 : Mm} {post : Option Value → Mm → Prop} (g : Good Z prog_6_method_34_code 4 "BusTelegramsModel" 1) (hq : RetZ Z true X0 0 0 post) (hr : (zM Z).sig.returnType = (some .double)) : Snd Z 4 0 (b_M_unpack_0 post) := by
  unfold b_M_unpack_0
  exact (s_aload_n g d_M_unpack_0 rfl (s_iload_n g d_M_unpack_1 rfl (s_push_iconst g d_M_unpack_2 (by decide) (s_push_ldc g mw_671 d_M_unpack_3 (s_callS g (C_M_isIn (zl Z)) (gin_S mw_668 mw_669 mw_5 mw_670) hd_M_isIn (by decide) (by decide) d_M_unpack_5 (s_if_eq g d_M_unpack_8 (by decide) (s_push_iconst g d_M_unpack_15 (by decide) (t_M_unpack_16 g hq hr)) (s_push_iconst g d_M_unpack_11 (by decide) (s_goto g d_M_unpack_12 (by decide) (t_M_unpack_16 g hq hr)))))))))
def w_M_unpack : Wp := wpOf 4 (fun _ post => b_M_unpack_0 post)
theorem C_M_unpack (l : Launch) : MetS l ({ cls := "BusTelegramsModel", name := "unpack", desc := "(I)D" } : Jvm.MethodName) prog_6_method_34_code 4 (some .double) true 1 0 0 w_M_unpack := metS_of (by decide +kernel) (fun Z X0 post hZ g hq hr _ => t_M_unpack_0 g hq hr)
theorem hd_M_unpack : (({ cls := "BusTelegramsModel", name := "unpack", desc := "(I)D" } : Jvm.MethodName)).cls = "BusTelegramsModel" ∧ (({ cls := "BusTelegramsModel", name := "unpack", desc := "(I)D" } : Jvm.MethodName)).cls ≠ "java/lang/invoke/MethodHandle" ∧ (({ cls := "BusTelegramsModel", name := "unpack", desc := "(I)D" } : Jvm.MethodName)).cls ≠ "java/lang/invoke/VarHandle" ∧ (parseMethodDescriptor (({ cls := "BusTelegramsModel", name := "unpack", desc := "(I)D" } : Jvm.MethodName)).desc).map (fun d => d.parameters.length) = some 1 := ⟨rfl, by decide, by decide, by decide +kernel⟩
theorem d_M_send_0 : decode prog_6_method_8_code 0 = .ok (.aload_n 0, 1) := by decide +kernel
theorem d_M_send_1 : decode prog_6_method_8_code 1 = .ok (.iload_n 1, 1) := by decide +kernel
theorem d_M_send_2 : decode prog_6_method_8_code 2 = .ok (.iload_n 2, 1) := by decide +kernel
theorem d_M_send_3 : decode prog_6_method_8_code 3 = .ok (.iload_n 3, 1) := by decide +kernel
theorem d_M_send_4 : decode prog_6_method_8_code 4 = .ok (.iload 4, 2) := by decide +kernel
theorem d_M_send_6 : decode prog_6_method_8_code 6 = .ok (.iload 5, 2) := by decide +kernel
theorem d_M_send_8 : decode prog_6_method_8_code 8 = .ok (.invokestatic 78, 3) := by decide +kernel
theorem d_M_send_11 : decode prog_6_method_8_code 11 = .ok (.ifCond .eq 15, 3) := by decide +kernel
theorem d_M_send_14 : decode prog_6_method_8_code 14 = .ok (.iload 6, 2) := by decide +kernel
theorem d_M_send_16 : decode prog_6_method_8_code 16 = .ok (.iconst 0, 1) := by decide +kernel
theorem d_M_send_17 : decode prog_6_method_8_code 17 = .ok (.sipush 255, 3) := by decide +kernel
theorem d_M_send_20 : decode prog_6_method_8_code 20 = .ok (.invokestatic 73, 3) := by decide +kernel
theorem d_M_send_23 : decode prog_6_method_8_code 23 = .ok (.ifCond .ne 7, 3) := by decide +kernel
theorem d_M_send_26 : decode prog_6_method_8_code 26 = .ok (.iconst 1, 1) := by decide +kernel
theorem d_M_send_27 : decode prog_6_method_8_code 27 = .ok (.goto 19, 3) := by decide +kernel
theorem d_M_send_30 : decode prog_6_method_8_code 30 = .ok (.aload_n 0, 1) := by decide +kernel
theorem d_M_send_31 : decode prog_6_method_8_code 31 = .ok (.getfield 25, 3) := by decide +kernel
theorem d_M_send_34 : decode prog_6_method_8_code 34 = .ok (.iload_n 1, 1) := by decide +kernel
theorem d_M_send_35 : decode prog_6_method_8_code 35 = .ok (.iaload, 1) := by decide +kernel
theorem d_M_send_36 : decode prog_6_method_8_code 36 = .ok (.bipush 6, 2) := by decide +kernel
theorem d_M_send_38 : decode prog_6_method_8_code 38 = .ok (.if_icmp .ne 7, 3) := by decide +kernel
theorem d_M_send_41 : decode prog_6_method_8_code 41 = .ok (.iconst 2, 1) := by decide +kernel
theorem d_M_send_42 : decode prog_6_method_8_code 42 = .ok (.goto 4, 3) := by decide +kernel
theorem d_M_send_45 : decode prog_6_method_8_code 45 = .ok (.iconst 0, 1) := by decide +kernel
theorem d_M_send_46 : decode prog_6_method_8_code 46 = .ok (.putfield 70, 3) := by decide +kernel
theorem d_M_send_49 : decode prog_6_method_8_code 49 = .ok (.aload_n 0, 1) := by decide +kernel
theorem d_M_send_50 : decode prog_6_method_8_code 50 = .ok (.getfield 70, 3) := by decide +kernel
theorem d_M_send_53 : decode prog_6_method_8_code 53 = .ok (.ifCond .le 5, 3) := by decide +kernel
theorem d_M_send_56 : decode prog_6_method_8_code 56 = .ok (.iconst 0, 1) := by decide +kernel
theorem d_M_send_57 : decode prog_6_method_8_code 57 = .ok (.ireturn, 1) := by decide +kernel
theorem d_M_send_58 : decode prog_6_method_8_code 58 = .ok (.bipush 36, 2) := by decide +kernel
theorem d_M_send_60 : decode prog_6_method_8_code 60 = .ok (.iload_n 1, 1) := by decide +kernel
theorem d_M_send_61 : decode prog_6_method_8_code 61 = .ok (.imul, 1) := by decide +kernel
theorem d_M_send_62 : decode prog_6_method_8_code 62 = .ok (.bipush 6, 2) := by decide +kernel
theorem d_M_send_64 : decode prog_6_method_8_code 64 = .ok (.aload_n 0, 1) := by decide +kernel
theorem d_M_send_65 : decode prog_6_method_8_code 65 = .ok (.getfield 25, 3) := by decide +kernel
theorem d_M_send_68 : decode prog_6_method_8_code 68 = .ok (.iload_n 1, 1) := by decide +kernel
theorem d_M_send_69 : decode prog_6_method_8_code 69 = .ok (.iaload, 1) := by decide +kernel
theorem d_M_send_70 : decode prog_6_method_8_code 70 = .ok (.imul, 1) := by decide +kernel
theorem d_M_send_71 : decode prog_6_method_8_code 71 = .ok (.iadd, 1) := by decide +kernel
theorem d_M_send_72 : decode prog_6_method_8_code 72 = .ok (.istore 7, 2) := by decide +kernel
theorem d_M_send_74 : decode prog_6_method_8_code 74 = .ok (.aload_n 0, 1) := by decide +kernel
theorem d_M_send_75 : decode prog_6_method_8_code 75 = .ok (.getfield 28, 3) := by decide +kernel
theorem d_M_send_78 : decode prog_6_method_8_code 78 = .ok (.iload 7, 2) := by decide +kernel
theorem d_M_send_80 : decode prog_6_method_8_code 80 = .ok (.iload_n 2, 1) := by decide +kernel
theorem d_M_send_81 : decode prog_6_method_8_code 81 = .ok (.iastore, 1) := by decide +kernel
theorem d_M_send_82 : decode prog_6_method_8_code 82 = .ok (.aload_n 0, 1) := by decide +kernel
theorem d_M_send_83 : decode prog_6_method_8_code 83 = .ok (.getfield 28, 3) := by decide +kernel
theorem d_M_send_86 : decode prog_6_method_8_code 86 = .ok (.iload 7, 2) := by decide +kernel
theorem d_M_send_88 : decode prog_6_method_8_code 88 = .ok (.iconst 1, 1) := by decide +kernel
theorem d_M_send_89 : decode prog_6_method_8_code 89 = .ok (.iadd, 1) := by decide +kernel
theorem d_M_send_90 : decode prog_6_method_8_code 90 = .ok (.aload_n 0, 1) := by decide +kernel
theorem d_M_send_91 : decode prog_6_method_8_code 91 = .ok (.getfield 14, 3) := by decide +kernel
theorem d_M_send_94 : decode prog_6_method_8_code 94 = .ok (.iload_n 1, 1) := by decide +kernel
theorem d_M_send_95 : decode prog_6_method_8_code 95 = .ok (.iaload, 1) := by decide +kernel
theorem d_M_send_96 : decode prog_6_method_8_code 96 = .ok (.iastore, 1) := by decide +kernel
theorem d_M_send_97 : decode prog_6_method_8_code 97 = .ok (.aload_n 0, 1) := by decide +kernel
theorem d_M_send_98 : decode prog_6_method_8_code 98 = .ok (.getfield 28, 3) := by decide +kernel
theorem d_M_send_101 : decode prog_6_method_8_code 101 = .ok (.iload 7, 2) := by decide +kernel
theorem d_M_send_103 : decode prog_6_method_8_code 103 = .ok (.iconst 2, 1) := by decide +kernel
theorem d_M_send_104 : decode prog_6_method_8_code 104 = .ok (.iadd, 1) := by decide +kernel
theorem d_M_send_105 : decode prog_6_method_8_code 105 = .ok (.iload_n 3, 1) := by decide +kernel
theorem d_M_send_106 : decode prog_6_method_8_code 106 = .ok (.iastore, 1) := by decide +kernel
theorem d_M_send_107 : decode prog_6_method_8_code 107 = .ok (.aload_n 0, 1) := by decide +kernel
theorem d_M_send_108 : decode prog_6_method_8_code 108 = .ok (.getfield 28, 3) := by decide +kernel
theorem d_M_send_111 : decode prog_6_method_8_code 111 = .ok (.iload 7, 2) := by decide +kernel
theorem d_M_send_113 : decode prog_6_method_8_code 113 = .ok (.iconst 3, 1) := by decide +kernel
theorem d_M_send_114 : decode prog_6_method_8_code 114 = .ok (.iadd, 1) := by decide +kernel
theorem d_M_send_115 : decode prog_6_method_8_code 115 = .ok (.iload 4, 2) := by decide +kernel
theorem d_M_send_117 : decode prog_6_method_8_code 117 = .ok (.ifCond .eq 9, 3) := by decide +kernel
theorem d_M_send_120 : decode prog_6_method_8_code 120 = .ok (.sipush 128, 3) := by decide +kernel
theorem d_M_send_123 : decode prog_6_method_8_code 123 = .ok (.goto 4, 3) := by decide +kernel
theorem d_M_send_126 : decode prog_6_method_8_code 126 = .ok (.iconst 0, 1) := by decide +kernel
theorem d_M_send_127 : decode prog_6_method_8_code 127 = .ok (.iload 5, 2) := by decide +kernel
theorem d_M_send_129 : decode prog_6_method_8_code 129 = .ok (.iadd, 1) := by decide +kernel
theorem d_M_send_130 : decode prog_6_method_8_code 130 = .ok (.iconst 1, 1) := by decide +kernel
theorem d_M_send_131 : decode prog_6_method_8_code 131 = .ok (.isub, 1) := by decide +kernel
theorem d_M_send_132 : decode prog_6_method_8_code 132 = .ok (.iastore, 1) := by decide +kernel
theorem d_M_send_133 : decode prog_6_method_8_code 133 = .ok (.aload_n 0, 1) := by decide +kernel
theorem d_M_send_134 : decode prog_6_method_8_code 134 = .ok (.getfield 28, 3) := by decide +kernel
theorem d_M_send_137 : decode prog_6_method_8_code 137 = .ok (.iload 7, 2) := by decide +kernel
theorem d_M_send_139 : decode prog_6_method_8_code 139 = .ok (.iconst 4, 1) := by decide +kernel
theorem d_M_send_140 : decode prog_6_method_8_code 140 = .ok (.iadd, 1) := by decide +kernel
theorem d_M_send_141 : decode prog_6_method_8_code 141 = .ok (.iload 6, 2) := by decide +kernel
theorem d_M_send_143 : decode prog_6_method_8_code 143 = .ok (.iastore, 1) := by decide +kernel
theorem d_M_send_144 : decode prog_6_method_8_code 144 = .ok (.aload_n 0, 1) := by decide +kernel
theorem d_M_send_145 : decode prog_6_method_8_code 145 = .ok (.getfield 28, 3) := by decide +kernel
theorem d_M_send_148 : decode prog_6_method_8_code 148 = .ok (.iload 7, 2) := by decide +kernel
theorem d_M_send_150 : decode prog_6_method_8_code 150 = .ok (.iconst 5, 1) := by decide +kernel
theorem d_M_send_151 : decode prog_6_method_8_code 151 = .ok (.iadd, 1) := by decide +kernel
theorem d_M_send_152 : decode prog_6_method_8_code 152 = .ok (.iconst 0, 1) := by decide +kernel
theorem d_M_send_153 : decode prog_6_method_8_code 153 = .ok (.iastore, 1) := by decide +kernel
theorem d_M_send_154 : decode prog_6_method_8_code 154 = .ok (.aload_n 0, 1) := by decide +kernel
theorem d_M_send_155 : decode prog_6_method_8_code 155 = .ok (.getfield 25, 3) := by decide +kernel
theorem d_M_send_158 : decode prog_6_method_8_code 158 = .ok (.iload_n 1, 1) := by decide +kernel
theorem d_M_send_159 : decode prog_6_method_8_code 159 = .ok (.dup2, 1) := by decide +kernel
theorem d_M_send_160 : decode prog_6_method_8_code 160 = .ok (.iaload, 1) := by decide +kernel
theorem d_M_send_161 : decode prog_6_method_8_code 161 = .ok (.iconst 1, 1) := by decide +kernel
theorem d_M_send_162 : decode prog_6_method_8_code 162 = .ok (.iadd, 1) := by decide +kernel
theorem d_M_send_163 : decode prog_6_method_8_code 163 = .ok (.iastore, 1) := by decide +kernel
theorem d_M_send_164 : decode prog_6_method_8_code 164 = .ok (.aload_n 0, 1) := by decide +kernel
theorem d_M_send_165 : decode prog_6_method_8_code 165 = .ok (.getfield 25, 3) := by decide +kernel
theorem d_M_send_168 : decode prog_6_method_8_code 168 = .ok (.iload_n 1, 1) := by decide +kernel
theorem d_M_send_169 : decode prog_6_method_8_code 169 = .ok (.iaload, 1) := by decide +kernel
theorem d_M_send_170 : decode prog_6_method_8_code 170 = .ok (.ireturn, 1) := by decide +kernel
def b_M_send_127 (post : Option Value → Mm → Prop) : Kk := (i_iload 5 (i_bin (fun x y => x + y) (i_push (.int 1) (i_bin (fun x y => x - y) (i_ast (i_aload 0 (i_getR 4 7 (i_iload 7 (i_push (.int 4) (i_bin (fun x y => x + y) (i_iload 6 (i_ast (i_aload 0 (i_getR 4 7 (i_iload 7 (i_push (.int 5) (i_bin (fun x y => x + y) (i_push (.int 0) (i_ast (i_aload 0 (i_getR 4 6 (i_iload 1 (i_dup2 (i_ald 10 (i_push (.int 1) (i_bin (fun x y => x + y) (i_ast (i_aload 0 (i_getR 4 6 (i_iload 1 (i_ald 10 (i_iret post))))))))))))))))))))))))))))))))
theorem t_M_send_127 {Z : Zt} {X0 : Mm} {post : Option Value → Mm → Prop} (g : Good Z prog_6_method_8_code 8 "BusTelegramsModel" 2) (hq : RetZ Z true X0 0 0 post) (hr : (zM Z).sig.returnType = (some .int)) : Snd Z 8 127 (b_M_send_127 post) := by
  unfold b_M_send_127
  exact (s_iload g d_M_send_127 (s_iadd g d_M_send_129 (s_push_iconst g d_M_send_130 (by decide) (s_isub g d_M_send_131 (s_iast g d_M_send_132 (s_aload_n g d_M_send_133 rfl (s_getR g (c := 4) (j := 7) cok_4 (by decide) rfl mw_561 rfl d_M_send_134 (s_iload g d_M_send_137 (s_push_iconst g d_M_send_139 (by decide) (s_iadd g d_M_send_140 (s_iload g d_M_send_141 (s_iast g d_M_send_143 (s_aload_n g d_M_send_144 rfl (s_getR g (c := 4) (j := 7) cok_4 (by decide) rfl mw_561 rfl d_M_send_145 (s_iload g d_M_send_148 (s_push_iconst g d_M_send_150 (by decide) (s_iadd g d_M_send_151 (s_push_iconst g d_M_send_152 (by decide) (s_iast g d_M_send_153 (s_aload_n g d_M_send_154 rfl (s_getR g (c := 4) (j := 6) cok_4 (by decide) rfl mw_560 rfl d_M_send_155 (s_iload_n g d_M_send_158 rfl (s_dup2 g d_M_send_159 (s_iald g d_M_send_160 (s_push_iconst g d_M_send_161 (by decide) (s_iadd g d_M_send_162 (s_iast g d_M_send_163 (s_aload_n g d_M_send_164 rfl (s_getR g (c := 4) (j := 6) cok_4 (by decide) rfl mw_560 rfl d_M_send_165 (s_iload_n g d_M_send_168 rfl (s_iald g d_M_send_169 (s_iret0 g hq hr d_M_send_170))))))))))))))))))))))))))))))))
def b_M_send_46 (post : Option Value → Mm → Prop) : Kk := (i_putI 4 0 (i_aload 0 (i_getI 4 0 (i_if (fun x y => x ≤ y) (i_push (.int 36) (i_iload 1 (i_bin (fun x y => x * y) (i_push (.int 6) (i_aload 0 (i_getR 4 6 (i_iload 1 (i_ald 10 (i_bin (fun x y => x * y) (i_bin (fun x y => x + y) (i_istore 7 (i_aload 0 (i_getR 4 7 (i_iload 7 (i_iload 2 (i_ast (i_aload 0 (i_getR 4 7 (i_iload 7 (i_push (.int 1) (i_bin (fun x y => x + y) (i_aload 0 (i_getR 4 3 (i_iload 1 (i_ald 10 (i_ast (i_aload 0 (i_getR 4 7 (i_iload 7 (i_push (.int 2) (i_bin (fun x y => x + y) (i_iload 3 (i_ast (i_aload 0 (i_getR 4 7 (i_iload 7 (i_push (.int 3) (i_bin (fun x y => x + y) (i_iload 4 (i_if (fun x y => x = y) (i_push (.int 0) (b_M_send_127 post)) (i_push (.int 128) (b_M_send_127 post)))))))))))))))))))))))))))))))))))))))))) (i_push (.int 0) (i_iret post))))))
theorem t_M_send_46 {Z : Zt} {X0 : Mm} {post : Option Value → Mm → Prop} (g : Good Z prog_6_method_8_code 8 "BusTelegramsModel" 2) (hq : RetZ Z true X0 0 0 post) (hr : (zM Z).sig.returnType = (some .int)) : Snd Z 8 46 (b_M_send_46 post) := by
  unfold b_M_send_46
  exact (s_putI g (c := 4) (j := 0) cok_4 (by decide) rfl rfl rfl mw_554 rfl d_M_send_46 (s_aload_n g d_M_send_49 rfl (s_getI g (c := 4) (j := 0) cok_4 (by decide) rfl mw_554 rfl d_M_send_50 (s_if_le g d_M_send_53 (by decide) (s_push_bipush g d_M_send_58 (by decide) (s_iload_n g d_M_send_60 rfl (s_imul g d_M_send_61 (s_push_bipush g d_M_send_62 (by decide) (s_aload_n g d_M_send_64 rfl (s_getR g (c := 4) (j := 6) cok_4 (by decide) rfl mw_560 rfl d_M_send_65 (s_iload_n g d_M_send_68 rfl (s_iald g d_M_send_69 (s_imul g d_M_send_70 (s_iadd g d_M_send_71 (s_istore g (by decide) d_M_send_72 (s_aload_n g d_M_send_74 rfl (s_getR g (c := 4) (j := 7) cok_4 (by decide) rfl mw_561 rfl d_M_send_75 (s_iload g d_M_send_78 (s_iload_n g d_M_send_80 rfl (s_iast g d_M_send_81 (s_aload_n g d_M_send_82 rfl (s_getR g (c := 4) (j := 7) cok_4 (by decide) rfl mw_561 rfl d_M_send_83 (s_iload g d_M_send_86 (s_push_iconst g d_M_send_88 (by decide) (s_iadd g d_M_send_89 (s_aload_n g d_M_send_90 rfl (s_getR g (c := 4) (j := 3) cok_4 (by decide) rfl mw_557 rfl d_M_send_91 (s_iload_n g d_M_send_94 rfl (s_iald g d_M_send_95 (s_iast g d_M_send_96 (s_aload_n g d_M_send_97 rfl (s_getR g (c := 4) (j := 7) cok_4 (by decide) rfl mw_561 rfl d_M_send_98 (s_iload g d_M_send_101 (s_push_iconst g d_M_send_103 (by decide) (s_iadd g d_M_send_104 (s_iload_n g d_M_send_105 rfl (s_iast g d_M_send_106 (s_aload_n g d_M_send_107 rfl (s_getR g (c := 4) (j := 7) cok_4 (by decide) rfl mw_561 rfl d_M_send_108 (s_iload g d_M_send_111 (s_push_iconst g d_M_send_113 (by decide) (s_iadd g d_M_send_114 (s_iload g d_M_send_115 (s_if_eq g d_M_send_117 (by decide) (s_push_iconst g d_M_send_126 (by decide) (t_M_send_127 g hq hr)) (s_push_sipush g d_M_send_120 (by decide) (s_goto g d_M_send_123 (by decide) (t_M_send_127 g hq hr))))))))))))))))))))))))))))))))))))))))))) (s_push_iconst g d_M_send_56 (by decide) (s_iret0 g hq hr d_M_send_57))))))
def b_M_send_26 (post : Option Value → Mm → Prop) : Kk := (i_push (.int 1) (b_M_send_46 post))
theorem t_M_send_26 {Z : Zt} {X0 : Mm} {post : Option Value → Mm → Prop} (g : Good Z prog_6_method_8_code 8 "BusTelegramsModel" 2) (hq : RetZ Z true X0 0 0 post) (hr : (zM Z).sig.returnType = (some .int)) : Snd Z 8 26 (b_M_send_26 post) := by
  unfold b_M_send_26
  exact (s_push_iconst g d_M_send_26 (by decide) (s_goto g d_M_send_27 (by decide) (t_M_send_46 g hq hr)))
def b_M_send_0 (post : Option Value → Mm → Prop) : Kk := (i_aload 0 (i_iload 1 (i_iload 2 (i_iload 3 (i_iload 4 (i_iload 5 (i_callS 5 w_M_maySend (i_if (fun x y => x = y) (b_M_send_26 post) (i_iload 6 (i_push (.int 0) (i_push (.int 255) (i_callS 3 w_M_isIn (i_if (fun x y => x = y) (b_M_send_26 post) (i_aload 0 (i_getR 4 6 (i_iload 1 (i_ald 10 (i_push (.int 6) (i_icmp (fun x y => x = y) (i_push (.int 2) (b_M_send_46 post)) (i_push (.int 0) (b_M_send_46 post)))))))))))))))))))))
theorem t_M_send_0 {Z : Zt} {X0 : Mm} {post : Option Value → Mm → Prop} (g : Good Z prog_6_method_8_code 8 "BusTelegramsModel" 2) (hq : RetZ Z true X0 0 0 post) (hr : (zM Z).sig.returnType = (some .int)) : Snd Z 8 0 (b_M_send_0 post) := by
  unfold b_M_send_0
  exact (s_aload_n g d_M_send_0 rfl (s_iload_n g d_M_send_1 rfl (s_iload_n g d_M_send_2 rfl (s_iload_n g d_M_send_3 rfl (s_iload g d_M_send_4 (s_iload g d_M_send_6 (s_callS g (C_M_maySend (zl Z)) (gin_S mw_684 mw_685 mw_5 mw_686) hd_M_maySend (by decide) (by decide) d_M_send_8 (s_if_eq g d_M_send_11 (by decide) (t_M_send_26 g hq hr) (s_iload g d_M_send_14 (s_push_iconst g d_M_send_16 (by decide) (s_push_sipush g d_M_send_17 (by decide) (s_callS g (C_M_isIn (zl Z)) (gin_S mw_668 mw_669 mw_5 mw_670) hd_M_isIn (by decide) (by decide) d_M_send_20 (s_if_ne g d_M_send_23 (by decide) (s_aload_n g d_M_send_30 rfl (s_getR g (c := 4) (j := 6) cok_4 (by decide) rfl mw_560 rfl d_M_send_31 (s_iload_n g d_M_send_34 rfl (s_iald g d_M_send_35 (s_push_bipush g d_M_send_36 (by decide) (s_icmp_ne g d_M_send_38 (by decide) (s_push_iconst g d_M_send_45 (by decide) (t_M_send_46 g hq hr)) (s_push_iconst g d_M_send_41 (by decide) (s_goto g d_M_send_42 (by decide) (t_M_send_46 g hq hr))))))))) (t_M_send_26 g hq hr))))))))))))))
def w_M_send : Wp := wpOf 8 (fun _ post => b_M_send_0 post)
theorem C_M_send (l : Launch) : MetS l ({ cls := "BusTelegramsModel", name := "send", desc := "(IIIZII)I" } : Jvm.MethodName) prog_6_method_8_code 8 (some .int) true 2 0 0 w_M_send := metS_of (by decide +kernel) (fun Z X0 post hZ g hq hr _ => t_M_send_0 g hq hr)
theorem hd_M_send : (({ cls := "BusTelegramsModel", name := "send", desc := "(IIIZII)I" } : Jvm.MethodName)).cls = "BusTelegramsModel" ∧ (({ cls := "BusTelegramsModel", name := "send", desc := "(IIIZII)I" } : Jvm.MethodName)).cls ≠ "java/lang/invoke/MethodHandle" ∧ (({ cls := "BusTelegramsModel", name := "send", desc := "(IIIZII)I" } : Jvm.MethodName)).cls ≠ "java/lang/invoke/VarHandle" ∧ (parseMethodDescriptor (({ cls := "BusTelegramsModel", name := "send", desc := "(IIIZII)I" } : Jvm.MethodName)).desc).map (fun d => d.parameters.length) = some 6 := ⟨rfl, by decide, by decide, by decide +kernel⟩
theorem d_M_said_0 : decode prog_6_method_14_code 0 = .ok (.aload_n 0, 1) := by decide +kernel
theorem d_M_said_1 : decode prog_6_method_14_code 1 = .ok (.getfield 31, 3) := by decide +kernel
theorem d_M_said_4 : decode prog_6_method_14_code 4 = .ok (.iload_n 1, 1) := by decide +kernel
theorem d_M_said_5 : decode prog_6_method_14_code 5 = .ok (.iaload, 1) := by decide +kernel
theorem d_M_said_6 : decode prog_6_method_14_code 6 = .ok (.bipush 13, 2) := by decide +kernel
theorem d_M_said_8 : decode prog_6_method_14_code 8 = .ok (.irem, 1) := by decide +kernel
theorem d_M_said_9 : decode prog_6_method_14_code 9 = .ok (.bipush 10, 2) := by decide +kernel
theorem d_M_said_11 : decode prog_6_method_14_code 11 = .ok (.if_icmp .le 7, 3) := by decide +kernel
theorem d_M_said_14 : decode prog_6_method_14_code 14 = .ok (.iconst 1, 1) := by decide +kernel
theorem d_M_said_15 : decode prog_6_method_14_code 15 = .ok (.goto 29, 3) := by decide +kernel
theorem d_M_said_18 : decode prog_6_method_14_code 18 = .ok (.aload_n 0, 1) := by decide +kernel
theorem d_M_said_19 : decode prog_6_method_14_code 19 = .ok (.iload_n 1, 1) := by decide +kernel
theorem d_M_said_20 : decode prog_6_method_14_code 20 = .ok (.aload_n 0, 1) := by decide +kernel
theorem d_M_said_21 : decode prog_6_method_14_code 21 = .ok (.getfield 31, 3) := by decide +kernel
theorem d_M_said_24 : decode prog_6_method_14_code 24 = .ok (.iload_n 1, 1) := by decide +kernel
theorem d_M_said_25 : decode prog_6_method_14_code 25 = .ok (.iaload, 1) := by decide +kernel
theorem d_M_said_26 : decode prog_6_method_14_code 26 = .ok (.bipush 13, 2) := by decide +kernel
theorem d_M_said_28 : decode prog_6_method_14_code 28 = .ok (.idiv, 1) := by decide +kernel
theorem d_M_said_29 : decode prog_6_method_14_code 29 = .ok (.invokevirtual 96, 3) := by decide +kernel
theorem d_M_said_32 : decode prog_6_method_14_code 32 = .ok (.aload_n 0, 1) := by decide +kernel
theorem d_M_said_33 : decode prog_6_method_14_code 33 = .ok (.getfield 31, 3) := by decide +kernel
theorem d_M_said_36 : decode prog_6_method_14_code 36 = .ok (.iload_n 1, 1) := by decide +kernel
theorem d_M_said_37 : decode prog_6_method_14_code 37 = .ok (.iaload, 1) := by decide +kernel
theorem d_M_said_38 : decode prog_6_method_14_code 38 = .ok (.bipush 13, 2) := by decide +kernel
theorem d_M_said_40 : decode prog_6_method_14_code 40 = .ok (.irem, 1) := by decide +kernel
theorem d_M_said_41 : decode prog_6_method_14_code 41 = .ok (.invokestatic 99, 3) := by decide +kernel
theorem d_M_said_44 : decode prog_6_method_14_code 44 = .ok (.ireturn, 1) := by decide +kernel
def b_M_said_44 (post : Option Value → Mm → Prop) : Kk := (i_iret post)
theorem t_M_said_44 {Z : Zt} {X0 : Mm} {post : Option Value → Mm → Prop} (g : Good Z prog_6_method_14_code 2 "BusTelegramsModel" 2) (hq : RetZ Z true X0 0 0 post) (hr : (zM Z).sig.returnType = (some .int)) : Snd Z 2 44 (b_M_said_44 post) := by
  unfold b_M_said_44
  exact (s_iret0 g hq hr d_M_said_44)
def b_M_said_0 (post : Option Value → Mm → Prop) : Kk := (i_aload 0 (i_getR 4 8 (i_iload 1 (i_ald 10 (i_push (.int 13) (i_binz (fun x y => x - x / y * y) (i_push (.int 10) (i_icmp (fun x y => x ≤ y) (i_aload 0 (i_iload 1 (i_aload 0 (i_getR 4 8 (i_iload 1 (i_ald 10 (i_push (.int 13) (i_binz (fun x y => x / y) (i_callV 2 4 w_M_byteOf (i_aload 0 (i_getR 4 8 (i_iload 1 (i_ald 10 (i_push (.int 13) (i_binz (fun x y => x - x / y * y) (i_callS 2 w_M_bitOf (b_M_said_44 post))))))))))))))))) (i_push (.int 1) (b_M_said_44 post))))))))))
theorem t_M_said_0 {Z : Zt} {X0 : Mm} {post : Option Value → Mm → Prop} (g : Good Z prog_6_method_14_code 2 "BusTelegramsModel" 2) (hq : RetZ Z true X0 0 0 post) (hr : (zM Z).sig.returnType = (some .int)) : Snd Z 2 0 (b_M_said_0 post) := by
  unfold b_M_said_0
  exact (s_aload_n g d_M_said_0 rfl (s_getR g (c := 4) (j := 8) cok_4 (by decide) rfl mw_562 rfl d_M_said_1 (s_iload_n g d_M_said_4 rfl (s_iald g d_M_said_5 (s_push_bipush g d_M_said_6 (by decide) (s_irem g d_M_said_8 (s_push_bipush g d_M_said_9 (by decide) (s_icmp_le g d_M_said_11 (by decide) (s_aload_n g d_M_said_18 rfl (s_iload_n g d_M_said_19 rfl (s_aload_n g d_M_said_20 rfl (s_getR g (c := 4) (j := 8) cok_4 (by decide) rfl mw_562 rfl d_M_said_21 (s_iload_n g d_M_said_24 rfl (s_iald g d_M_said_25 (s_push_bipush g d_M_said_26 (by decide) (s_idiv g d_M_said_28 (s_callV g (C_M_byteOf (zl Z)) (gin_V mw_712 mw_714 ms_19 mw_5 mw_715) hd_M_byteOf rfl (by decide) (by decide) (by decide) d_M_said_29 (s_aload_n g d_M_said_32 rfl (s_getR g (c := 4) (j := 8) cok_4 (by decide) rfl mw_562 rfl d_M_said_33 (s_iload_n g d_M_said_36 rfl (s_iald g d_M_said_37 (s_push_bipush g d_M_said_38 (by decide) (s_irem g d_M_said_40 (s_callS g (C_M_bitOf (zl Z)) (gin_S mw_724 mw_725 mw_5 mw_726) hd_M_bitOf (by decide) (by decide) d_M_said_41 (t_M_said_44 g hq hr))))))))))))))))) (s_push_iconst g d_M_said_14 (by decide) (s_goto g d_M_said_15 (by decide) (t_M_said_44 g hq hr)))))))))))
def w_M_said : Wp := wpOf 2 (fun _ post => b_M_said_0 post)
theorem C_M_said (l : Launch) : MetS l ({ cls := "BusTelegramsModel", name := "said", desc := "(I)I" } : Jvm.MethodName) prog_6_method_14_code 2 (some .int) true 2 0 0 w_M_said := metS_of (by decide +kernel) (fun Z X0 post hZ g hq hr _ => t_M_said_0 g hq hr)
theorem hd_M_said : (({ cls := "BusTelegramsModel", name := "said", desc := "(I)I" } : Jvm.MethodName)).cls = "BusTelegramsModel" ∧ (({ cls := "BusTelegramsModel", name := "said", desc := "(I)I" } : Jvm.MethodName)).cls ≠ "java/lang/invoke/MethodHandle" ∧ (({ cls := "BusTelegramsModel", name := "said", desc := "(I)I" } : Jvm.MethodName)).cls ≠ "java/lang/invoke/VarHandle" ∧ (parseMethodDescriptor (({ cls := "BusTelegramsModel", name := "said", desc := "(I)I" } : Jvm.MethodName)).desc).map (fun d => d.parameters.length) = some 1 := ⟨rfl, by decide, by decide, by decide +kernel⟩
theorem d_M_hear_0 : decode prog_6_method_23_code 0 = .ok (.aload_n 0, 1) := by decide +kernel
theorem d_M_hear_1 : decode prog_6_method_23_code 1 = .ok (.getfield 137, 3) := by decide +kernel
theorem d_M_hear_4 : decode prog_6_method_23_code 4 = .ok (.ifCond .ne 14, 3) := by decide +kernel
theorem d_M_hear_7 : decode prog_6_method_23_code 7 = .ok (.iload_n 1, 1) := by decide +kernel
theorem d_M_hear_8 : decode prog_6_method_23_code 8 = .ok (.ifCond .ne 84, 3) := by decide +kernel
theorem d_M_hear_11 : decode prog_6_method_23_code 11 = .ok (.aload_n 0, 1) := by decide +kernel
theorem d_M_hear_12 : decode prog_6_method_23_code 12 = .ok (.invokevirtual 152, 3) := by decide +kernel
theorem d_M_hear_15 : decode prog_6_method_23_code 15 = .ok (.goto 77, 3) := by decide +kernel
theorem d_M_hear_18 : decode prog_6_method_23_code 18 = .ok (.aload_n 0, 1) := by decide +kernel
theorem d_M_hear_19 : decode prog_6_method_23_code 19 = .ok (.getfield 137, 3) := by decide +kernel
theorem d_M_hear_22 : decode prog_6_method_23_code 22 = .ok (.iconst 1, 1) := by decide +kernel
theorem d_M_hear_23 : decode prog_6_method_23_code 23 = .ok (.if_icmp .ne 11, 3) := by decide +kernel
theorem d_M_hear_26 : decode prog_6_method_23_code 26 = .ok (.aload_n 0, 1) := by decide +kernel
theorem d_M_hear_27 : decode prog_6_method_23_code 27 = .ok (.iload_n 1, 1) := by decide +kernel
theorem d_M_hear_28 : decode prog_6_method_23_code 28 = .ok (.invokevirtual 155, 3) := by decide +kernel
theorem d_M_hear_31 : decode prog_6_method_23_code 31 = .ok (.goto 61, 3) := by decide +kernel
theorem d_M_hear_34 : decode prog_6_method_23_code 34 = .ok (.iload_n 1, 1) := by decide +kernel
theorem d_M_hear_35 : decode prog_6_method_23_code 35 = .ok (.iconst 1, 1) := by decide +kernel
theorem d_M_hear_36 : decode prog_6_method_23_code 36 = .ok (.if_icmp .ne 33, 3) := by decide +kernel
theorem d_M_hear_39 : decode prog_6_method_23_code 39 = .ok (.aload_n 0, 1) := by decide +kernel
theorem d_M_hear_40 : decode prog_6_method_23_code 40 = .ok (.dup, 1) := by decide +kernel
theorem d_M_hear_41 : decode prog_6_method_23_code 41 = .ok (.getfield 140, 3) := by decide +kernel
theorem d_M_hear_44 : decode prog_6_method_23_code 44 = .ok (.iconst 1, 1) := by decide +kernel
theorem d_M_hear_45 : decode prog_6_method_23_code 45 = .ok (.iadd, 1) := by decide +kernel
theorem d_M_hear_46 : decode prog_6_method_23_code 46 = .ok (.putfield 140, 3) := by decide +kernel
theorem d_M_hear_49 : decode prog_6_method_23_code 49 = .ok (.aload_n 0, 1) := by decide +kernel
theorem d_M_hear_50 : decode prog_6_method_23_code 50 = .ok (.getfield 140, 3) := by decide +kernel
theorem d_M_hear_53 : decode prog_6_method_23_code 53 = .ok (.iconst 3, 1) := by decide +kernel
theorem d_M_hear_54 : decode prog_6_method_23_code 54 = .ok (.if_icmp .ne 38, 3) := by decide +kernel
theorem d_M_hear_57 : decode prog_6_method_23_code 57 = .ok (.aload_n 0, 1) := by decide +kernel
theorem d_M_hear_58 : decode prog_6_method_23_code 58 = .ok (.iconst 0, 1) := by decide +kernel
theorem d_M_hear_59 : decode prog_6_method_23_code 59 = .ok (.putfield 137, 3) := by decide +kernel
theorem d_M_hear_62 : decode prog_6_method_23_code 62 = .ok (.aload_n 0, 1) := by decide +kernel
theorem d_M_hear_63 : decode prog_6_method_23_code 63 = .ok (.invokevirtual 159, 3) := by decide +kernel
theorem d_M_hear_66 : decode prog_6_method_23_code 66 = .ok (.goto 26, 3) := by decide +kernel
theorem d_M_hear_69 : decode prog_6_method_23_code 69 = .ok (.aload_n 0, 1) := by decide +kernel
theorem d_M_hear_70 : decode prog_6_method_23_code 70 = .ok (.getfield 140, 3) := by decide +kernel
theorem d_M_hear_73 : decode prog_6_method_23_code 73 = .ok (.iconst 2, 1) := by decide +kernel
theorem d_M_hear_74 : decode prog_6_method_23_code 74 = .ok (.if_icmp .ne 10, 3) := by decide +kernel
theorem d_M_hear_77 : decode prog_6_method_23_code 77 = .ok (.aload_n 0, 1) := by decide +kernel
theorem d_M_hear_78 : decode prog_6_method_23_code 78 = .ok (.invokevirtual 149, 3) := by decide +kernel
theorem d_M_hear_81 : decode prog_6_method_23_code 81 = .ok (.goto 11, 3) := by decide +kernel
theorem d_M_hear_84 : decode prog_6_method_23_code 84 = .ok (.aload_n 0, 1) := by decide +kernel
theorem d_M_hear_85 : decode prog_6_method_23_code 85 = .ok (.invokevirtual 159, 3) := by decide +kernel
theorem d_M_hear_88 : decode prog_6_method_23_code 88 = .ok (.aload_n 0, 1) := by decide +kernel
theorem d_M_hear_89 : decode prog_6_method_23_code 89 = .ok (.invokevirtual 152, 3) := by decide +kernel
theorem d_M_hear_92 : decode prog_6_method_23_code 92 = .ok (.return_, 1) := by decide +kernel
def b_M_hear_92 (post : Option Value → Mm → Prop) : Kk := (i_vret post)
theorem t_M_hear_92 {Z : Zt} {X0 : Mm} {post : Option Value → Mm → Prop} (g : Good Z prog_6_method_23_code 2 "BusTelegramsModel" 2) (hq : RetZ Z true X0 0 0 post) (hr : (zM Z).sig.returnType = none) : Snd Z 2 92 (b_M_hear_92 post) := by
  unfold b_M_hear_92
  exact (s_vret0 g hq hr d_M_hear_92)
def b_M_hear_0 (post : Option Value → Mm → Prop) : Kk := (i_aload 0 (i_getI 4 18 (i_if (fun x y => x = y) (i_iload 1 (i_if (fun x y => x = y) (i_aload 0 (i_callV 0 4 w_M_first (b_M_hear_92 post))) (b_M_hear_92 post))) (i_aload 0 (i_getI 4 18 (i_push (.int 1) (i_icmp (fun x y => x = y) (i_aload 0 (i_iload 1 (i_callV 1 4 w_M_collect (b_M_hear_92 post)))) (i_iload 1 (i_push (.int 1) (i_icmp (fun x y => x = y) (i_aload 0 (i_dup (i_getI 4 19 (i_push (.int 1) (i_bin (fun x y => x + y) (i_putI 4 19 (i_aload 0 (i_getI 4 19 (i_push (.int 3) (i_icmp (fun x y => x = y) (i_aload 0 (i_push (.int 0) (i_putI 4 18 (i_aload 0 (i_callV 0 4 w_M_complete (b_M_hear_92 post)))))) (b_M_hear_92 post))))))))))) (i_aload 0 (i_getI 4 19 (i_push (.int 2) (i_icmp (fun x y => x = y) (i_aload 0 (i_callV 0 4 w_M_open (b_M_hear_92 post))) (i_aload 0 (i_callV 0 4 w_M_complete (i_aload 0 (i_callV 0 4 w_M_first (b_M_hear_92 post)))))))))))))))))))
theorem t_M_hear_0 {Z : Zt} {X0 : Mm} {post : Option Value → Mm → Prop} (g : Good Z prog_6_method_23_code 2 "BusTelegramsModel" 2) (hq : RetZ Z true X0 0 0 post) (hr : (zM Z).sig.returnType = none) : Snd Z 2 0 (b_M_hear_0 post) := by
  unfold b_M_hear_0
  exact (s_aload_n g d_M_hear_0 rfl (s_getI g (c := 4) (j := 18) cok_4 (by decide) rfl mw_572 rfl d_M_hear_1 (s_if_ne g d_M_hear_4 (by decide) (s_aload_n g d_M_hear_18 rfl (s_getI g (c := 4) (j := 18) cok_4 (by decide) rfl mw_572 rfl d_M_hear_19 (s_push_iconst g d_M_hear_22 (by decide) (s_icmp_ne g d_M_hear_23 (by decide) (s_iload_n g d_M_hear_34 rfl (s_push_iconst g d_M_hear_35 (by decide) (s_icmp_ne g d_M_hear_36 (by decide) (s_aload_n g d_M_hear_69 rfl (s_getI g (c := 4) (j := 19) cok_4 (by decide) rfl mw_573 rfl d_M_hear_70 (s_push_iconst g d_M_hear_73 (by decide) (s_icmp_ne g d_M_hear_74 (by decide) (s_aload_n g d_M_hear_84 rfl (s_callV g (C_M_complete (zl Z)) (gin_V mw_747 mw_749 ms_27 mw_5 mw_750) hd_M_complete rfl (by decide) (by decide) (by decide) d_M_hear_85 (s_aload_n g d_M_hear_88 rfl (s_callV g (C_M_first (zl Z)) (gin_V mw_735 mw_737 ms_24 mw_5 mw_738) hd_M_first rfl (by decide) (by decide) (by decide) d_M_hear_89 (t_M_hear_92 g hq hr))))) (s_aload_n g d_M_hear_77 rfl (s_callV g (C_M_open (zl Z)) (gin_V mw_739 mw_741 ms_25 mw_5 mw_742) hd_M_open rfl (by decide) (by decide) (by decide) d_M_hear_78 (s_goto g d_M_hear_81 (by decide) (t_M_hear_92 g hq hr)))))))) (s_aload_n g d_M_hear_39 rfl (s_dup g d_M_hear_40 (s_getI g (c := 4) (j := 19) cok_4 (by decide) rfl mw_573 rfl d_M_hear_41 (s_push_iconst g d_M_hear_44 (by decide) (s_iadd g d_M_hear_45 (s_putI g (c := 4) (j := 19) cok_4 (by decide) rfl rfl rfl mw_573 rfl d_M_hear_46 (s_aload_n g d_M_hear_49 rfl (s_getI g (c := 4) (j := 19) cok_4 (by decide) rfl mw_573 rfl d_M_hear_50 (s_push_iconst g d_M_hear_53 (by decide) (s_icmp_ne g d_M_hear_54 (by decide) (t_M_hear_92 g hq hr) (s_aload_n g d_M_hear_57 rfl (s_push_iconst g d_M_hear_58 (by decide) (s_putI g (c := 4) (j := 18) cok_4 (by decide) rfl rfl rfl mw_572 rfl d_M_hear_59 (s_aload_n g d_M_hear_62 rfl (s_callV g (C_M_complete (zl Z)) (gin_V mw_747 mw_749 ms_27 mw_5 mw_750) hd_M_complete rfl (by decide) (by decide) (by decide) d_M_hear_63 (s_goto g d_M_hear_66 (by decide) (t_M_hear_92 g hq hr)))))))))))))))))))) (s_aload_n g d_M_hear_26 rfl (s_iload_n g d_M_hear_27 rfl (s_callV g (C_M_collect (zl Z)) (gin_V mw_743 mw_745 ms_26 mw_5 mw_746) hd_M_collect rfl (by decide) (by decide) (by decide) d_M_hear_28 (s_goto g d_M_hear_31 (by decide) (t_M_hear_92 g hq hr))))))))) (s_iload_n g d_M_hear_7 rfl (s_if_ne g d_M_hear_8 (by decide) (t_M_hear_92 g hq hr) (s_aload_n g d_M_hear_11 rfl (s_callV g (C_M_first (zl Z)) (gin_V mw_735 mw_737 ms_24 mw_5 mw_738) hd_M_first rfl (by decide) (by decide) (by decide) d_M_hear_12 (s_goto g d_M_hear_15 (by decide) (t_M_hear_92 g hq hr)))))))))
def w_M_hear : Wp := wpOf 2 (fun _ post => b_M_hear_0 post)
theorem C_M_hear (l : Launch) : MetS l ({ cls := "BusTelegramsModel", name := "hear", desc := "(I)V" } : Jvm.MethodName) prog_6_method_23_code 2 none true 2 0 0 w_M_hear := metS_of (by decide +kernel) (fun Z X0 post hZ g hq hr _ => t_M_hear_0 g hq hr)
theorem hd_M_hear : (({ cls := "BusTelegramsModel", name := "hear", desc := "(I)V" } : Jvm.MethodName)).cls = "BusTelegramsModel" ∧ (({ cls := "BusTelegramsModel", name := "hear", desc := "(I)V" } : Jvm.MethodName)).cls ≠ "java/lang/invoke/MethodHandle" ∧ (({ cls := "BusTelegramsModel", name := "hear", desc := "(I)V" } : Jvm.MethodName)).cls ≠ "java/lang/invoke/VarHandle" ∧ (parseMethodDescriptor (({ cls := "BusTelegramsModel", name := "hear", desc := "(I)V" } : Jvm.MethodName)).desc).map (fun d => d.parameters.length) = some 1 := ⟨rfl, by decide, by decide, by decide +kernel⟩
theorem d_M_line_0 : decode prog_6_method_17_code 0 = .ok (.aload_n 0, 1) := by decide +kernel
theorem d_M_line_1 : decode prog_6_method_17_code 1 = .ok (.getfield 52, 3) := by decide +kernel
theorem d_M_line_4 : decode prog_6_method_17_code 4 = .ok (.aload_n 0, 1) := by decide +kernel
theorem d_M_line_5 : decode prog_6_method_17_code 5 = .ok (.getfield 85, 3) := by decide +kernel
theorem d_M_line_8 : decode prog_6_method_17_code 8 = .ok (.sipush 2048, 3) := by decide +kernel
theorem d_M_line_11 : decode prog_6_method_17_code 11 = .ok (.irem, 1) := by decide +kernel
theorem d_M_line_12 : decode prog_6_method_17_code 12 = .ok (.baload, 1) := by decide +kernel
theorem d_M_line_13 : decode prog_6_method_17_code 13 = .ok (.ifCond .eq 7, 3) := by decide +kernel
theorem d_M_line_16 : decode prog_6_method_17_code 16 = .ok (.iconst 0, 1) := by decide +kernel
theorem d_M_line_17 : decode prog_6_method_17_code 17 = .ok (.goto 4, 3) := by decide +kernel
theorem d_M_line_20 : decode prog_6_method_17_code 20 = .ok (.iconst 1, 1) := by decide +kernel
theorem d_M_line_21 : decode prog_6_method_17_code 21 = .ok (.istore_n 1, 1) := by decide +kernel
theorem d_M_line_22 : decode prog_6_method_17_code 22 = .ok (.aload_n 0, 1) := by decide +kernel
theorem d_M_line_23 : decode prog_6_method_17_code 23 = .ok (.dup, 1) := by decide +kernel
theorem d_M_line_24 : decode prog_6_method_17_code 24 = .ok (.getfield 82, 3) := by decide +kernel
theorem d_M_line_27 : decode prog_6_method_17_code 27 = .ok (.aload_n 0, 1) := by decide +kernel
theorem d_M_line_28 : decode prog_6_method_17_code 28 = .ok (.getfield 52, 3) := by decide +kernel
theorem d_M_line_31 : decode prog_6_method_17_code 31 = .ok (.aload_n 0, 1) := by decide +kernel
theorem d_M_line_32 : decode prog_6_method_17_code 32 = .ok (.getfield 85, 3) := by decide +kernel
theorem d_M_line_35 : decode prog_6_method_17_code 35 = .ok (.sipush 2048, 3) := by decide +kernel
theorem d_M_line_38 : decode prog_6_method_17_code 38 = .ok (.irem, 1) := by decide +kernel
theorem d_M_line_39 : decode prog_6_method_17_code 39 = .ok (.baload, 1) := by decide +kernel
theorem d_M_line_40 : decode prog_6_method_17_code 40 = .ok (.ifCond .eq 7, 3) := by decide +kernel
theorem d_M_line_43 : decode prog_6_method_17_code 43 = .ok (.iconst 1, 1) := by decide +kernel
theorem d_M_line_44 : decode prog_6_method_17_code 44 = .ok (.goto 4, 3) := by decide +kernel
theorem d_M_line_47 : decode prog_6_method_17_code 47 = .ok (.iconst 0, 1) := by decide +kernel
theorem d_M_line_48 : decode prog_6_method_17_code 48 = .ok (.isub, 1) := by decide +kernel
theorem d_M_line_49 : decode prog_6_method_17_code 49 = .ok (.putfield 82, 3) := by decide +kernel
theorem d_M_line_52 : decode prog_6_method_17_code 52 = .ok (.aload_n 0, 1) := by decide +kernel
theorem d_M_line_53 : decode prog_6_method_17_code 53 = .ok (.getfield 52, 3) := by decide +kernel
theorem d_M_line_56 : decode prog_6_method_17_code 56 = .ok (.aload_n 0, 1) := by decide +kernel
theorem d_M_line_57 : decode prog_6_method_17_code 57 = .ok (.getfield 85, 3) := by decide +kernel
theorem d_M_line_60 : decode prog_6_method_17_code 60 = .ok (.sipush 2048, 3) := by decide +kernel
theorem d_M_line_63 : decode prog_6_method_17_code 63 = .ok (.irem, 1) := by decide +kernel
theorem d_M_line_64 : decode prog_6_method_17_code 64 = .ok (.iconst 0, 1) := by decide +kernel
theorem d_M_line_65 : decode prog_6_method_17_code 65 = .ok (.bastore, 1) := by decide +kernel
theorem d_M_line_66 : decode prog_6_method_17_code 66 = .ok (.iconst 0, 1) := by decide +kernel
theorem d_M_line_67 : decode prog_6_method_17_code 67 = .ok (.istore_n 2, 1) := by decide +kernel
theorem d_M_line_68 : decode prog_6_method_17_code 68 = .ok (.iload_n 2, 1) := by decide +kernel
theorem d_M_line_69 : decode prog_6_method_17_code 69 = .ok (.bipush 8, 2) := by decide +kernel
theorem d_M_line_71 : decode prog_6_method_17_code 71 = .ok (.if_icmp .ge 59, 3) := by decide +kernel
theorem d_M_line_74 : decode prog_6_method_17_code 74 = .ok (.aload_n 0, 1) := by decide +kernel
theorem d_M_line_75 : decode prog_6_method_17_code 75 = .ok (.getfield 31, 3) := by decide +kernel
theorem d_M_line_78 : decode prog_6_method_17_code 78 = .ok (.iload_n 2, 1) := by decide +kernel
theorem d_M_line_79 : decode prog_6_method_17_code 79 = .ok (.iaload, 1) := by decide +kernel
theorem d_M_line_80 : decode prog_6_method_17_code 80 = .ok (.ifCond .lt 11, 3) := by decide +kernel
theorem d_M_line_83 : decode prog_6_method_17_code 83 = .ok (.aload_n 0, 1) := by decide +kernel
theorem d_M_line_84 : decode prog_6_method_17_code 84 = .ok (.iload_n 2, 1) := by decide +kernel
theorem d_M_line_85 : decode prog_6_method_17_code 85 = .ok (.invokevirtual 119, 3) := by decide +kernel
theorem d_M_line_88 : decode prog_6_method_17_code 88 = .ok (.ifCond .eq 30, 3) := by decide +kernel
theorem d_M_line_91 : decode prog_6_method_17_code 91 = .ok (.aload_n 0, 1) := by decide +kernel
theorem d_M_line_92 : decode prog_6_method_17_code 92 = .ok (.getfield 34, 3) := by decide +kernel
theorem d_M_line_95 : decode prog_6_method_17_code 95 = .ok (.iload_n 2, 1) := by decide +kernel
theorem d_M_line_96 : decode prog_6_method_17_code 96 = .ok (.iaload, 1) := by decide +kernel
theorem d_M_line_97 : decode prog_6_method_17_code 97 = .ok (.ifCond .lt 25, 3) := by decide +kernel
theorem d_M_line_100 : decode prog_6_method_17_code 100 = .ok (.aload_n 0, 1) := by decide +kernel
theorem d_M_line_101 : decode prog_6_method_17_code 101 = .ok (.getfield 37, 3) := by decide +kernel
theorem d_M_line_104 : decode prog_6_method_17_code 104 = .ok (.iload_n 2, 1) := by decide +kernel
theorem d_M_line_105 : decode prog_6_method_17_code 105 = .ok (.iaload, 1) := by decide +kernel
theorem d_M_line_106 : decode prog_6_method_17_code 106 = .ok (.aload_n 0, 1) := by decide +kernel
theorem d_M_line_107 : decode prog_6_method_17_code 107 = .ok (.getfield 34, 3) := by decide +kernel
theorem d_M_line_110 : decode prog_6_method_17_code 110 = .ok (.iload_n 2, 1) := by decide +kernel
theorem d_M_line_111 : decode prog_6_method_17_code 111 = .ok (.iaload, 1) := by decide +kernel
theorem d_M_line_112 : decode prog_6_method_17_code 112 = .ok (.invokestatic 99, 3) := by decide +kernel
theorem d_M_line_115 : decode prog_6_method_17_code 115 = .ok (.ifCond .ne 7, 3) := by decide +kernel
theorem d_M_line_118 : decode prog_6_method_17_code 118 = .ok (.iconst 0, 1) := by decide +kernel
theorem d_M_line_119 : decode prog_6_method_17_code 119 = .ok (.goto 4, 3) := by decide +kernel
theorem d_M_line_122 : decode prog_6_method_17_code 122 = .ok (.iload_n 1, 1) := by decide +kernel
theorem d_M_line_123 : decode prog_6_method_17_code 123 = .ok (.istore_n 1, 1) := by decide +kernel
theorem d_M_line_124 : decode prog_6_method_17_code 124 = .ok (.iinc 2 1, 3) := by decide +kernel
theorem d_M_line_127 : decode prog_6_method_17_code 127 = .ok (.goto (-59), 3) := by decide +kernel
theorem d_M_line_130 : decode prog_6_method_17_code 130 = .ok (.iload_n 1, 1) := by decide +kernel
theorem d_M_line_131 : decode prog_6_method_17_code 131 = .ok (.ireturn, 1) := by decide +kernel
def b_M_line_123 (post : Option Value → Mm → Prop) (k68 : Kk) : Kk := (i_istore 1 (i_iinc 2 1 k68))
theorem t_M_line_123 {Z : Zt} {X0 : Mm} {post : Option Value → Mm → Prop} {k68 : Kk} (g : Good Z prog_6_method_17_code 3 "BusTelegramsModel" 3) (hq : RetZ Z true X0 0 0 post) (hr : (zM Z).sig.returnType = (some .int)) (hk68 : Snd Z 3 68 k68) : Snd Z 3 123 (b_M_line_123 post k68) := by
  unfold b_M_line_123
  exact (s_istore_n g (by decide) d_M_line_123 rfl (s_iinc g (by decide) d_M_line_124 (by decide) (s_goto g d_M_line_127 (by decide) hk68)))
def b_M_line_122 (post : Option Value → Mm → Prop) (k68 : Kk) : Kk := (i_iload 1 (b_M_line_123 post k68))
theorem t_M_line_122 {Z : Zt} {X0 : Mm} {post : Option Value → Mm → Prop} {k68 : Kk} (g : Good Z prog_6_method_17_code 3 "BusTelegramsModel" 3) (hq : RetZ Z true X0 0 0 post) (hr : (zM Z).sig.returnType = (some .int)) (hk68 : Snd Z 3 68 k68) : Snd Z 3 122 (b_M_line_122 post k68) := by
  unfold b_M_line_122
  exact (s_iload_n g d_M_line_122 rfl (t_M_line_123 g hq hr hk68))
def b_M_line_118 (post : Option Value → Mm → Prop) (k68 : Kk) : Kk := (i_push (.int 0) (b_M_line_123 post k68))
theorem t_M_line_118 {Z : Zt} {X0 : Mm} {post : Option Value → Mm → Prop} {k68 : Kk} (g : Good Z prog_6_method_17_code 3 "BusTelegramsModel" 3) (hq : RetZ Z true X0 0 0 post) (hr : (zM Z).sig.returnType = (some .int)) (hk68 : Snd Z 3 68 k68) : Snd Z 3 118 (b_M_line_118 post k68) := by
  unfold b_M_line_118
  exact (s_push_iconst g d_M_line_118 (by decide) (s_goto g d_M_line_119 (by decide) (t_M_line_123 g hq hr hk68)))
def b_M_line_91 (post : Option Value → Mm → Prop) (k68 : Kk) : Kk := (i_aload 0 (i_getR 4 9 (i_iload 2 (i_ald 10 (i_if (fun x y => x < y) (b_M_line_122 post k68) (i_aload 0 (i_getR 4 10 (i_iload 2 (i_ald 10 (i_aload 0 (i_getR 4 9 (i_iload 2 (i_ald 10 (i_callS 2 w_M_bitOf (i_if (fun x y => x = y) (b_M_line_118 post k68) (b_M_line_122 post k68))))))))))))))))
theorem t_M_line_91 {Z : Zt} {X0 : Mm} {post : Option Value → Mm → Prop} {k68 : Kk} (g : Good Z prog_6_method_17_code 3 "BusTelegramsModel" 3) (hq : RetZ Z true X0 0 0 post) (hr : (zM Z).sig.returnType = (some .int)) (hk68 : Snd Z 3 68 k68) : Snd Z 3 91 (b_M_line_91 post k68) := by
  unfold b_M_line_91
  exact (s_aload_n g d_M_line_91 rfl (s_getR g (c := 4) (j := 9) cok_4 (by decide) rfl mw_563 rfl d_M_line_92 (s_iload_n g d_M_line_95 rfl (s_iald g d_M_line_96 (s_if_lt g d_M_line_97 (by decide) (t_M_line_122 g hq hr hk68) (s_aload_n g d_M_line_100 rfl (s_getR g (c := 4) (j := 10) cok_4 (by decide) rfl mw_564 rfl d_M_line_101 (s_iload_n g d_M_line_104 rfl (s_iald g d_M_line_105 (s_aload_n g d_M_line_106 rfl (s_getR g (c := 4) (j := 9) cok_4 (by decide) rfl mw_563 rfl d_M_line_107 (s_iload_n g d_M_line_110 rfl (s_iald g d_M_line_111 (s_callS g (C_M_bitOf (zl Z)) (gin_S mw_724 mw_725 mw_5 mw_726) hd_M_bitOf (by decide) (by decide) d_M_line_112 (s_if_ne g d_M_line_115 (by decide) (t_M_line_122 g hq hr hk68) (t_M_line_118 g hq hr hk68))))))))))))))))
def b_M_line_68 (post : Option Value → Mm → Prop) : Kk := i_loop [0, 1, 2] (fun k68 => (i_iload 2 (i_push (.int 8) (i_icmp (fun x y => y ≤ x) (i_iload 1 (i_iret post)) (i_aload 0 (i_getR 4 8 (i_iload 2 (i_ald 10 (i_if (fun x y => x < y) (b_M_line_91 post k68) (i_aload 0 (i_iload 2 (i_callV 1 4 w_M_said (i_if (fun x y => x = y) (b_M_line_118 post k68) (b_M_line_91 post k68))))))))))))))
theorem t_M_line_68 {Z : Zt} {X0 : Mm} {post : Option Value → Mm → Prop} (g : Good Z prog_6_method_17_code 3 "BusTelegramsModel" 3) (hq : RetZ Z true X0 0 0 post) (hr : (zM Z).sig.returnType = (some .int)) : Snd Z 3 68 (b_M_line_68 post) := by
  unfold b_M_line_68
  exact s_loop (fun k68 hk68 => (s_iload_n g d_M_line_68 rfl (s_push_bipush g d_M_line_69 (by decide) (s_icmp_ge g d_M_line_71 (by decide) (s_iload_n g d_M_line_130 rfl (s_iret0 g hq hr d_M_line_131)) (s_aload_n g d_M_line_74 rfl (s_getR g (c := 4) (j := 8) cok_4 (by decide) rfl mw_562 rfl d_M_line_75 (s_iload_n g d_M_line_78 rfl (s_iald g d_M_line_79 (s_if_lt g d_M_line_80 (by decide) (t_M_line_91 g hq hr hk68) (s_aload_n g d_M_line_83 rfl (s_iload_n g d_M_line_84 rfl (s_callV g (C_M_said (zl Z)) (gin_V mw_708 mw_710 ms_18 mw_5 mw_711) hd_M_said rfl (by decide) (by decide) (by decide) d_M_line_85 (s_if_eq g d_M_line_88 (by decide) (t_M_line_118 g hq hr hk68) (t_M_line_91 g hq hr hk68))))))))))))))
def b_M_line_48 (post : Option Value → Mm → Prop) : Kk := (i_bin (fun x y => x - y) (i_putI 4 16 (i_aload 0 (i_getR 4 15 (i_aload 0 (i_getI 4 1 (i_push (.int 2048) (i_binz (fun x y => x - x / y * y) (i_push (.int 0) (i_zst (i_push (.int 0) (i_istore 2 (b_M_line_68 post)))))))))))))
theorem t_M_line_48 {Z : Zt} {X0 : Mm} {post : Option Value → Mm → Prop} (g : Good Z prog_6_method_17_code 3 "BusTelegramsModel" 3) (hq : RetZ Z true X0 0 0 post) (hr : (zM Z).sig.returnType = (some .int)) : Snd Z 3 48 (b_M_line_48 post) := by
  unfold b_M_line_48
  exact (s_isub g d_M_line_48 (s_putI g (c := 4) (j := 16) cok_4 (by decide) rfl rfl rfl mw_570 rfl d_M_line_49 (s_aload_n g d_M_line_52 rfl (s_getR g (c := 4) (j := 15) cok_4 (by decide) rfl mw_569 rfl d_M_line_53 (s_aload_n g d_M_line_56 rfl (s_getI g (c := 4) (j := 1) cok_4 (by decide) rfl mw_555 rfl d_M_line_57 (s_push_sipush g d_M_line_60 (by decide) (s_irem g d_M_line_63 (s_push_iconst g d_M_line_64 (by decide) (s_zast g d_M_line_65 (s_push_iconst g d_M_line_66 (by decide) (s_istore_n g (by decide) d_M_line_67 rfl (t_M_line_68 g hq hr)))))))))))))
def b_M_line_21 (post : Option Value → Mm → Prop) : Kk := (i_istore 1 (i_aload 0 (i_dup (i_getI 4 16 (i_aload 0 (i_getR 4 15 (i_aload 0 (i_getI 4 1 (i_push (.int 2048) (i_binz (fun x y => x - x / y * y) (i_ald 11 (i_if (fun x y => x = y) (i_push (.int 0) (b_M_line_48 post)) (i_push (.int 1) (b_M_line_48 post))))))))))))))
theorem t_M_line_21 {Z : Zt} {X0 : Mm} {post : Option Value → Mm → Prop} (g : Good Z prog_6_method_17_code 3 "BusTelegramsModel" 3) (hq : RetZ Z true X0 0 0 post) (hr : (zM Z).sig.returnType = (some .int)) : Snd Z 3 21 (b_M_line_21 post) := by
  unfold b_M_line_21
  exact (s_istore_n g (by decide) d_M_line_21 rfl (s_aload_n g d_M_line_22 rfl (s_dup g d_M_line_23 (s_getI g (c := 4) (j := 16) cok_4 (by decide) rfl mw_570 rfl d_M_line_24 (s_aload_n g d_M_line_27 rfl (s_getR g (c := 4) (j := 15) cok_4 (by decide) rfl mw_569 rfl d_M_line_28 (s_aload_n g d_M_line_31 rfl (s_getI g (c := 4) (j := 1) cok_4 (by decide) rfl mw_555 rfl d_M_line_32 (s_push_sipush g d_M_line_35 (by decide) (s_irem g d_M_line_38 (s_zald g d_M_line_39 (s_if_eq g d_M_line_40 (by decide) (s_push_iconst g d_M_line_47 (by decide) (t_M_line_48 g hq hr)) (s_push_iconst g d_M_line_43 (by decide) (s_goto g d_M_line_44 (by decide) (t_M_line_48 g hq hr)))))))))))))))
def b_M_line_0 (post : Option Value → Mm → Prop) : Kk := (i_aload 0 (i_getR 4 15 (i_aload 0 (i_getI 4 1 (i_push (.int 2048) (i_binz (fun x y => x - x / y * y) (i_ald 11 (i_if (fun x y => x = y) (i_push (.int 1) (b_M_line_21 post)) (i_push (.int 0) (b_M_line_21 post))))))))))
theorem t_M_line_0 {Z : Zt} {X0 : Mm} {post : Option Value → Mm → Prop} (g : Good Z prog_6_method_17_code 3 "BusTelegramsModel" 3) (hq : RetZ Z true X0 0 0 post) (hr : (zM Z).sig.returnType = (some .int)) : Snd Z 3 0 (b_M_line_0 post) := by
  unfold b_M_line_0
  exact (s_aload_n g d_M_line_0 rfl (s_getR g (c := 4) (j := 15) cok_4 (by decide) rfl mw_569 rfl d_M_line_1 (s_aload_n g d_M_line_4 rfl (s_getI g (c := 4) (j := 1) cok_4 (by decide) rfl mw_555 rfl d_M_line_5 (s_push_sipush g d_M_line_8 (by decide) (s_irem g d_M_line_11 (s_zald g d_M_line_12 (s_if_eq g d_M_line_13 (by decide) (s_push_iconst g d_M_line_20 (by decide) (t_M_line_21 g hq hr)) (s_push_iconst g d_M_line_16 (by decide) (s_goto g d_M_line_17 (by decide) (t_M_line_21 g hq hr)))))))))))
def w_M_line : Wp := wpOf 3 (fun _ post => b_M_line_0 post)
theorem C_M_line (l : Launch) : MetS l ({ cls := "BusTelegramsModel", name := "line", desc := "()I" } : Jvm.MethodName) prog_6_method_17_code 3 (some .int) true 3 0 0 w_M_line := metS_of (by decide +kernel) (fun Z X0 post hZ g hq hr _ => t_M_line_0 g hq hr)
theorem hd_M_line : (({ cls := "BusTelegramsModel", name := "line", desc := "()I" } : Jvm.MethodName)).cls = "BusTelegramsModel" ∧ (({ cls := "BusTelegramsModel", name := "line", desc := "()I" } : Jvm.MethodName)).cls ≠ "java/lang/invoke/MethodHandle" ∧ (({ cls := "BusTelegramsModel", name := "line", desc := "()I" } : Jvm.MethodName)).cls ≠ "java/lang/invoke/VarHandle" ∧ (parseMethodDescriptor (({ cls := "BusTelegramsModel", name := "line", desc := "()I" } : Jvm.MethodName)).desc).map (fun d => d.parameters.length) = some 0 := ⟨rfl, by decide, by decide, by decide +kernel⟩
theorem d_M_goOn_0 : decode prog_6_method_18_code 0 = .ok (.iconst 0, 1) := by decide +kernel
theorem d_M_goOn_1 : decode prog_6_method_18_code 1 = .ok (.istore_n 2, 1) := by decide +kernel
theorem d_M_goOn_2 : decode prog_6_method_18_code 2 = .ok (.iload_n 2, 1) := by decide +kernel
theorem d_M_goOn_3 : decode prog_6_method_18_code 3 = .ok (.bipush 8, 2) := by decide +kernel
theorem d_M_goOn_5 : decode prog_6_method_18_code 5 = .ok (.if_icmp .ge 156, 3) := by decide +kernel
theorem d_M_goOn_8 : decode prog_6_method_18_code 8 = .ok (.aload_n 0, 1) := by decide +kernel
theorem d_M_goOn_9 : decode prog_6_method_18_code 9 = .ok (.getfield 34, 3) := by decide +kernel
theorem d_M_goOn_12 : decode prog_6_method_18_code 12 = .ok (.iload_n 2, 1) := by decide +kernel
theorem d_M_goOn_13 : decode prog_6_method_18_code 13 = .ok (.iaload, 1) := by decide +kernel
theorem d_M_goOn_14 : decode prog_6_method_18_code 14 = .ok (.ifCond .lt 32, 3) := by decide +kernel
theorem d_M_goOn_17 : decode prog_6_method_18_code 17 = .ok (.aload_n 0, 1) := by decide +kernel
theorem d_M_goOn_18 : decode prog_6_method_18_code 18 = .ok (.getfield 34, 3) := by decide +kernel
theorem d_M_goOn_21 : decode prog_6_method_18_code 21 = .ok (.iload_n 2, 1) := by decide +kernel
theorem d_M_goOn_22 : decode prog_6_method_18_code 22 = .ok (.aload_n 0, 1) := by decide +kernel
theorem d_M_goOn_23 : decode prog_6_method_18_code 23 = .ok (.getfield 34, 3) := by decide +kernel
theorem d_M_goOn_26 : decode prog_6_method_18_code 26 = .ok (.iload_n 2, 1) := by decide +kernel
theorem d_M_goOn_27 : decode prog_6_method_18_code 27 = .ok (.iaload, 1) := by decide +kernel
theorem d_M_goOn_28 : decode prog_6_method_18_code 28 = .ok (.bipush 10, 2) := by decide +kernel
theorem d_M_goOn_30 : decode prog_6_method_18_code 30 = .ok (.if_icmp .ne 7, 3) := by decide +kernel
theorem d_M_goOn_33 : decode prog_6_method_18_code 33 = .ok (.iconst (-1), 1) := by decide +kernel
theorem d_M_goOn_34 : decode prog_6_method_18_code 34 = .ok (.goto 11, 3) := by decide +kernel
theorem d_M_goOn_37 : decode prog_6_method_18_code 37 = .ok (.aload_n 0, 1) := by decide +kernel
theorem d_M_goOn_38 : decode prog_6_method_18_code 38 = .ok (.getfield 34, 3) := by decide +kernel
theorem d_M_goOn_41 : decode prog_6_method_18_code 41 = .ok (.iload_n 2, 1) := by decide +kernel
theorem d_M_goOn_42 : decode prog_6_method_18_code 42 = .ok (.iaload, 1) := by decide +kernel
theorem d_M_goOn_43 : decode prog_6_method_18_code 43 = .ok (.iconst 1, 1) := by decide +kernel
theorem d_M_goOn_44 : decode prog_6_method_18_code 44 = .ok (.iadd, 1) := by decide +kernel
theorem d_M_goOn_45 : decode prog_6_method_18_code 45 = .ok (.iastore, 1) := by decide +kernel
theorem d_M_goOn_46 : decode prog_6_method_18_code 46 = .ok (.aload_n 0, 1) := by decide +kernel
theorem d_M_goOn_47 : decode prog_6_method_18_code 47 = .ok (.getfield 31, 3) := by decide +kernel
theorem d_M_goOn_50 : decode prog_6_method_18_code 50 = .ok (.iload_n 2, 1) := by decide +kernel
theorem d_M_goOn_51 : decode prog_6_method_18_code 51 = .ok (.iaload, 1) := by decide +kernel
theorem d_M_goOn_52 : decode prog_6_method_18_code 52 = .ok (.ifCond .ge 6, 3) := by decide +kernel
theorem d_M_goOn_55 : decode prog_6_method_18_code 55 = .ok (.goto 100, 3) := by decide +kernel
theorem d_M_goOn_58 : decode prog_6_method_18_code 58 = .ok (.iload_n 1, 1) := by decide +kernel
theorem d_M_goOn_59 : decode prog_6_method_18_code 59 = .ok (.ifCond .ne 32, 3) := by decide +kernel
theorem d_M_goOn_62 : decode prog_6_method_18_code 62 = .ok (.aload_n 0, 1) := by decide +kernel
theorem d_M_goOn_63 : decode prog_6_method_18_code 63 = .ok (.iload_n 2, 1) := by decide +kernel
theorem d_M_goOn_64 : decode prog_6_method_18_code 64 = .ok (.invokevirtual 119, 3) := by decide +kernel
theorem d_M_goOn_67 : decode prog_6_method_18_code 67 = .ok (.iconst 1, 1) := by decide +kernel
theorem d_M_goOn_68 : decode prog_6_method_18_code 68 = .ok (.if_icmp .ne 23, 3) := by decide +kernel
theorem d_M_goOn_71 : decode prog_6_method_18_code 71 = .ok (.aload_n 0, 1) := by decide +kernel
theorem d_M_goOn_72 : decode prog_6_method_18_code 72 = .ok (.getfield 31, 3) := by decide +kernel
theorem d_M_goOn_75 : decode prog_6_method_18_code 75 = .ok (.iload_n 2, 1) := by decide +kernel
theorem d_M_goOn_76 : decode prog_6_method_18_code 76 = .ok (.iconst (-1), 1) := by decide +kernel
theorem d_M_goOn_77 : decode prog_6_method_18_code 77 = .ok (.iastore, 1) := by decide +kernel
theorem d_M_goOn_78 : decode prog_6_method_18_code 78 = .ok (.aload_n 0, 1) := by decide +kernel
theorem d_M_goOn_79 : decode prog_6_method_18_code 79 = .ok (.getfield 49, 3) := by decide +kernel
theorem d_M_goOn_82 : decode prog_6_method_18_code 82 = .ok (.iload_n 2, 1) := by decide +kernel
theorem d_M_goOn_83 : decode prog_6_method_18_code 83 = .ok (.dup2, 1) := by decide +kernel
theorem d_M_goOn_84 : decode prog_6_method_18_code 84 = .ok (.iaload, 1) := by decide +kernel
theorem d_M_goOn_85 : decode prog_6_method_18_code 85 = .ok (.iconst 1, 1) := by decide +kernel
theorem d_M_goOn_86 : decode prog_6_method_18_code 86 = .ok (.iadd, 1) := by decide +kernel
theorem d_M_goOn_87 : decode prog_6_method_18_code 87 = .ok (.iastore, 1) := by decide +kernel
theorem d_M_goOn_88 : decode prog_6_method_18_code 88 = .ok (.goto 67, 3) := by decide +kernel
theorem d_M_goOn_91 : decode prog_6_method_18_code 91 = .ok (.aload_n 0, 1) := by decide +kernel
theorem d_M_goOn_92 : decode prog_6_method_18_code 92 = .ok (.getfield 31, 3) := by decide +kernel
theorem d_M_goOn_95 : decode prog_6_method_18_code 95 = .ok (.iload_n 2, 1) := by decide +kernel
theorem d_M_goOn_96 : decode prog_6_method_18_code 96 = .ok (.iaload, 1) := by decide +kernel
theorem d_M_goOn_97 : decode prog_6_method_18_code 97 = .ok (.bipush 13, 2) := by decide +kernel
theorem d_M_goOn_99 : decode prog_6_method_18_code 99 = .ok (.aload_n 0, 1) := by decide +kernel
theorem d_M_goOn_100 : decode prog_6_method_18_code 100 = .ok (.iload_n 2, 1) := by decide +kernel
theorem d_M_goOn_101 : decode prog_6_method_18_code 101 = .ok (.invokevirtual 88, 3) := by decide +kernel
theorem d_M_goOn_104 : decode prog_6_method_18_code 104 = .ok (.imul, 1) := by decide +kernel
theorem d_M_goOn_105 : decode prog_6_method_18_code 105 = .ok (.iconst 3, 1) := by decide +kernel
theorem d_M_goOn_106 : decode prog_6_method_18_code 106 = .ok (.isub, 1) := by decide +kernel
theorem d_M_goOn_107 : decode prog_6_method_18_code 107 = .ok (.if_icmp .ne 38, 3) := by decide +kernel
theorem d_M_goOn_110 : decode prog_6_method_18_code 110 = .ok (.aload_n 0, 1) := by decide +kernel
theorem d_M_goOn_111 : decode prog_6_method_18_code 111 = .ok (.getfield 31, 3) := by decide +kernel
theorem d_M_goOn_114 : decode prog_6_method_18_code 114 = .ok (.iload_n 2, 1) := by decide +kernel
theorem d_M_goOn_115 : decode prog_6_method_18_code 115 = .ok (.iconst (-1), 1) := by decide +kernel
theorem d_M_goOn_116 : decode prog_6_method_18_code 116 = .ok (.iastore, 1) := by decide +kernel
theorem d_M_goOn_117 : decode prog_6_method_18_code 117 = .ok (.aload_n 0, 1) := by decide +kernel
theorem d_M_goOn_118 : decode prog_6_method_18_code 118 = .ok (.getfield 40, 3) := by decide +kernel
theorem d_M_goOn_121 : decode prog_6_method_18_code 121 = .ok (.iload_n 2, 1) := by decide +kernel
theorem d_M_goOn_122 : decode prog_6_method_18_code 122 = .ok (.aload_n 0, 1) := by decide +kernel
theorem d_M_goOn_123 : decode prog_6_method_18_code 123 = .ok (.getfield 85, 3) := by decide +kernel
theorem d_M_goOn_126 : decode prog_6_method_18_code 126 = .ok (.iastore, 1) := by decide +kernel
theorem d_M_goOn_127 : decode prog_6_method_18_code 127 = .ok (.aload_n 0, 1) := by decide +kernel
theorem d_M_goOn_128 : decode prog_6_method_18_code 128 = .ok (.getfield 28, 3) := by decide +kernel
theorem d_M_goOn_131 : decode prog_6_method_18_code 131 = .ok (.bipush 36, 2) := by decide +kernel
theorem d_M_goOn_133 : decode prog_6_method_18_code 133 = .ok (.iload_n 2, 1) := by decide +kernel
theorem d_M_goOn_134 : decode prog_6_method_18_code 134 = .ok (.imul, 1) := by decide +kernel
theorem d_M_goOn_135 : decode prog_6_method_18_code 135 = .ok (.iconst 5, 1) := by decide +kernel
theorem d_M_goOn_136 : decode prog_6_method_18_code 136 = .ok (.iadd, 1) := by decide +kernel
theorem d_M_goOn_137 : decode prog_6_method_18_code 137 = .ok (.dup2, 1) := by decide +kernel
theorem d_M_goOn_138 : decode prog_6_method_18_code 138 = .ok (.iaload, 1) := by decide +kernel
theorem d_M_goOn_139 : decode prog_6_method_18_code 139 = .ok (.iconst 1, 1) := by decide +kernel
theorem d_M_goOn_140 : decode prog_6_method_18_code 140 = .ok (.iadd, 1) := by decide +kernel
theorem d_M_goOn_141 : decode prog_6_method_18_code 141 = .ok (.iastore, 1) := by decide +kernel
theorem d_M_goOn_142 : decode prog_6_method_18_code 142 = .ok (.goto 13, 3) := by decide +kernel
theorem d_M_goOn_145 : decode prog_6_method_18_code 145 = .ok (.aload_n 0, 1) := by decide +kernel
theorem d_M_goOn_146 : decode prog_6_method_18_code 146 = .ok (.getfield 31, 3) := by decide +kernel
theorem d_M_goOn_149 : decode prog_6_method_18_code 149 = .ok (.iload_n 2, 1) := by decide +kernel
theorem d_M_goOn_150 : decode prog_6_method_18_code 150 = .ok (.dup2, 1) := by decide +kernel
theorem d_M_goOn_151 : decode prog_6_method_18_code 151 = .ok (.iaload, 1) := by decide +kernel
theorem d_M_goOn_152 : decode prog_6_method_18_code 152 = .ok (.iconst 1, 1) := by decide +kernel
theorem d_M_goOn_153 : decode prog_6_method_18_code 153 = .ok (.iadd, 1) := by decide +kernel
theorem d_M_goOn_154 : decode prog_6_method_18_code 154 = .ok (.iastore, 1) := by decide +kernel
theorem d_M_goOn_155 : decode prog_6_method_18_code 155 = .ok (.iinc 2 1, 3) := by decide +kernel
theorem d_M_goOn_158 : decode prog_6_method_18_code 158 = .ok (.goto (-156), 3) := by decide +kernel
theorem d_M_goOn_161 : decode prog_6_method_18_code 161 = .ok (.return_, 1) := by decide +kernel
def b_M_goOn_155 (post : Option Value → Mm → Prop) (k2 : Kk) : Kk := (i_iinc 2 1 k2)
theorem t_M_goOn_155 {Z : Zt} {X0 : Mm} {post : Option Value → Mm → Prop} {k2 : Kk} (g : Good Z prog_6_method_18_code 3 "BusTelegramsModel" 3) (hq : RetZ Z true X0 0 0 post) (hr : (zM Z).sig.returnType = none) (hk2 : Snd Z 3 2 k2) : Snd Z 3 155 (b_M_goOn_155 post k2) := by
  unfold b_M_goOn_155
  exact (s_iinc g (by decide) d_M_goOn_155 (by decide) (s_goto g d_M_goOn_158 (by decide) hk2))
def b_M_goOn_91 (post : Option Value → Mm → Prop) (k2 : Kk) : Kk := (i_aload 0 (i_getR 4 8 (i_iload 2 (i_ald 10 (i_push (.int 13) (i_aload 0 (i_iload 2 (i_callV 1 4 w_M_size (i_bin (fun x y => x * y) (i_push (.int 3) (i_bin (fun x y => x - y) (i_icmp (fun x y => x = y) (i_aload 0 (i_getR 4 8 (i_iload 2 (i_push (.int (-1)) (i_ast (i_aload 0 (i_getR 4 11 (i_iload 2 (i_aload 0 (i_getI 4 1 (i_ast (i_aload 0 (i_getR 4 7 (i_push (.int 36) (i_iload 2 (i_bin (fun x y => x * y) (i_push (.int 5) (i_bin (fun x y => x + y) (i_dup2 (i_ald 10 (i_push (.int 1) (i_bin (fun x y => x + y) (i_ast (b_M_goOn_155 post k2)))))))))))))))))))))))) (i_aload 0 (i_getR 4 8 (i_iload 2 (i_dup2 (i_ald 10 (i_push (.int 1) (i_bin (fun x y => x + y) (i_ast (b_M_goOn_155 post k2)))))))))))))))))))))
theorem t_M_goOn_91 {Z : Zt} {X0 : Mm} {post : Option Value → Mm → Prop} {k2 : Kk} (g : Good Z prog_6_method_18_code 3 "BusTelegramsModel" 3) (hq : RetZ Z true X0 0 0 post) (hr : (zM Z).sig.returnType = none) (hk2 : Snd Z 3 2 k2) : Snd Z 3 91 (b_M_goOn_91 post k2) := by
  unfold b_M_goOn_91
  exact (s_aload_n g d_M_goOn_91 rfl (s_getR g (c := 4) (j := 8) cok_4 (by decide) rfl mw_562 rfl d_M_goOn_92 (s_iload_n g d_M_goOn_95 rfl (s_iald g d_M_goOn_96 (s_push_bipush g d_M_goOn_97 (by decide) (s_aload_n g d_M_goOn_99 rfl (s_iload_n g d_M_goOn_100 rfl (s_callV g (C_M_size (zl Z)) (gin_V mw_716 mw_718 ms_20 mw_5 mw_719) hd_M_size rfl (by decide) (by decide) (by decide) d_M_goOn_101 (s_imul g d_M_goOn_104 (s_push_iconst g d_M_goOn_105 (by decide) (s_isub g d_M_goOn_106 (s_icmp_ne g d_M_goOn_107 (by decide) (s_aload_n g d_M_goOn_145 rfl (s_getR g (c := 4) (j := 8) cok_4 (by decide) rfl mw_562 rfl d_M_goOn_146 (s_iload_n g d_M_goOn_149 rfl (s_dup2 g d_M_goOn_150 (s_iald g d_M_goOn_151 (s_push_iconst g d_M_goOn_152 (by decide) (s_iadd g d_M_goOn_153 (s_iast g d_M_goOn_154 (t_M_goOn_155 g hq hr hk2))))))))) (s_aload_n g d_M_goOn_110 rfl (s_getR g (c := 4) (j := 8) cok_4 (by decide) rfl mw_562 rfl d_M_goOn_111 (s_iload_n g d_M_goOn_114 rfl (s_push_iconst g d_M_goOn_115 (by decide) (s_iast g d_M_goOn_116 (s_aload_n g d_M_goOn_117 rfl (s_getR g (c := 4) (j := 11) cok_4 (by decide) rfl mw_565 rfl d_M_goOn_118 (s_iload_n g d_M_goOn_121 rfl (s_aload_n g d_M_goOn_122 rfl (s_getI g (c := 4) (j := 1) cok_4 (by decide) rfl mw_555 rfl d_M_goOn_123 (s_iast g d_M_goOn_126 (s_aload_n g d_M_goOn_127 rfl (s_getR g (c := 4) (j := 7) cok_4 (by decide) rfl mw_561 rfl d_M_goOn_128 (s_push_bipush g d_M_goOn_131 (by decide) (s_iload_n g d_M_goOn_133 rfl (s_imul g d_M_goOn_134 (s_push_iconst g d_M_goOn_135 (by decide) (s_iadd g d_M_goOn_136 (s_dup2 g d_M_goOn_137 (s_iald g d_M_goOn_138 (s_push_iconst g d_M_goOn_139 (by decide) (s_iadd g d_M_goOn_140 (s_iast g d_M_goOn_141 (s_goto g d_M_goOn_142 (by decide) (t_M_goOn_155 g hq hr hk2)))))))))))))))))))))))))))))))))))))
def b_M_goOn_46 (post : Option Value → Mm → Prop) (k2 : Kk) : Kk := (i_aload 0 (i_getR 4 8 (i_iload 2 (i_ald 10 (i_if (fun x y => y ≤ x) (i_iload 1 (i_if (fun x y => x = y) (i_aload 0 (i_iload 2 (i_callV 1 4 w_M_said (i_push (.int 1) (i_icmp (fun x y => x = y) (i_aload 0 (i_getR 4 8 (i_iload 2 (i_push (.int (-1)) (i_ast (i_aload 0 (i_getR 4 14 (i_iload 2 (i_dup2 (i_ald 10 (i_push (.int 1) (i_bin (fun x y => x + y) (i_ast (b_M_goOn_155 post k2)))))))))))))) (b_M_goOn_91 post k2)))))) (b_M_goOn_91 post k2))) (b_M_goOn_155 post k2))))))
theorem t_M_goOn_46 {Z : Zt} {X0 : Mm} {post : Option Value → Mm → Prop} {k2 : Kk} (g : Good Z prog_6_method_18_code 3 "BusTelegramsModel" 3) (hq : RetZ Z true X0 0 0 post) (hr : (zM Z).sig.returnType = none) (hk2 : Snd Z 3 2 k2) : Snd Z 3 46 (b_M_goOn_46 post k2) := by
  unfold b_M_goOn_46
  exact (s_aload_n g d_M_goOn_46 rfl (s_getR g (c := 4) (j := 8) cok_4 (by decide) rfl mw_562 rfl d_M_goOn_47 (s_iload_n g d_M_goOn_50 rfl (s_iald g d_M_goOn_51 (s_if_ge g d_M_goOn_52 (by decide) (s_iload_n g d_M_goOn_58 rfl (s_if_ne g d_M_goOn_59 (by decide) (t_M_goOn_91 g hq hr hk2) (s_aload_n g d_M_goOn_62 rfl (s_iload_n g d_M_goOn_63 rfl (s_callV g (C_M_said (zl Z)) (gin_V mw_708 mw_710 ms_18 mw_5 mw_711) hd_M_said rfl (by decide) (by decide) (by decide) d_M_goOn_64 (s_push_iconst g d_M_goOn_67 (by decide) (s_icmp_ne g d_M_goOn_68 (by decide) (t_M_goOn_91 g hq hr hk2) (s_aload_n g d_M_goOn_71 rfl (s_getR g (c := 4) (j := 8) cok_4 (by decide) rfl mw_562 rfl d_M_goOn_72 (s_iload_n g d_M_goOn_75 rfl (s_push_iconst g d_M_goOn_76 (by decide) (s_iast g d_M_goOn_77 (s_aload_n g d_M_goOn_78 rfl (s_getR g (c := 4) (j := 14) cok_4 (by decide) rfl mw_568 rfl d_M_goOn_79 (s_iload_n g d_M_goOn_82 rfl (s_dup2 g d_M_goOn_83 (s_iald g d_M_goOn_84 (s_push_iconst g d_M_goOn_85 (by decide) (s_iadd g d_M_goOn_86 (s_iast g d_M_goOn_87 (s_goto g d_M_goOn_88 (by decide) (t_M_goOn_155 g hq hr hk2)))))))))))))))))))))) (s_goto g d_M_goOn_55 (by decide) (t_M_goOn_155 g hq hr hk2)))))))
def b_M_goOn_45 (post : Option Value → Mm → Prop) (k2 : Kk) : Kk := (i_ast (b_M_goOn_46 post k2))
theorem t_M_goOn_45 {Z : Zt} {X0 : Mm} {post : Option Value → Mm → Prop} {k2 : Kk} (g : Good Z prog_6_method_18_code 3 "BusTelegramsModel" 3) (hq : RetZ Z true X0 0 0 post) (hr : (zM Z).sig.returnType = none) (hk2 : Snd Z 3 2 k2) : Snd Z 3 45 (b_M_goOn_45 post k2) := by
  unfold b_M_goOn_45
  exact (s_iast g d_M_goOn_45 (t_M_goOn_46 g hq hr hk2))
def b_M_goOn_2 (post : Option Value → Mm → Prop) : Kk := i_loop [0, 1, 2] (fun k2 => (i_iload 2 (i_push (.int 8) (i_icmp (fun x y => y ≤ x) (i_vret post) (i_aload 0 (i_getR 4 9 (i_iload 2 (i_ald 10 (i_if (fun x y => x < y) (b_M_goOn_46 post k2) (i_aload 0 (i_getR 4 9 (i_iload 2 (i_aload 0 (i_getR 4 9 (i_iload 2 (i_ald 10 (i_push (.int 10) (i_icmp (fun x y => x = y) (i_push (.int (-1)) (b_M_goOn_45 post k2)) (i_aload 0 (i_getR 4 9 (i_iload 2 (i_ald 10 (i_push (.int 1) (i_bin (fun x y => x + y) (b_M_goOn_45 post k2)))))))))))))))))))))))))
theorem t_M_goOn_2 {Z : Zt} {X0 : Mm} {post : Option Value → Mm → Prop} (g : Good Z prog_6_method_18_code 3 "BusTelegramsModel" 3) (hq : RetZ Z true X0 0 0 post) (hr : (zM Z).sig.returnType = none) : Snd Z 3 2 (b_M_goOn_2 post) := by
  unfold b_M_goOn_2
  exact s_loop (fun k2 hk2 => (s_iload_n g d_M_goOn_2 rfl (s_push_bipush g d_M_goOn_3 (by decide) (s_icmp_ge g d_M_goOn_5 (by decide) (s_vret0 g hq hr d_M_goOn_161) (s_aload_n g d_M_goOn_8 rfl (s_getR g (c := 4) (j := 9) cok_4 (by decide) rfl mw_563 rfl d_M_goOn_9 (s_iload_n g d_M_goOn_12 rfl (s_iald g d_M_goOn_13 (s_if_lt g d_M_goOn_14 (by decide) (t_M_goOn_46 g hq hr hk2) (s_aload_n g d_M_goOn_17 rfl (s_getR g (c := 4) (j := 9) cok_4 (by decide) rfl mw_563 rfl d_M_goOn_18 (s_iload_n g d_M_goOn_21 rfl (s_aload_n g d_M_goOn_22 rfl (s_getR g (c := 4) (j := 9) cok_4 (by decide) rfl mw_563 rfl d_M_goOn_23 (s_iload_n g d_M_goOn_26 rfl (s_iald g d_M_goOn_27 (s_push_bipush g d_M_goOn_28 (by decide) (s_icmp_ne g d_M_goOn_30 (by decide) (s_aload_n g d_M_goOn_37 rfl (s_getR g (c := 4) (j := 9) cok_4 (by decide) rfl mw_563 rfl d_M_goOn_38 (s_iload_n g d_M_goOn_41 rfl (s_iald g d_M_goOn_42 (s_push_iconst g d_M_goOn_43 (by decide) (s_iadd g d_M_goOn_44 (t_M_goOn_45 g hq hr hk2))))))) (s_push_iconst g d_M_goOn_33 (by decide) (s_goto g d_M_goOn_34 (by decide) (t_M_goOn_45 g hq hr hk2)))))))))))))))))))))
def b_M_goOn_0 (post : Option Value → Mm → Prop) : Kk := (i_push (.int 0) (i_istore 2 (b_M_goOn_2 post)))
theorem t_M_goOn_0 {Z : Zt} {X0 : Mm} {post : Option Value → Mm → Prop} (g : Good Z prog_6_method_18_code 3 "BusTelegramsModel" 3) (hq : RetZ Z true X0 0 0 post) (hr : (zM Z).sig.returnType = none) : Snd Z 3 0 (b_M_goOn_0 post) := by
  unfold b_M_goOn_0
  exact (s_push_iconst g d_M_goOn_0 (by decide) (s_istore_n g (by decide) d_M_goOn_1 rfl (t_M_goOn_2 g hq hr)))
def w_M_goOn : Wp := wpOf 3 (fun _ post => b_M_goOn_0 post)
theorem C_M_goOn (l : Launch) : MetS l ({ cls := "BusTelegramsModel", name := "goOn", desc := "(I)V" } : Jvm.MethodName) prog_6_method_18_code 3 none true 3 0 0 w_M_goOn := metS_of (by decide +kernel) (fun Z X0 post hZ g hq hr _ => t_M_goOn_0 g hq hr)
theorem hd_M_goOn : (({ cls := "BusTelegramsModel", name := "goOn", desc := "(I)V" } : Jvm.MethodName)).cls = "BusTelegramsModel" ∧ (({ cls := "BusTelegramsModel", name := "goOn", desc := "(I)V" } : Jvm.MethodName)).cls ≠ "java/lang/invoke/MethodHandle" ∧ (({ cls := "BusTelegramsModel", name := "goOn", desc := "(I)V" } : Jvm.MethodName)).cls ≠ "java/lang/invoke/VarHandle" ∧ (parseMethodDescriptor (({ cls := "BusTelegramsModel", name := "goOn", desc := "(I)V" } : Jvm.MethodName)).desc).map (fun d => d.parameters.length) = some 1 := ⟨rfl, by decide, by decide, by decide +kernel⟩
theorem d_M_run_0 : decode prog_6_method_26_code 0 = .ok (.aload_n 0, 1) := by decide +kernel
theorem d_M_run_1 : decode prog_6_method_26_code 1 = .ok (.iload_n 1, 1) := by decide +kernel
theorem d_M_run_2 : decode prog_6_method_26_code 2 = .ok (.iconst 1, 1) := by decide +kernel
theorem d_M_run_3 : decode prog_6_method_26_code 3 = .ok (.sipush 2000, 3) := by decide +kernel
theorem d_M_run_6 : decode prog_6_method_26_code 6 = .ok (.invokestatic 73, 3) := by decide +kernel
theorem d_M_run_9 : decode prog_6_method_26_code 9 = .ok (.ifCond .ne 7, 3) := by decide +kernel
theorem d_M_run_12 : decode prog_6_method_26_code 12 = .ok (.iconst 1, 1) := by decide +kernel
theorem d_M_run_13 : decode prog_6_method_26_code 13 = .ok (.goto 19, 3) := by decide +kernel
theorem d_M_run_16 : decode prog_6_method_26_code 16 = .ok (.aload_n 0, 1) := by decide +kernel
theorem d_M_run_17 : decode prog_6_method_26_code 17 = .ok (.getfield 85, 3) := by decide +kernel
theorem d_M_run_20 : decode prog_6_method_26_code 20 = .ok (.iload_n 1, 1) := by decide +kernel
theorem d_M_run_21 : decode prog_6_method_26_code 21 = .ok (.iadd, 1) := by decide +kernel
theorem d_M_run_22 : decode prog_6_method_26_code 22 = .ok (.ldc 165, 2) := by decide +kernel
theorem d_M_run_24 : decode prog_6_method_26_code 24 = .ok (.if_icmp .le 7, 3) := by decide +kernel
theorem d_M_run_27 : decode prog_6_method_26_code 27 = .ok (.iconst 2, 1) := by decide +kernel
theorem d_M_run_28 : decode prog_6_method_26_code 28 = .ok (.goto 4, 3) := by decide +kernel
theorem d_M_run_31 : decode prog_6_method_26_code 31 = .ok (.iconst 0, 1) := by decide +kernel
theorem d_M_run_32 : decode prog_6_method_26_code 32 = .ok (.putfield 70, 3) := by decide +kernel
theorem d_M_run_35 : decode prog_6_method_26_code 35 = .ok (.iconst 0, 1) := by decide +kernel
theorem d_M_run_36 : decode prog_6_method_26_code 36 = .ok (.istore_n 2, 1) := by decide +kernel
theorem d_M_run_37 : decode prog_6_method_26_code 37 = .ok (.iload_n 2, 1) := by decide +kernel
theorem d_M_run_38 : decode prog_6_method_26_code 38 = .ok (.iload_n 1, 1) := by decide +kernel
theorem d_M_run_39 : decode prog_6_method_26_code 39 = .ok (.if_icmp .ge 81, 3) := by decide +kernel
theorem d_M_run_42 : decode prog_6_method_26_code 42 = .ok (.aload_n 0, 1) := by decide +kernel
theorem d_M_run_43 : decode prog_6_method_26_code 43 = .ok (.getfield 70, 3) := by decide +kernel
theorem d_M_run_46 : decode prog_6_method_26_code 46 = .ok (.ifCond .ne 74, 3) := by decide +kernel
theorem d_M_run_49 : decode prog_6_method_26_code 49 = .ok (.aload_n 0, 1) := by decide +kernel
theorem d_M_run_50 : decode prog_6_method_26_code 50 = .ok (.dup, 1) := by decide +kernel
theorem d_M_run_51 : decode prog_6_method_26_code 51 = .ok (.getfield 85, 3) := by decide +kernel
theorem d_M_run_54 : decode prog_6_method_26_code 54 = .ok (.iconst 1, 1) := by decide +kernel
theorem d_M_run_55 : decode prog_6_method_26_code 55 = .ok (.iadd, 1) := by decide +kernel
theorem d_M_run_56 : decode prog_6_method_26_code 56 = .ok (.putfield 85, 3) := by decide +kernel
theorem d_M_run_59 : decode prog_6_method_26_code 59 = .ok (.aload_n 0, 1) := by decide +kernel
theorem d_M_run_60 : decode prog_6_method_26_code 60 = .ok (.invokevirtual 166, 3) := by decide +kernel
theorem d_M_run_63 : decode prog_6_method_26_code 63 = .ok (.aload_n 0, 1) := by decide +kernel
theorem d_M_run_64 : decode prog_6_method_26_code 64 = .ok (.invokevirtual 169, 3) := by decide +kernel
theorem d_M_run_67 : decode prog_6_method_26_code 67 = .ok (.istore_n 3, 1) := by decide +kernel
theorem d_M_run_68 : decode prog_6_method_26_code 68 = .ok (.aload_n 0, 1) := by decide +kernel
theorem d_M_run_69 : decode prog_6_method_26_code 69 = .ok (.iload_n 3, 1) := by decide +kernel
theorem d_M_run_70 : decode prog_6_method_26_code 70 = .ok (.invokevirtual 173, 3) := by decide +kernel
theorem d_M_run_73 : decode prog_6_method_26_code 73 = .ok (.aload_n 0, 1) := by decide +kernel
theorem d_M_run_74 : decode prog_6_method_26_code 74 = .ok (.iload_n 3, 1) := by decide +kernel
theorem d_M_run_75 : decode prog_6_method_26_code 75 = .ok (.invokevirtual 176, 3) := by decide +kernel
theorem d_M_run_78 : decode prog_6_method_26_code 78 = .ok (.aload_n 0, 1) := by decide +kernel
theorem d_M_run_79 : decode prog_6_method_26_code 79 = .ok (.invokevirtual 179, 3) := by decide +kernel
theorem d_M_run_82 : decode prog_6_method_26_code 82 = .ok (.aload_n 0, 1) := by decide +kernel
theorem d_M_run_83 : decode prog_6_method_26_code 83 = .ok (.getfield 55, 3) := by decide +kernel
theorem d_M_run_86 : decode prog_6_method_26_code 86 = .ok (.aload_n 0, 1) := by decide +kernel
theorem d_M_run_87 : decode prog_6_method_26_code 87 = .ok (.getfield 85, 3) := by decide +kernel
theorem d_M_run_90 : decode prog_6_method_26_code 90 = .ok (.bipush 64, 2) := by decide +kernel
theorem d_M_run_92 : decode prog_6_method_26_code 92 = .ok (.irem, 1) := by decide +kernel
theorem d_M_run_93 : decode prog_6_method_26_code 93 = .ok (.iload_n 3, 1) := by decide +kernel
theorem d_M_run_94 : decode prog_6_method_26_code 94 = .ok (.iastore, 1) := by decide +kernel
theorem d_M_run_95 : decode prog_6_method_26_code 95 = .ok (.aload_n 0, 1) := by decide +kernel
theorem d_M_run_96 : decode prog_6_method_26_code 96 = .ok (.iload_n 3, 1) := by decide +kernel
theorem d_M_run_97 : decode prog_6_method_26_code 97 = .ok (.iconst 1, 1) := by decide +kernel
theorem d_M_run_98 : decode prog_6_method_26_code 98 = .ok (.if_icmp .ne 12, 3) := by decide +kernel
theorem d_M_run_101 : decode prog_6_method_26_code 101 = .ok (.aload_n 0, 1) := by decide +kernel
theorem d_M_run_102 : decode prog_6_method_26_code 102 = .ok (.getfield 8, 3) := by decide +kernel
theorem d_M_run_105 : decode prog_6_method_26_code 105 = .ok (.iconst 1, 1) := by decide +kernel
theorem d_M_run_106 : decode prog_6_method_26_code 106 = .ok (.iadd, 1) := by decide +kernel
theorem d_M_run_107 : decode prog_6_method_26_code 107 = .ok (.goto 4, 3) := by decide +kernel
theorem d_M_run_110 : decode prog_6_method_26_code 110 = .ok (.iconst 0, 1) := by decide +kernel
theorem d_M_run_111 : decode prog_6_method_26_code 111 = .ok (.putfield 8, 3) := by decide +kernel
theorem d_M_run_114 : decode prog_6_method_26_code 114 = .ok (.iinc 2 1, 3) := by decide +kernel
theorem d_M_run_117 : decode prog_6_method_26_code 117 = .ok (.goto (-80), 3) := by decide +kernel
theorem d_M_run_120 : decode prog_6_method_26_code 120 = .ok (.aload_n 0, 1) := by decide +kernel
theorem d_M_run_121 : decode prog_6_method_26_code 121 = .ok (.getfield 70, 3) := by decide +kernel
theorem d_M_run_124 : decode prog_6_method_26_code 124 = .ok (.ifCond .le 7, 3) := by decide +kernel
theorem d_M_run_127 : decode prog_6_method_26_code 127 = .ok (.iconst 0, 1) := by decide +kernel
theorem d_M_run_128 : decode prog_6_method_26_code 128 = .ok (.goto 7, 3) := by decide +kernel
theorem d_M_run_131 : decode prog_6_method_26_code 131 = .ok (.aload_n 0, 1) := by decide +kernel
theorem d_M_run_132 : decode prog_6_method_26_code 132 = .ok (.getfield 85, 3) := by decide +kernel
theorem d_M_run_135 : decode prog_6_method_26_code 135 = .ok (.ireturn, 1) := by decide +kernel
def b_M_run_135 (post : Option Value → Mm → Prop) : Kk := (i_iret post)
theorem t_M_run_135 {Z : Zt} {X0 : Mm} {post : Option Value → Mm → Prop} (g : Good Z prog_6_method_26_code 4 "BusTelegramsModel" 4) (hq : RetZ Z true X0 0 0 post) (hr : (zM Z).sig.returnType = (some .int)) : Snd Z 4 135 (b_M_run_135 post) := by
  unfold b_M_run_135
  exact (s_iret0 g hq hr d_M_run_135)
def b_M_run_120 (post : Option Value → Mm → Prop) : Kk := (i_aload 0 (i_getI 4 0 (i_if (fun x y => x ≤ y) (i_aload 0 (i_getI 4 1 (b_M_run_135 post))) (i_push (.int 0) (b_M_run_135 post)))))
theorem t_M_run_120 {Z : Zt} {X0 : Mm} {post : Option Value → Mm → Prop} (g : Good Z prog_6_method_26_code 4 "BusTelegramsModel" 4) (hq : RetZ Z true X0 0 0 post) (hr : (zM Z).sig.returnType = (some .int)) : Snd Z 4 120 (b_M_run_120 post) := by
  unfold b_M_run_120
  exact (s_aload_n g d_M_run_120 rfl (s_getI g (c := 4) (j := 0) cok_4 (by decide) rfl mw_554 rfl d_M_run_121 (s_if_le g d_M_run_124 (by decide) (s_aload_n g d_M_run_131 rfl (s_getI g (c := 4) (j := 1) cok_4 (by decide) rfl mw_555 rfl d_M_run_132 (t_M_run_135 g hq hr))) (s_push_iconst g d_M_run_127 (by decide) (s_goto g d_M_run_128 (by decide) (t_M_run_135 g hq hr))))))
def b_M_run_111 (post : Option Value → Mm → Prop) (k37 : Kk) : Kk := (i_putI 4 2 (i_iinc 2 1 k37))
theorem t_M_run_111 {Z : Zt} {X0 : Mm} {post : Option Value → Mm → Prop} {k37 : Kk} (g : Good Z prog_6_method_26_code 4 "BusTelegramsModel" 4) (hq : RetZ Z true X0 0 0 post) (hr : (zM Z).sig.returnType = (some .int)) (hk37 : Snd Z 4 37 k37) : Snd Z 4 111 (b_M_run_111 post k37) := by
  unfold b_M_run_111
  exact (s_putI g (c := 4) (j := 2) cok_4 (by decide) rfl rfl rfl mw_556 rfl d_M_run_111 (s_iinc g (by decide) d_M_run_114 (by decide) (s_goto g d_M_run_117 (by decide) hk37)))
def b_M_run_37 (post : Option Value → Mm → Prop) : Kk := i_loop [0, 1, 2] (fun k37 => (i_iload 2 (i_iload 1 (i_icmp (fun x y => y ≤ x) (b_M_run_120 post) (i_aload 0 (i_getI 4 0 (i_if (fun x y => x = y) (i_aload 0 (i_dup (i_getI 4 1 (i_push (.int 1) (i_bin (fun x y => x + y) (i_putI 4 1 (i_aload 0 (i_callV 0 4 w_M_begin (i_aload 0 (i_callV 0 4 w_M_line (i_istore 3 (i_aload 0 (i_iload 3 (i_callV 1 4 w_M_goOn (i_aload 0 (i_iload 3 (i_callV 1 4 w_M_hear (i_aload 0 (i_callV 0 4 w_M_look (i_aload 0 (i_getR 4 17 (i_aload 0 (i_getI 4 1 (i_push (.int 64) (i_binz (fun x y => x - x / y * y) (i_iload 3 (i_ast (i_aload 0 (i_iload 3 (i_push (.int 1) (i_icmp (fun x y => x = y) (i_aload 0 (i_getI 4 2 (i_push (.int 1) (i_bin (fun x y => x + y) (b_M_run_111 post k37))))) (i_push (.int 0) (b_M_run_111 post k37))))))))))))))))))))))))))))))))) (b_M_run_120 post))))))))
theorem t_M_run_37 {Z : Zt} {X0 : Mm} {post : Option Value → Mm → Prop} (g : Good Z prog_6_method_26_code 4 "BusTelegramsModel" 4) (hq : RetZ Z true X0 0 0 post) (hr : (zM Z).sig.returnType = (some .int)) : Snd Z 4 37 (b_M_run_37 post) := by
  unfold b_M_run_37
  exact s_loop (fun k37 hk37 => (s_iload_n g d_M_run_37 rfl (s_iload_n g d_M_run_38 rfl (s_icmp_ge g d_M_run_39 (by decide) (t_M_run_120 g hq hr) (s_aload_n g d_M_run_42 rfl (s_getI g (c := 4) (j := 0) cok_4 (by decide) rfl mw_554 rfl d_M_run_43 (s_if_ne g d_M_run_46 (by decide) (t_M_run_120 g hq hr) (s_aload_n g d_M_run_49 rfl (s_dup g d_M_run_50 (s_getI g (c := 4) (j := 1) cok_4 (by decide) rfl mw_555 rfl d_M_run_51 (s_push_iconst g d_M_run_54 (by decide) (s_iadd g d_M_run_55 (s_putI g (c := 4) (j := 1) cok_4 (by decide) rfl rfl rfl mw_555 rfl d_M_run_56 (s_aload_n g d_M_run_59 rfl (s_callV g (C_M_begin (zl Z)) (gin_V mw_696 mw_698 ms_15 mw_5 mw_699) hd_M_begin rfl (by decide) (by decide) (by decide) d_M_run_60 (s_aload_n g d_M_run_63 rfl (s_callV g (C_M_line (zl Z)) (gin_V mw_704 mw_706 ms_17 mw_5 mw_707) hd_M_line rfl (by decide) (by decide) (by decide) d_M_run_64 (s_istore_n g (by decide) d_M_run_67 rfl (s_aload_n g d_M_run_68 rfl (s_iload_n g d_M_run_69 rfl (s_callV g (C_M_goOn (zl Z)) (gin_V mw_727 mw_729 ms_22 mw_5 mw_730) hd_M_goOn rfl (by decide) (by decide) (by decide) d_M_run_70 (s_aload_n g d_M_run_73 rfl (s_iload_n g d_M_run_74 rfl (s_callV g (C_M_hear (zl Z)) (gin_V mw_731 mw_733 ms_23 mw_5 mw_734) hd_M_hear rfl (by decide) (by decide) (by decide) d_M_run_75 (s_aload_n g d_M_run_78 rfl (s_callV g (C_M_look (zl Z)) (gin_V mw_751 mw_753 ms_28 mw_5 mw_754) hd_M_look rfl (by decide) (by decide) (by decide) d_M_run_79 (s_aload_n g d_M_run_82 rfl (s_getR g (c := 4) (j := 17) cok_4 (by decide) rfl mw_571 rfl d_M_run_83 (s_aload_n g d_M_run_86 rfl (s_getI g (c := 4) (j := 1) cok_4 (by decide) rfl mw_555 rfl d_M_run_87 (s_push_bipush g d_M_run_90 (by decide) (s_irem g d_M_run_92 (s_iload_n g d_M_run_93 rfl (s_iast g d_M_run_94 (s_aload_n g d_M_run_95 rfl (s_iload_n g d_M_run_96 rfl (s_push_iconst g d_M_run_97 (by decide) (s_icmp_ne g d_M_run_98 (by decide) (s_push_iconst g d_M_run_110 (by decide) (t_M_run_111 g hq hr hk37)) (s_aload_n g d_M_run_101 rfl (s_getI g (c := 4) (j := 2) cok_4 (by decide) rfl mw_556 rfl d_M_run_102 (s_push_iconst g d_M_run_105 (by decide) (s_iadd g d_M_run_106 (s_goto g d_M_run_107 (by decide) (t_M_run_111 g hq hr hk37))))))))))))))))))))))))))))))))))))))))))))
def b_M_run_32 (post : Option Value → Mm → Prop) : Kk := (i_putI 4 0 (i_push (.int 0) (i_istore 2 (b_M_run_37 post))))
theorem t_M_run_32 {Z : Zt} {X0 : Mm} {post : Option Value → Mm → Prop} (g : Good Z prog_6_method_26_code 4 "BusTelegramsModel" 4) (hq : RetZ Z true X0 0 0 post) (hr : (zM Z).sig.returnType = (some .int)) : Snd Z 4 32 (b_M_run_32 post) := by
  unfold b_M_run_32
  exact (s_putI g (c := 4) (j := 0) cok_4 (by decide) rfl rfl rfl mw_554 rfl d_M_run_32 (s_push_iconst g d_M_run_35 (by decide) (s_istore_n g (by decide) d_M_run_36 rfl (t_M_run_37 g hq hr))))
def b_M_run_0 (post : Option Value → Mm → Prop) : Kk := (i_aload 0 (i_iload 1 (i_push (.int 1) (i_push (.int 2000) (i_callS 3 w_M_isIn (i_if (fun x y => x = y) (i_push (.int 1) (b_M_run_32 post)) (i_aload 0 (i_getI 4 1 (i_iload 1 (i_bin (fun x y => x + y) (i_push (.int 100000) (i_icmp (fun x y => x ≤ y) (i_push (.int 0) (b_M_run_32 post)) (i_push (.int 2) (b_M_run_32 post))))))))))))))
theorem t_M_run_0 {Z : Zt} {X0 : Mm} {post : Option Value → Mm → Prop} (g : Good Z prog_6_method_26_code 4 "BusTelegramsModel" 4) (hq : RetZ Z true X0 0 0 post) (hr : (zM Z).sig.returnType = (some .int)) : Snd Z 4 0 (b_M_run_0 post) := by
  unfold b_M_run_0
  exact (s_aload_n g d_M_run_0 rfl (s_iload_n g d_M_run_1 rfl (s_push_iconst g d_M_run_2 (by decide) (s_push_sipush g d_M_run_3 (by decide) (s_callS g (C_M_isIn (zl Z)) (gin_S mw_668 mw_669 mw_5 mw_670) hd_M_isIn (by decide) (by decide) d_M_run_6 (s_if_ne g d_M_run_9 (by decide) (s_aload_n g d_M_run_16 rfl (s_getI g (c := 4) (j := 1) cok_4 (by decide) rfl mw_555 rfl d_M_run_17 (s_iload_n g d_M_run_20 rfl (s_iadd g d_M_run_21 (s_push_ldc g mw_695 d_M_run_22 (s_icmp_le g d_M_run_24 (by decide) (s_push_iconst g d_M_run_31 (by decide) (t_M_run_32 g hq hr)) (s_push_iconst g d_M_run_27 (by decide) (s_goto g d_M_run_28 (by decide) (t_M_run_32 g hq hr))))))))) (s_push_iconst g d_M_run_12 (by decide) (s_goto g d_M_run_13 (by decide) (t_M_run_32 g hq hr)))))))))
def w_M_run : Wp := wpOf 4 (fun _ post => b_M_run_0 post)
theorem C_M_run (l : Launch) : MetS l ({ cls := "BusTelegramsModel", name := "run", desc := "(I)I" } : Jvm.MethodName) prog_6_method_26_code 4 (some .int) true 4 0 0 w_M_run := metS_of (by decide +kernel) (fun Z X0 post hZ g hq hr _ => t_M_run_0 g hq hr)
theorem hd_M_run : (({ cls := "BusTelegramsModel", name := "run", desc := "(I)I" } : Jvm.MethodName)).cls = "BusTelegramsModel" ∧ (({ cls := "BusTelegramsModel", name := "run", desc := "(I)I" } : Jvm.MethodName)).cls ≠ "java/lang/invoke/MethodHandle" ∧ (({ cls := "BusTelegramsModel", name := "run", desc := "(I)I" } : Jvm.MethodName)).cls ≠ "java/lang/invoke/VarHandle" ∧ (parseMethodDescriptor (({ cls := "BusTelegramsModel", name := "run", desc := "(I)I" } : Jvm.MethodName)).desc).map (fun d => d.parameters.length) = some 1 := ⟨rfl, by decide, by decide, by decide +kernel⟩
end
section
/-! methods that throw, and their catching -/
def cIA : String := "java/lang/IllegalArgumentException"
def cIS : String := "java/lang/IllegalStateException"
def exn : Nat → String
  | 1 => "java/lang/IllegalArgumentException"
  | _ => "java/lang/IllegalStateException"
def supn : List String := ["java/lang/RuntimeException", "java/lang/Exception"]
def BL : List Cond := [.declares ⟨"java/lang/RuntimeException", "<init>", "(Ljava/lang/String;)V"⟩, .declares ⟨"java/lang/Exception", "<init>", "(Ljava/lang/String;)V"⟩, .declares ⟨"java/lang/Throwable", "<init>", "(Ljava/lang/String;)V"⟩, .castable "java/lang/IllegalArgumentException" "java/lang/IllegalArgumentException", .castable "java/lang/IllegalStateException" "java/lang/IllegalStateException"]
theorem bl_tab : ∀ w ∈ BL, w.onTables = true := by decide +kernel
theorem bl_eq {U V : State} (h : U.vm = V.vm) (hN : ∀ w ∈ BL, va_Nw w U) : ∀ w ∈ BL, va_Nw w V := fun w hw => va_tabs (bl_tab w hw) h (hN w hw)
theorem bl_warm {s U : State} (hW : s.WarmedH U.vm) (h : ∀ w ∈ BL, va_Nw w s) : ∀ w ∈ BL, va_Nw w U := by
  intro w hw
  simp only [BL, List.mem_cons, List.not_mem_nil, or_false] at hw
  rcases hw with rfl | rfl | rfl | rfl | rfl
  · exact va_Nw.warmD hW (h _ (by simp [BL]))
  · exact va_Nw.warmD hW (h _ (by simp [BL]))
  · exact va_Nw.warmD hW (h _ (by simp [BL]))
  · exact va_Nw.warmC hW (h _ (by simp [BL]))
  · exact va_Nw.warmC hW (h _ (by simp [BL]))
def SL : List (Nat × String) := [(50, "no such station or address"), (58, "no such station or group"), (63, "no such station"), (69, "no such station or priority"), (71, "the aim is no address or no group"), (73, "no such data"), (80, "the queue is full"), (100, "not so many bit times behind this one"), (102, "too many disturbances are to come"), (108, "not so many bit times at once"), (111, "too many bit times in all"), (116, "no such bit time is kept"), (121, "no such station or no such fact of it"), (126, "no such count"), (134, "the latest telegram has no such byte"), (158, "not two bytes")]
def XOk (A : Nat → Prop) (U : State) (H : Heap) : Prop := (∀ w ∈ BL, va_Nw w U) ∧ vx_Zq Bundle.tN "UNASSIGNED_STACK" Bundle.steD A U H ∧ vx_Zq Bundle.tN "SUPPRESSED_SENTINEL" Bundle.listD A U H ∧ (∀ q ∈ SL, ∃ a, vk_R "BusTelegrams" q.1 q.2 a U) ∧ va_Nc "java/lang/IllegalStateException" "java/lang/IllegalArgumentException" U
theorem XOk.go {A A1 : Nat → Prop} {s U : State} {H0 H : Heap} (h : XOk A s H0) (hW : s.WarmedH U.vm) (hk : ∀ q : Nat, q < H0.size → ¬ A q → H[q]? = H0[q]?) (hA : ∀ q, A1 q → A q) : XOk A1 U H :=
  ⟨bl_warm hW h.1, vx_Zq.narrow (vx_Zq.moved hW.alike (h.2.1.kept hk)) hA, vx_Zq.narrow (vx_Zq.moved hW.alike (h.2.2.1.kept hk)) hA, fun q hq => by obtain ⟨a, ha⟩ := h.2.2.2.1 q hq; exact ⟨a, ha.warm hW⟩, va_Nc.moved hW.alike h.2.2.2.2⟩
theorem XOk.same {A : Nat → Prop} {s U : State} {H : Heap} (h : XOk A s H) (hv : s.vm = U.vm) : XOk A U H :=
  ⟨bl_eq hv h.1, vx_Zq.moved (by rw [← hv]; exact Vm.Alike.refl _) h.2.1, vx_Zq.moved (by rw [← hv]; exact Vm.Alike.refl _) h.2.2.1, fun q hq => by obtain ⟨a, ha⟩ := h.2.2.2.1 q hq; exact ⟨a, vk_R.same hv.symm ha⟩, va_Nc.moved (by rw [← hv]; exact Vm.Alike.refl _) h.2.2.2.2⟩
abbrev WpT : Type := List Value → Mm → (Option Value → Mm → Prop) → (Nat → Mm → Prop) → Prop
def PcxT (E : va_G × (Nat → ClassId)) (ad : Nat → Nat) (sz : Nat) (X : Mm) (a : List Value) (pre : Prop) : Array Value → State → Prop := fun v U => Pcx E ad sz X a pre v U ∧ XOk (va_A (wl E.2 ad X) sz) U U.heap
theorem pcxT_blind {E : va_G × (Nat → ClassId)} {ad : Nat → Nat} {sz : Nat} {X : Mm} {a : List Value} {pre : Prop} : FrameBlind (PcxT E ad sz X a pre) := by
  intro b U g mk ⟨h, h8⟩
  exact ⟨pcx_blind b U g mk h, h8.same (s := U) (U := U.calling g mk b) rfl⟩
def Xcx (E : va_G × (Nat → ClassId)) (ad : Nat → Nat) (X : Mm) (mc ms : Nat) (A : Nat → Prop) (postX : Nat → Mm → Prop) : String → State → State → Prop := fun En st t =>
  ∃ (kd : Nat) (X' : Mm), En = exn kd ∧ postX kd X' ∧ WFx X' ∧ xn X' = xn X ∧ xc X' = xc X + mc ∧ xs X' = xs X + ms ∧ va_P E.1 vcl (wl E.2 ad X') t.heap ∧ va_D A (wl E.2 ad X') ∧ va_F A st t
def MetT (l : Launch) (y : MethodName) (cc : ByteArray) (maxL : Nat) (ret : Option FieldType) (lv mc ms : Nat) (w : WpT) : Prop :=
  ∀ (E : va_G × (Nat → ClassId)) (ad : Nat → Nat) (sz : Nat) (X : Mm) (a : List Value) (post : Option Value → Mm → Prop) (postX : Nat → Mm → Prop), vx_Met l y (wsx y cc maxL ret) (rmx lv mc ms) (PcxT E ad sz X a (w a X post postX)) (Qcx true E ad X mc ms (va_A (wl E.2 ad X) sz) post) (Xcx E ad X mc ms (va_A (wl E.2 ad X) sz) postX) mc ms (va_A (wl E.2 ad X) sz)
def RetT (Z : Zt) (X0 : Mm) (mc ms : Nat) (post : Option Value → Mm → Prop) (postX : Nat → Mm → Prop) : Prop :=
  zc0 Z = xc X0 ∧ zs0 Z = xs X0 ∧ zn0 Z = xn X0 ∧ zcm Z = xc X0 + mc ∧ zsm Z = xs X0 + ms ∧ zfl Z = true ∧ zQ Z = vx_MQ (zb Z) (Qcx true (zE Z) (zad Z) X0 mc ms (zA Z) post) (Xcx (zE Z) (zad Z) X0 mc ms (zA Z) postX) (za Z) (zs Z) mc ms (zA Z) ∧
  XOk (zA Z) (zs Z) (zs Z).heap ∧ (zl Z).stackTraces = false ∧ (∀ x ∈ (zc Z).exceptionTable.toList, False) ∧ mc ≤ (zR Z).cells ∧ ms ≤ (zR Z).slots
theorem RetT.Z {Z : Zt} {X0 : Mm} {mc ms : Nat} {post : Option Value → Mm → Prop} {postX : Nat → Mm → Prop} (h : RetT Z X0 mc ms post postX) : RetZ Z true X0 mc ms post :=
  ⟨h.1, h.2.1, h.2.2.1, h.2.2.2.1, h.2.2.2.2.1, h.2.2.2.2.2.1, Or.inr ⟨_, h.2.2.2.2.2.2.1⟩⟩
section ThrowRows
variable {Z : Zt} {cc : ByteArray} {nL lv : Nat} {own : String} {pc : Nat} {k : Kk} {X0 : Mm} {mc ms : Nat} {post : Option Value → Mm → Prop} {postX : Nat → Mm → Prop}
def i_throw (kd : Nat) (X0 : Mm) (mc ms : Nat) (postX : Nat → Mm → Prop) : Kk := fun _ st X => match st with
  | [] => xc X + 1 ≤ xc X0 + mc ∧ xs X + 6 ≤ xs X0 + ms ∧ postX kd (xbump X (xc X0 + mc) (xs X0 + ms))
  | _ => False
theorem s_throw (g : Good Z cc nL "BusTelegrams" lv) (hq : RetT Z X0 mc ms post postX) {kd ik is ic : Nat} {text : String} (hlv : 6 ≤ lv) (hS : (is, text) ∈ SL) (hk : Cond.classLink "BusTelegrams" ik (exn kd) ∈ GL) (hi : Cond.initialized (exn kd) ∈ GL)
    (hfit : Bundle.fit (exn kd) = true) (hG1 : ∀ w ∈ (vx_atS "BusTelegrams" ic (exn kd) supn).filter goodWord, w ∈ GL) (hG2 : ∀ w ∈ (vx_atS "BusTelegrams" ic (exn kd) supn).filter (fun w => !goodWord w), w ∈ BL) (hG3 : ∀ w ∈ Cond.classLink "BusTelegrams" ik (exn kd) :: Cond.initialized (exn kd) :: vx_atS "BusTelegrams" ic (exn kd) supn, vx_ot w = true)
    (d0 : decode cc pc = .ok (.new ik, 3)) (d3 : decode cc (pc + 3) = .ok (.dup, 1)) (d4 : decode cc (pc + 4) = .ok (.ldc is, 2)) (d6 : decode cc (pc + 6) = .ok (.invokespecial ic, 3)) (d9 : decode cc (pc + 9) = .ok (.athrow, 1)) : Snd Z nL pc (i_throw kd X0 mc ms postX) := by
  intro l st X hk9 ad H locs ls cells slots hw hl
  unfold i_throw at hk9
  split at hk9
  · obtain ⟨hc1, hs1, hp⟩ := hk9
    obtain ⟨q1, q2, q3, q4, q5, q6, hQ, ⟨hBL, hU, hN, hSL, -⟩, hst, htb, hmc, hms⟩ := hq
    obtain ⟨sa, hsa⟩ := hSL _ hS
    have hfr := g.hfr
    have hlo := g.hlo
    have hS5 := hw.S
    obtain ⟨h1, h2, h3, h4, h5, h6, h7, h8, h9, h10, h11⟩ := id hw
    show W _ _ _ _ _ _ _ _ _ _ _ _ _ _ (zQ Z) _
    rw [hQ]
    refine vx_throwS (names := supn) (text := text) (sa := sa) (A := zA Z) g.hx g.hb hst g.hown hfit (by decide +kernel) (g.hG _ hk) (g.hG _ hi) hsa (vx_hat (fun w hw => g.hG _ (hG1 w hw)) hG2 (fun w hw => va_Nw.use (bl_tab w hw) (hBL w hw))) hG3 hU hN hS5 (by rw [hl.1, g.hml]) d0 d3 d4 d6 d9 (fun x hx => (htb x hx).elim) ?_ ?_ ?_ ?_ g.hlk ?_ hS5.2.2 ?_ ?_
    · show 2 + 3 < _; omega
    · show 0 + (13 * (2 + 1) + 43) ≤ _; omega
    · omega
    · omega
    · intro t ht1 ht2 ht3
      have hkp : ∀ (i : Nat) (q : Nat × va_E), (wl (zE Z).2 ad X)[i]? = some q → t.heap[q.1]? = H[q.1]? := fun i q hq => ht3 q.1 (va_at.lt (h9 i q hq))
      obtain ⟨hn7, rfl⟩ := h7 q6
      refine ⟨kd, xbump X (xc X0 + mc) (xs X0 + ms), rfl, hp, h8, hn7.trans q3, rfl, rfl, h9.kept hkp, h10, ?_, fun q hq1 hq2 => ?_⟩
      · exact Nat.le_trans h11.1 ht2
      · rw [ht3 q (Nat.lt_of_lt_of_le hq1 h11.1)]; exact h11.2.1 q hq1 hq2
    · omega
    · omega
  · exact hk9.elim
def wpT (maxL : Nat) (b : Mm → (Option Value → Mm → Prop) → (Nat → Mm → Prop) → Kk) : WpT := fun a X post postX => asz a ≤ maxL ∧ b X post postX (lv_args 0 a) [] X
theorem metT_of {l : Launch} (hst : l.stackTraces = false) {y : MethodName} {cy : ByteArray} {maxL : Nat} {ret : Option FieldType} {lv mc ms : Nat} {b : Mm → (Option Value → Mm → Prop) → (Nat → Mm → Prop) → Kk} (hy : plainName y.cls = true)
    (body : ∀ (Z : Zt) (X0 : Mm) (post : Option Value → Mm → Prop) (postX : Nat → Mm → Prop), zl Z = l → Good Z cy maxL y.cls lv → RetT Z X0 mc ms post postX → (zM Z).sig.returnType = ret → Snd Z maxL 0 (b X0 post postX)) : MetT l y cy maxL ret lv mc ms (wpT maxL b) := by
  intro E ad sz X a post postX
  refine vx_ofW (cc := cy) (maxL := maxL) (ret := ret) hy rfl ?_
  intro p e s m args below meth c s₁ B hml htb hv
  obtain ⟨⟨rfl, hsz, ⟨hasz, hwp⟩, hWF, hP, hK, hD0, hN⟩, hXO⟩ := hv
  subst hsz
  have hl := lv_entry (a.map (conc ad)) (n := maxL) (by rw [lg_sl_conc]; exact Nat.le_trans (asz_le a) hasz)
  rw [lg_entry_eq]
  generalize (lg_sl (a.map (conc ad)) ++ List.replicate (maxL - (lg_sl (a.map (conc ad))).length) Slot.unset).toArray = ls at hl ⊢
  rw [args_conc] at hl
  have hts := atoms_spec (ws := wsx y cy maxL ret) B.pre
  have g : Good ((p, l, e, rmx lv mc ms, s, m, (a.map (conc ad)).toArray, below, meth, c, E, va_A (wl E.2 ad X) s.heap.size, (xc X, xs X, xn X, ad, xc X + mc, xs X + ms, true), vx_MQ below (Qcx true E ad X mc ms (va_A (wl E.2 ad X) s.heap.size) post) (Xcx E ad X mc ms (va_A (wl E.2 ad X) s.heap.size) postX) (a.map (conc ad)).toArray s mc ms (va_A (wl E.2 ad X) s.heap.size)) : Zt) cy maxL y.cls lv :=
    ⟨B.exec, B.bytes, hml, findClass_of_methodNamed B.named, fun w hw => hts w (List.mem_cons_of_mem _ hw), hN, hK, fun q h => Or.inr h, B.notSynchronized, Nat.le_refl _, Nat.le_refl _, Nat.le_refl _, Nat.le_refl _⟩
  exact body _ X post postX rfl g ⟨rfl, rfl, rfl, rfl, rfl, rfl, rfl, hXO, hst, htb, Nat.le_refl _, Nat.le_refl _⟩ B.returns (lv_args 0 a) [] X hwp ad s.heap [] ls 0 0
    ⟨Nat.zero_add _, Nat.zero_add _, Nat.le_add_right _ _, Nat.le_add_right _ _, Nat.le_refl _, fun _ _ => rfl, fun _ => ⟨rfl, rfl⟩, hWF, hP, hD0.self, va_S.rf⟩ hl
end ThrowRows
section HelpRows
variable {Z : Zt} {cc : ByteArray} {nL lv : Nat} {own : String} {pc : Nat} {k : Kk} {X0 : Mm} {mc ms : Nat} {post : Option Value → Mm → Prop}
def Hnd (Z : Zt) (nL pc kd : Nat) (kx : Kk) : Prop := ∀ (l : List (Nat × Value)) (X : Mm) (ad : Nat → Nat) (H : Heap) (locs : List Loc) (ls : Array Slot) (cells slots : Nat) (q : Addr) (ce : Cell) (rest : List Value), kx l [] X → Hw Z X ad H locs cells slots → lv_has ls nL (l.map (cq ad)) → H[q]? = some ce → ce.vm = .none → (zs Z).vm.findClass (exn kd) = some ce.cls →
  vx_W (zp Z) (zl Z) (ze Z) (zR Z) (zs Z) (zm Z) (za Z) (zb Z) (zM Z) (zc Z) H locs cells slots (zQ Z) (F0 (zm Z) pc ls rest) q
theorem hnd_F {kd : Nat} : Hnd Z nL pc kd (fun _ _ _ => False) := fun _ _ _ _ _ _ _ _ _ _ _ h => h.elim
/-- a handler begins with astore: the exception is put away -/
theorem has_forget {ls : Array Slot} {q : Nat × Value} {l : List (Nat × Value)} (h : lv_has ls nL (q :: l)) : lv_has ls nL l := ⟨h.1, h.2.1, fun x hx => h.2.2 x (List.mem_cons_of_mem _ hx)⟩
def i_drop (n : Nat) (k : Kk) : Kk := fun l st X => k (rm1 l n) st X
theorem hnd_put (g : Good Z cc nL own lv) {hp n : Nat} (hn : n < nL) (dd : (decode cc hp = .ok (.astore n, 2) ∧ Snd Z nL (hp + 2) k) ∨ (∃ q : Fin 4, decode cc hp = .ok (.astore_n q, 1) ∧ (q : Nat) = n ∧ Snd Z nL (hp + 1) k)) {l : List (Nat × Value)} {X : Mm} {ad : Nat → Nat} {H : Heap} {locs : List Loc} {ls : Array Slot} {cells slots : Nat} {q : Addr} (hk : i_drop n k l [] X) (hw : Hw Z X ad H locs cells slots) (hl : lv_has ls nL (l.map (cq ad))) : Ww Z H locs cells slots (F0 (zm Z) hp ls [.ref q]) := by
  rcases dd with ⟨d, h⟩ | ⟨q4, d, e4, h⟩
  · refine lv_astore (lv' := (n, Value.ref q) :: (rm1 l n).map (cq ad)) g.hx g.hb d hl hn (by rw [rm1_map]) (fun ls' hl' => ?_)
    exact h _ _ _ hk ad H locs ls' cells slots hw (has_forget hl')
  · refine lv_astore_n (lv' := (n, Value.ref q) :: (rm1 l n).map (cq ad)) g.hx g.hb d e4 hl hn (by rw [rm1_map]) (fun ls' hl' => ?_)
    exact h _ _ _ hk ad H locs ls' cells slots hw (has_forget hl')
theorem hnd_1 (g : Good Z cc nL own lv) (hB : ∀ w ∈ BL, va_Nw w (zs Z)) {s1 e1 hp t1 n : Nat} {hh : List (Nat × Nat × Nat × Nat)} (htab : (zc Z).exceptionTable.toList = tableOf ((s1, e1, hp, t1) :: hh)) (hcov : covers ⟨s1, e1, hp, t1⟩ pc = true) (h0 : t1 ≠ 0) (hl1 : Cond.classLink own t1 (exn 1) ∈ GL) (hn : n < nL)
    (dd : (decode cc hp = .ok (.astore n, 2) ∧ Snd Z nL (hp + 2) k) ∨ (∃ q : Fin 4, decode cc hp = .ok (.astore_n q, 1) ∧ (q : Nat) = n ∧ Snd Z nL (hp + 1) k)) : Hnd Z nL pc 1 (i_drop n k) := by
  intro l X ad H locs ls cells slots q ce rest hk hw hl hce hcv hcl
  exact vx_catch g.hown [] ⟨s1, e1, hp, t1⟩ (tableOf hh) htab (fun z hz => by cases hz) hcov h0 (g.hG _ hl1) (va_Nw.use (bl_tab _ (by decide +kernel)) (hB (.castable (exn 1) (exn 1)) (by decide +kernel))) hce hcv hcl (hnd_put g hn dd hk hw hl)
theorem hnd_2 (g : Good Z cc nL own lv) (hB : ∀ w ∈ BL, va_Nw w (zs Z)) (hNc : va_Nc (exn 2) (exn 1) (zs Z)) {s0 e0 p0 t0 s1 e1 hp t1 n : Nat} {hh : List (Nat × Nat × Nat × Nat)} (htab : (zc Z).exceptionTable.toList = tableOf ((s0, e0, p0, t0) :: (s1, e1, hp, t1) :: hh)) (h00 : t0 ≠ 0) (hl0 : Cond.classLink own t0 (exn 1) ∈ GL) (hcov : covers ⟨s1, e1, hp, t1⟩ pc = true) (h0 : t1 ≠ 0) (hl1 : Cond.classLink own t1 (exn 2) ∈ GL) (hn : n < nL)
    (dd : (decode cc hp = .ok (.astore n, 2) ∧ Snd Z nL (hp + 2) k) ∨ (∃ q : Fin 4, decode cc hp = .ok (.astore_n q, 1) ∧ (q : Nat) = n ∧ Snd Z nL (hp + 1) k)) : Hnd Z nL pc 2 (i_drop n k) := by
  intro l X ad H locs ls cells slots q ce rest hk hw hl hce hcv hcl
  refine vx_catch g.hown [⟨s0, e0, p0, t0⟩] ⟨s1, e1, hp, t1⟩ (tableOf hh) htab (fun z hz => ?_) hcov h0 (g.hG _ hl1) (va_Nw.use (bl_tab _ (by decide +kernel)) (hB (.castable (exn 2) (exn 2)) (by decide +kernel))) hce hcv hcl (hnd_put g hn dd hk hw hl)
  rcases List.mem_singleton.mp hz with rfl
  exact Or.inr ⟨h00, exn 1, g.hG _ hl0, hNc⟩
def i_callT (n c : Nat) (X0 : Mm) (mc ms : Nat) (w : WpT) (k : Kk) (kx : Nat → Kk) : Kk := fun l st X => (st.take n).length = n ∧ (match st.drop n with
  | .ref o :: rest => o < xn X ∧ xk X o = c ∧ (rest.map (fun v => v.category)).sum ≤ 8 ∧ xc X + 1 ≤ xc X0 + mc ∧ xs X + 6 ≤ xs X0 + ms ∧ w (.ref o :: (st.take n).reverse) X (fun r X' => k l (r.toList ++ rest) X') (fun kd X' => kx kd l [] X')
  | _ => False)
theorem s_callT (g : Good Z cc nL own lv) (hq : RetZ Z true X0 mc ms post) (hXO : XOk (zA Z) (zs Z) (zs Z).heap) {n c i lvy maxL N : Nat} {C : String} {T : u_T} {y : MethodName} {cy : ByteArray} {ret : Option FieldType} {w : WpT} {kx : Nat → Kk} (hM : MetT (zl Z) y cy maxL ret lvy 1 6 w) (hT : GoodIn GL (wsV own i C y (wsx y cy maxL ret)))
    (hd : y.cls = C ∧ y.cls ≠ "java/lang/invoke/MethodHandle" ∧ y.cls ≠ "java/lang/invoke/VarHandle" ∧ (parseMethodDescriptor y.desc).map (fun d => d.parameters.length) = some n) (hc : vcl[c]? = some (C, T, N)) (hc1 : c < 10) (hlv : lvy + 1 ≤ lv) (hm : maxL ≤ 17)
    (d : decode cc pc = .ok (.invokevirtual i, 3)) (h : Snd Z nL (pc + 3) k) (hh : ∀ kd, Hnd Z nL pc kd (kx kd)) : Snd Z nL pc (i_callT n c X0 mc ms w k kx) := by
  intro l st X hk ad H locs ls cells slots hw hl
  unfold i_callT at hk
  obtain ⟨hn, hk⟩ := hk
  split at hk
  · next o rest e =>
    obtain ⟨ho, hko, hcat, hcx, hsx, hk⟩ := hk
    have hfr := g.hfr
    have hlo := g.hlo
    have hcm := g.hcm
    have hsm := g.hsm
    obtain ⟨q1, q2, q3, q4, q5, q6, -⟩ := hq
    obtain ⟨z1, z2, z3, z4, -⟩ := id hw
    have hst : st.map (conc ad) = ((st.take n).reverse.map (conc ad)).reverse ++ .ref (ad o) :: rest.map (conc ad) := by
      rw [take_rev (n := n), e]; rfl
    rw [hst]
    have hA : ∀ q, va_A (wl (zE Z).2 ad X) H.size q → zA Z q := by
      intro q hq
      rcases hq with ⟨i, e, hq⟩ | hq
      · exact hw.D.2 i _ hq
      · exact g.hA q (Nat.le_trans hw.S.1 hq)
    have hr := vx_runV (As := (st.take n).reverse.map (conc ad)) (rest := rest.map (conc ad)) (g := F0 (zm Z) pc ls (((st.take n).reverse.map (conc ad)).reverse ++ .ref (ad o) :: rest.map (conc ad))) (locs := locs) (cells := cells) (slots := slots) (e := ze Z) (p := zp Z) (below := zb Z) (meth := zM Z) (R := zR Z) (H := H)
      ⟨g.hx, g.hb, g.hml, g.hown, g.hG⟩ (hM (zE Z) ad H.size X (.ref o :: (st.take n).reverse) (fun r X' => k l (r.toList ++ rest) X') (fun kd X' => kx kd l [] X')) (cwV n g.hG hT rfl rfl rfl hd ⟨Nat.le_trans hlv hfr, by show 8 + (maxL + 11) + 36 * lvy ≤ _; omega⟩)
      ⟨pcxT_blind, va_recv g.hK hw.P hc (fs := vfld c ad (xm X o) (xr X o)) (by rw [wl_get ho, cnt_obj hko hc1]), fun U hU hW => ⟨pre_of g hw hk (fun U hW => nl_warm hW g.hN) U hU hW, hXO.go hW (by rw [hU]; exact hw.S.2.1) hA⟩⟩ rfl (by rw [List.length_map, List.length_reverse]; exact hn) hl.1 rfl (lv_room (by rw [cat_map]; exact hcat)) d ⟨by omega, by omega⟩
    have hSk : ∀ (t T' : State) (L : List Loc) (st0 : State), st0.heap = H → T'.heap = t.heap → (∀ q ∈ L, va_A (wl (zE Z).2 ad X) H.size q.base) → va_F (va_A (wl (zE Z).2 ad X) H.size) st0 t → va_S (zA Z) (zs Z).heap T'.heap (locs ++ L) := by
      intro t T' L st0 h0 e1 hL hF
      obtain ⟨y1, y2⟩ := hF
      rw [h0] at y1 y2
      refine ⟨Nat.le_trans hw.S.1 (by rw [e1]; exact y1), fun q p1 p2 => ?_, fun q hq => ?_⟩
      · rw [e1, y2 q (Nat.lt_of_lt_of_le p1 hw.S.1) (fun z => p2 (hA q z))]
        exact hw.S.2.1 q p1 p2
      · rcases List.mem_append.mp hq with hq | hq
        · exact hw.S.2.2 q hq
        · exact hA _ (hL q hq)
    intro T1 hT1 Xs
    rcases hr T1 hT1 Xs with ⟨v, s0, t, T', L, h0, X', hL, e1, e2, ⟨r, X1, ad1, hv, hp, hWF, hn1, had, hfl, hc9, hs9, hP1, hD1, hF⟩, go⟩ | ⟨q, s0, t, T', L, En, ce, h0, X', hL, e1, e2, ⟨kd, X1, rfl, hp, hWF, hn2, hc9, hs9, hP1, hD1, hF⟩, hce, hcv, hcl, go⟩
    · obtain ⟨hn2, rfl⟩ := hfl rfl
      cases hv
      have hw1 : Hw Z X1 ad1 T'.heap (locs ++ L) (cells + 1) (slots + 6) := by
        obtain ⟨h1, h2, h3, h4, h5, h6, h7, h8, h9, h10, h11⟩ := hw
        refine ⟨by omega, by omega, by omega, by omega, by omega, h6, fun q => ⟨hn2.trans (h7 q).1, (h7 q).2⟩, hWF, by rw [e1]; exact hP1, hD1.weaken (fun _ _ _ q => hA _ q), hSk t T' L s0 h0 e1 hL hF⟩
      obtain ⟨t2, a1, b1⟩ := h l (r.toList ++ rest) X1 hp ad1 T'.heap (locs ++ L) ls (cells + 1) (slots + 6) hw1 hl T' rfl X'
      refine ⟨t2, go t2 ?_, b1⟩
      have e3 : (r.map (conc ad1)).toList ++ rest.map (conc ad1) = (r.toList ++ rest).map (conc ad1) := by rw [opt_map, List.map_append]
      show Steps _ _ _ (T'.setTop (F0 (zm Z) (pc + 3) ls ((r.map (conc ad1)).toList ++ rest.map (conc ad1)))) t2
      rw [e3]
      exact a1
    · have hw1 : Hw Z X1 ad T'.heap (locs ++ L) (cells + 1) (slots + 6) := by
        obtain ⟨h1, h2, h3, h4, h5, h6, h7, h8, h9, h10, h11⟩ := hw
        refine ⟨by omega, by omega, by omega, by omega, by omega, h6, fun q => ⟨hn2.trans (h7 q).1, (h7 q).2⟩, hWF, by rw [e1]; exact hP1, hD1.weaken (fun _ _ _ q => hA _ q), hSk t T' L s0 h0 e1 hL hF⟩
      obtain ⟨t2, a1, b1⟩ := hh kd l X1 ad T'.heap (locs ++ L) ls (cells + 1) (slots + 6) q ce (rest.map (conc ad)) hp hw1 hl (by rw [e1]; exact hce) hcv hcl T' rfl X'
      exact ⟨t2, go.trans a1, b1⟩
  · exact hk.elim
-- helpers: static methods of the law, with a table of handlers
abbrev wsh (y : MethodName) (cc : ByteArray) (maxL : Nat) (ret : Option FieldType) (hh : List (Nat × Nat × Nat × Nat)) : List Cond := Cond.codeWith y cc maxL ret hh :: GL
def MetH (l : Launch) (y : MethodName) (cc : ByteArray) (maxL : Nat) (ret : Option FieldType) (hh : List (Nat × Nat × Nat × Nat)) (lv mc ms : Nat) (w : Wp) : Prop :=
  ∀ (E : va_G × (Nat → ClassId)) (ad : Nat → Nat) (sz : Nat) (X : Mm) (a : List Value) (post : Option Value → Mm → Prop), Met l y (wsh y cc maxL ret hh) (rmx lv mc ms) (PcxT E ad sz X a (w a X post)) (Qcx true E ad X mc ms (va_A (wl E.2 ad X) sz) post) mc ms (va_A (wl E.2 ad X) sz)
theorem metH_of {l : Launch} {y : MethodName} {cy : ByteArray} {maxL : Nat} {ret : Option FieldType} {hh : List (Nat × Nat × Nat × Nat)} {lv mc ms : Nat} {b : Mm → (Option Value → Mm → Prop) → Kk} (hy : plainName y.cls = true)
    (body : ∀ (Z : Zt) (X0 : Mm) (post : Option Value → Mm → Prop), zl Z = l → Good Z cy maxL y.cls lv → RetZ Z true X0 mc ms post → XOk (zA Z) (zs Z) (zs Z).heap → (zc Z).exceptionTable.toList = tableOf hh → (zM Z).sig.returnType = ret → Snd Z maxL 0 (b X0 post)) : MetH l y cy maxL ret hh lv mc ms (wpOf maxL b) := by
  intro E ad sz X a post
  refine va_MetW (cc := cy) (maxL := maxL) (ret := ret) (hh := hh) hy rfl ?_
  intro p e s m args below meth c s₁ B hml hv
  obtain ⟨⟨rfl, hsz, ⟨hasz, hwp⟩, hWF, hP, hK, hD0, hN⟩, hXO⟩ := hv
  subst hsz
  have hl := lv_entry (a.map (conc ad)) (n := maxL) (by rw [lg_sl_conc]; exact Nat.le_trans (asz_le a) hasz)
  rw [lg_entry_eq]
  generalize (lg_sl (a.map (conc ad)) ++ List.replicate (maxL - (lg_sl (a.map (conc ad))).length) Slot.unset).toArray = ls at hl ⊢
  rw [args_conc] at hl
  have hts := atoms_spec (ws := wsh y cy maxL ret hh) B.pre
  have g : Good ((p, l, e, rmx lv mc ms, s, m, (a.map (conc ad)).toArray, below, meth, c, E, va_A (wl E.2 ad X) s.heap.size, (xc X, xs X, xn X, ad, xc X + mc, xs X + ms, true), MQ below (Qcx true E ad X mc ms (va_A (wl E.2 ad X) s.heap.size) post) (a.map (conc ad)).toArray s mc ms (va_A (wl E.2 ad X) s.heap.size)) : Zt) cy maxL y.cls lv :=
    ⟨B.exec, B.bytes, hml, findClass_of_methodNamed B.named, fun w hw => hts w (List.mem_cons_of_mem _ hw), hN, hK, fun q h => Or.inr h, B.notSynchronized, Nat.le_refl _, Nat.le_refl _, Nat.le_refl _, Nat.le_refl _⟩
  exact body _ X post rfl g ⟨rfl, rfl, rfl, rfl, rfl, rfl, Or.inl rfl⟩ hXO (vx_table (x := y) B (hts _ List.mem_cons_self)) B.returns (lv_args 0 a) [] X hwp ad s.heap [] ls 0 0
    ⟨Nat.zero_add _, Nat.zero_add _, Nat.le_add_right _ _, Nat.le_add_right _ _, Nat.le_refl _, fun _ _ => rfl, fun _ => ⟨rfl, rfl⟩, hWF, hP, hD0.self, va_S.rf⟩ hl
end HelpRows
end
section
/-! rows for the law: longs and doubles in arrays, the script, calls of helpers, the end -/
section LawRows
variable {Z : Zt} {cc : ByteArray} {nL lv : Nat} {own : String} {pc : Nat} {k : Kk} {X0 : Mm} {mc ms : Nat} {post : Option Value → Mm → Prop}
theorem Hw.sL {X : Mm} {ad : Nat → Nat} {H H1 : Heap} {locs locs1 : List Loc} {cells slots a j : Nat} {v : Int64} (h : Hw Z X ad H locs cells slots)
    (hP : va_P (zE Z).1 vcl (wl (zE Z).2 ad (xsL X a j v)) H1) (hD : va_D (zA Z) (wl (zE Z).2 ad (xsL X a j v))) (hS : va_S (zA Z) (zs Z).heap H1 locs1) : Hw Z (xsL X a j v) ad H1 locs1 cells slots :=
  ⟨h.1, h.2.1, h.2.2.1, h.2.2.2.1, h.2.2.2.2.1, h.2.2.2.2.2.1, h.2.2.2.2.2.2.1, h.2.2.2.2.2.2.2.1, hP, hD, hS⟩
theorem Hw.sD {X : Mm} {ad : Nat → Nat} {H H1 : Heap} {locs locs1 : List Loc} {cells slots a j : Nat} {v : UInt64} (h : Hw Z X ad H locs cells slots)
    (hP : va_P (zE Z).1 vcl (wl (zE Z).2 ad (xsD X a j v)) H1) (hD : va_D (zA Z) (wl (zE Z).2 ad (xsD X a j v))) (hS : va_S (zA Z) (zs Z).heap H1 locs1) : Hw Z (xsD X a j v) ad H1 locs1 cells slots :=
  ⟨h.1, h.2.1, h.2.2.1, h.2.2.2.1, h.2.2.2.2.1, h.2.2.2.2.2.1, h.2.2.2.2.2.2.1, h.2.2.2.2.2.2.2.1, hP, hD, hS⟩
theorem cnt_14 {cy : Nat → ClassId} {ad : Nat → Nat} {X : Mm} {a : Nat} (hka : xk X a = 14) : cnt cy ad X a = .inl (cy 4, xl X a, .inr (.inl (xL X a))) := by unfold cnt; rw [hka, if_neg (by decide), if_neg (by decide), if_neg (by decide), if_neg (by decide), if_pos rfl]
theorem cnt_15 {cy : Nat → ClassId} {ad : Nat → Nat} {X : Mm} {a : Nat} (hka : xk X a = 15) : cnt cy ad X a = .inl (cy 5, xl X a, .inr (.inr (.inr (.inl (xD X a))))) := by unfold cnt; rw [hka, if_neg (by decide), if_neg (by decide), if_neg (by decide), if_neg (by decide), if_neg (by decide), if_pos rfl]
theorem wl_sL {cy : Nat → ClassId} {ad : Nat → Nat} {X : Mm} {a i : Nat} {v : Int64} (hka : xk X a = 14) : (wl cy ad X).set a (ad a, .inl (cy 4, xl X a, .inr (.inl (vp_updL (xL X a) i v)))) = wl cy ad (xsL X a i v) := by
  refine wl_set (X := X) (X' := xsL X a i v) rfl ?_ cnt_sL
  have e : xL (xsL X a i v) a = vp_updL (xL X a) i v := by show (if a = a then vp_updL (xL X a) i v else xL X a) = _; rw [if_pos rfl]
  rw [cnt_14 (show xk (xsL X a i v) a = 14 from hka), e]
  rfl
theorem wl_sD {cy : Nat → ClassId} {ad : Nat → Nat} {X : Mm} {a i : Nat} {v : UInt64} (hka : xk X a = 15) : (wl cy ad X).set a (ad a, .inl (cy 5, xl X a, .inr (.inr (.inr (.inl (vf_upd (xD X a) i v)))))) = wl cy ad (xsD X a i v) := by
  refine wl_set (X := X) (X' := xsD X a i v) rfl ?_ cnt_sD
  have e : xD (xsD X a i v) a = vf_upd (xD X a) i v := by show (if a = a then vf_upd (xD X a) i v else xD X a) = _; rw [if_pos rfl]
  rw [cnt_15 (show xk (xsD X a i v) a = 15 from hka), e]
  rfl
def i_lald (k : Kk) : Kk := fun l st X => match st with
  | .int i :: .ref a :: r => a < xn X ∧ xk X a = 14 ∧ vp_in i (xl X a) ∧ k l (.long (xL X a i.toNatClampNeg) :: r) X
  | _ => False
def i_dald (k : Kk) : Kk := fun l st X => match st with
  | .int i :: .ref a :: r => a < xn X ∧ xk X a = 15 ∧ vp_in i (xl X a) ∧ k l (.double (xD X a i.toNatClampNeg) :: r) X
  | _ => False
def i_last (k : Kk) : Kk := fun l st X => match st with
  | .long v :: .int i :: .ref a :: r => a < xn X ∧ xk X a = 14 ∧ vp_in i (xl X a) ∧ k l r (xsL X a i.toNatClampNeg v)
  | _ => False
def i_dast (k : Kk) : Kk := fun l st X => match st with
  | .double v :: .int i :: .ref a :: r => a < xn X ∧ xk X a = 15 ∧ vp_in i (xl X a) ∧ k l r (xsD X a i.toNatClampNeg v)
  | _ => False
def i_lcmp (k : Kk) : Kk := fun l st X => match st with
  | .long y :: .long x :: r => k l (.int (lg_cmp x y) :: r) X
  | _ => False
theorem s_lald (g : Good Z cc nL own lv) (d : decode cc pc = .ok (.laload, 1)) (h : Snd Z nL (pc + 1) k) : Snd Z nL pc (i_lald k) := by
  intro l st X hk ad H locs ls cells slots hw hl
  unfold i_lald at hk
  split at hk
  · next i a r =>
    obtain ⟨ha, hka, hi, hk⟩ := hk
    exact va_lald g.hx g.hb g.hK hw.P a 4 (n := xl X a) (f := xL X a) (by rw [wl_get ha, cnt_14 hka]) rfl hi d (h _ _ _ hk ad H locs ls cells slots hw hl)
  · exact hk.elim
theorem s_dald (g : Good Z cc nL own lv) (d : decode cc pc = .ok (.daload, 1)) (h : Snd Z nL (pc + 1) k) : Snd Z nL pc (i_dald k) := by
  intro l st X hk ad H locs ls cells slots hw hl
  unfold i_dald at hk
  split at hk
  · next i a r =>
    obtain ⟨ha, hka, hi, hk⟩ := hk
    exact va_dald g.hx g.hb g.hK hw.P a 5 (n := xl X a) (f := xD X a) (by rw [wl_get ha, cnt_15 hka]) rfl hi d (h _ _ _ hk ad H locs ls cells slots hw hl)
  · exact hk.elim
theorem s_last (g : Good Z cc nL own lv) (d : decode cc pc = .ok (.lastore, 1)) (h : Snd Z nL (pc + 1) k) : Snd Z nL pc (i_last k) := by
  intro l st X hk ad H locs ls cells slots hw hl
  unfold i_last at hk
  split at hk
  · next v i a r =>
    obtain ⟨ha, hka, hi, hk⟩ := hk
    refine va_last g.hx g.hb g.hK hw.P hw.D hw.S a 4 (n := xl X a) (f := xL X a) (by rw [wl_get ha, cnt_14 hka]) rfl hi d ?_
    intro H1 locs1 hP hD hS
    rw [wl_sL hka] at hP hD
    exact h _ _ _ hk ad H1 locs1 ls cells slots (hw.sL hP hD hS) hl
  · exact hk.elim
theorem s_dast (g : Good Z cc nL own lv) (d : decode cc pc = .ok (.dastore, 1)) (h : Snd Z nL (pc + 1) k) : Snd Z nL pc (i_dast k) := by
  intro l st X hk ad H locs ls cells slots hw hl
  unfold i_dast at hk
  split at hk
  · next v i a r =>
    obtain ⟨ha, hka, hi, hk⟩ := hk
    refine va_dast g.hx g.hb g.hK hw.P hw.D hw.S a 5 (n := xl X a) (f := xD X a) (by rw [wl_get ha, cnt_15 hka]) rfl hi d ?_
    intro H1 locs1 hP hD hS
    rw [wl_sD hka] at hP hD
    exact h _ _ _ hk ad H1 locs1 ls cells slots (hw.sD hP hD hS) hl
  · exact hk.elim
theorem s_lcmp (g : Good Z cc nL own lv) (d : decode cc pc = .ok (.lcmp, 1)) (h : Snd Z nL (pc + 1) k) : Snd Z nL pc (i_lcmp k) := by
  intro l st X hk ad H locs ls cells slots hw hl
  unfold i_lcmp at hk
  split at hk
  · exact W.lcmp g.hx g.hb d (h _ _ _ hk ad H locs ls cells slots hw hl)
  · exact hk.elim
-- calls of helpers (room 1, 6), from the law
def i_callH (n : Nat) (X0 : Mm) (mc ms : Nat) (w : Wp) (k : Kk) : Kk := fun l st X => (st.take n).length = n ∧ ((st.drop n).map (fun v => v.category)).sum ≤ 8 ∧ xc X + 1 ≤ xc X0 + mc ∧ xs X + 6 ≤ xs X0 + ms ∧ w (st.take n).reverse X (fun r X' => xn X' = xn X → k l (r.toList ++ st.drop n) X')
/-- the law's own frame: what its fixed things are -/
def LawZ (Z : Zt) (X0 : Mm) (mc ms : Nat) : Prop := zc0 Z = xc X0 ∧ zs0 Z = xs X0 ∧ zn0 Z = xn X0 ∧ zcm Z = xc X0 + mc ∧ zsm Z = xs X0 + ms ∧ zfl Z = false ∧ XOk (zA Z) (zs Z) (zs Z).heap
theorem s_callH (g : Good Z cc nL own lv) (hq : LawZ Z X0 mc ms) {n i lvy maxL : Nat} {y : MethodName} {cy : ByteArray} {ret : Option FieldType} {hh : List (Nat × Nat × Nat × Nat)} {w : Wp} (hM : MetH (zl Z) y cy maxL ret hh lvy 1 6 w) (hT : GoodIn GL (va_wsS own i y (wsh y cy maxL ret hh)))
    (hd : y.cls ≠ "java/lang/invoke/MethodHandle" ∧ y.cls ≠ "java/lang/invoke/VarHandle" ∧ (parseMethodDescriptor y.desc).map (fun d => d.parameters.length) = some n) (hlv : lvy + 1 ≤ lv) (hm : maxL ≤ 17)
    (d : decode cc pc = .ok (.invokestatic i, 3)) (h : Snd Z nL (pc + 3) k) : Snd Z nL pc (i_callH n X0 mc ms w k) := by
  intro l st X hk ad H locs ls cells slots hw hl
  unfold i_callH at hk
  obtain ⟨hn, hcat, hcx, hsx, hk⟩ := hk
  have hfr := g.hfr
  have hlo := g.hlo
  have hcm := g.hcm
  have hsm := g.hsm
  obtain ⟨q1, q2, q3, q4, q5, q6, hXO⟩ := hq
  obtain ⟨z1, z2, z3, z4, -⟩ := id hw
  rw [take_rev (n := n) (st := st)]
  have hA : ∀ q, va_A (wl (zE Z).2 ad X) H.size q → zA Z q := by
    intro q hq
    rcases hq with ⟨i, e, hq⟩ | hq
    · exact hw.D.2 i _ hq
    · exact g.hA q (Nat.le_trans hw.S.1 hq)
  have hr := vx_runSW (As := (st.take n).reverse.map (conc ad)) (rest := (st.drop n).map (conc ad)) (g := F0 (zm Z) pc ls (((st.take n).reverse.map (conc ad)).reverse ++ (st.drop n).map (conc ad))) (locs := locs) (cells := cells) (slots := slots) (e := ze Z) (p := zp Z) (below := zb Z) (meth := zM Z) (R := zR Z) (H := H)
    ⟨g.hx, g.hb, g.hml, g.hown, g.hG⟩ (hM (zE Z) ad H.size X (st.take n).reverse (fun r X' => xn X' = xn X → k l (r.toList ++ st.drop n) X')) (vx_cwSW n g.hG hT rfl rfl rfl hd ⟨Nat.le_trans hlv hfr, by show 8 + (maxL + 11) + 36 * lvy ≤ _; omega⟩)
    ⟨pcxT_blind, fun U hU hW => ⟨pre_of g hw hk (fun U hW => nl_warm hW g.hN) U hU hW, hXO.go hW (by rw [hU]; exact hw.S.2.1) hA⟩⟩ rfl (by rw [List.length_map, List.length_reverse]; exact hn) hl.1 rfl (lv_room (by rw [cat_map]; exact hcat)) d ⟨by omega, by omega⟩
  intro T1 hT1 Xs
  obtain ⟨v, s0, t, T', L, h0, X', hL, e1, e2, ⟨r, X1, ad1, hv, hp, hWF, hn1, had, hfl, hc9, hs9, hP1, hD1, hF⟩, go⟩ := hr T1 hT1 Xs
  obtain ⟨hn2, rfl⟩ := hfl rfl
  cases hv
  have hS1 : va_S (zA Z) (zs Z).heap T'.heap (locs ++ L) := by
    obtain ⟨y1, y2⟩ := hF
    rw [h0] at y1 y2
    refine ⟨Nat.le_trans hw.S.1 (by rw [e1]; exact y1), fun q p1 p2 => ?_, fun q hq => ?_⟩
    · rw [e1, y2 q (Nat.lt_of_lt_of_le p1 hw.S.1) (fun z => p2 (hA q z))]
      exact hw.S.2.1 q p1 p2
    · rcases List.mem_append.mp hq with hq | hq
      · exact hw.S.2.2 q hq
      · exact hA _ (hL q hq)
  have hw1 : Hw Z X1 ad1 T'.heap (locs ++ L) (cells + 1) (slots + 6) := by
    obtain ⟨h1, h2, h3, h4, h5, h6, h7, h8, h9, h10, h11⟩ := hw
    refine ⟨by omega, by omega, by omega, by omega, by omega, h6, fun q => ⟨hn2.trans (h7 q).1, (h7 q).2⟩, hWF, by rw [e1]; exact hP1, hD1.weaken (fun _ _ _ q => hA _ q), hS1⟩
  obtain ⟨t2, a1, b1⟩ := h l (r.toList ++ st.drop n) X1 (hp hn2) ad1 T'.heap (locs ++ L) ls (cells + 1) (slots + 6) hw1 hl T' rfl X'
  refine ⟨t2, go t2 ?_, b1⟩
  have e3 : (r.map (conc ad1)).toList ++ (st.drop n).map (conc ad1) = (r.toList ++ st.drop n).map (conc ad1) := by rw [opt_map, List.map_append]
  show Steps _ _ _ (T'.setTop (F0 (zm Z) (pc + 3) ls ((r.map (conc ad1)).toList ++ (st.drop n).map (conc ad1)))) t2
  rw [e3]
  exact a1
theorem gin_H {i : Nat} {y : MethodName} {cy : ByteArray} {maxL : Nat} {ret : Option FieldType} {hh : List (Nat × Nat × Nat × Nat)} (h1 : Cond.methodLink own i y ∈ GL) (h2 : Cond.static y ∈ GL) (h4 : Cond.initialized y.cls ∈ GL) (h5 : Cond.codeWith y cy maxL ret hh ∈ GL) : GoodIn GL (va_wsS own i y (wsh y cy maxL ret hh)) := gin_of (fun w hw => by
  unfold va_wsS at hw
  rcases List.mem_append.mp hw with hw | hw
  · simp only [List.mem_cons, List.not_mem_nil, or_false] at hw
    rcases hw with rfl | rfl | rfl
    · exact h1
    · exact h2
    · exact h4
  · rcases List.mem_cons.mp hw with rfl | hw
    · exact h5
    · exact hw)
-- the script: the law's argument, at the abstract address 999
def i_sld (L : Nat) (xsv : Nat → Int32) (k : Kk) : Kk := fun l st X => match st with
  | .int i :: .ref a :: r => a = 999 ∧ vp_in i L ∧ k l (.int (xsv i.toNatClampNeg) :: r) X
  | _ => False
def i_slen (L : Nat) (k : Kk) : Kk := fun l st X => match st with
  | .ref a :: r => a = 999 ∧ k l (.int (Int32.ofNat L) :: r) X
  | _ => False
theorem s_sld (g : Good Z cc nL own lv) {b L : Nat} {xsv : Nat → Int32} (hX : va_X b L xsv (zs Z) (zs Z).heap) (hb : b < (zs Z).heap.size) (hbA : ¬ zA Z b) (hb9 : zad Z 999 = b) (d : decode cc pc = .ok (.iaload, 1)) (h : Snd Z nL (pc + 1) k) : Snd Z nL pc (i_sld L xsv k) := by
  intro l st X hk ad H locs ls cells slots hw hl
  unfold i_sld at hk
  split at hk
  · next i a r =>
    obtain ⟨ha, hi, hk⟩ := hk
    subst ha
    have e : ad 999 = b := by rw [← hb9]; exact hw.2.2.2.2.2.1 999 (Or.inr rfl)
    show W _ _ _ _ _ _ _ _ _ _ _ _ _ _ _ (F0 _ _ _ (.int i :: .ref (ad 999) :: r.map (conc ad)))
    rw [e]
    exact va_sld g.hx g.hb hX hb hbA hw.S hi d (h _ _ _ hk ad H locs ls cells slots hw hl)
  · exact hk.elim
theorem s_slen (g : Good Z cc nL own lv) {b L : Nat} {xsv : Nat → Int32} (hX : va_X b L xsv (zs Z) (zs Z).heap) (hb : b < (zs Z).heap.size) (hbA : ¬ zA Z b) (hb9 : zad Z 999 = b) (d : decode cc pc = .ok (.arraylength, 1)) (h : Snd Z nL (pc + 1) k) : Snd Z nL pc (i_slen L k) := by
  intro l st X hk ad H locs ls cells slots hw hl
  unfold i_slen at hk
  split at hk
  · next a r =>
    obtain ⟨ha, hk⟩ := hk
    subst ha
    have e : ad 999 = b := by rw [← hb9]; exact hw.2.2.2.2.2.1 999 (Or.inr rfl)
    show W _ _ _ _ _ _ _ _ _ _ _ _ _ _ _ (F0 _ _ _ (.ref (ad 999) :: r.map (conc ad)))
    rw [e]
    exact va_slen g.hx g.hb hX hb hbA hw.S d (h _ _ _ hk ad H locs ls cells slots hw hl)
  · exact hk.elim
end LawRows
end
