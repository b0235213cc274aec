-- ===== PART A: goes FIRST, ahead of the names: the tables' words, and 'selects' of the private methods out of them =====
/-- a private method of a class that the tables say can be made, by its rows of tables_1 -/
def lw_okq (q : MethodName × Nat) : Prop := (q.1.cls ≠ "java/lang/invoke/MethodHandle" ∧ q.1.cls ≠ "java/lang/invoke/VarHandle") ∧ Cond.instantiable q.1.cls q.2 ∈ tables_1 ∧ Cond.privateMethod q.1 ∈ tables_1 ∧ Cond.instanceMethod q.1 ∈ tables_1
theorem lw_p0 : lw_okq (⟨"DeskBench", "makeGreeting", "()Z"⟩, 9) := ⟨⟨by decide +kernel, by decide +kernel⟩, List.mem_of_getElem? (i := 14) (by decide +kernel), List.mem_of_getElem? (i := 151) (by decide +kernel), List.mem_of_getElem? (i := 152) (by decide +kernel)⟩
theorem lw_p1 : lw_okq (⟨"DeskBench$Message", "address", "(III)V"⟩, 2) := ⟨⟨by decide +kernel, by decide +kernel⟩, List.mem_of_getElem? (i := 90) (by decide +kernel), List.mem_of_getElem? (i := 163) (by decide +kernel), List.mem_of_getElem? (i := 164) (by decide +kernel)⟩
theorem lw_p2 : lw_okq (⟨"DeskBench$Message", "fill", "(III)V"⟩, 2) := ⟨⟨by decide +kernel, by decide +kernel⟩, List.mem_of_getElem? (i := 90) (by decide +kernel), List.mem_of_getElem? (i := 167) (by decide +kernel), List.mem_of_getElem? (i := 168) (by decide +kernel)⟩
theorem lw_p3 : lw_okq (⟨"DeskBench", "makeThanks", "()Z"⟩, 9) := ⟨⟨by decide +kernel, by decide +kernel⟩, List.mem_of_getElem? (i := 14) (by decide +kernel), List.mem_of_getElem? (i := 171) (by decide +kernel), List.mem_of_getElem? (i := 172) (by decide +kernel)⟩
theorem lw_p4 : lw_okq (⟨"DeskBench", "makeAdvert", "()Z"⟩, 9) := ⟨⟨by decide +kernel, by decide +kernel⟩, List.mem_of_getElem? (i := 14) (by decide +kernel), List.mem_of_getElem? (i := 187) (by decide +kernel), List.mem_of_getElem? (i := 188) (by decide +kernel)⟩
theorem lw_p5 : lw_okq (⟨"DeskBench$Neighbours", "isToBeSent", "(III)Z"⟩, 7) := ⟨⟨by decide +kernel, by decide +kernel⟩, List.mem_of_getElem? (i := 36) (by decide +kernel), List.mem_of_getElem? (i := 199) (by decide +kernel), List.mem_of_getElem? (i := 200) (by decide +kernel)⟩
theorem lw_p6 : lw_okq (⟨"java/lang/Throwable", "fillInStackTrace", "(I)Ljava/lang/Throwable;"⟩, 6) := ⟨⟨by decide +kernel, by decide +kernel⟩, List.mem_of_getElem? (i := 300) (by decide +kernel), List.mem_of_getElem? (i := 298) (by decide +kernel), List.mem_of_getElem? (i := 299) (by decide +kernel)⟩
theorem lw_p7 : lw_okq (⟨"DeskBench", "isOn", "(I)Z"⟩, 9) := ⟨⟨by decide +kernel, by decide +kernel⟩, List.mem_of_getElem? (i := 14) (by decide +kernel), List.mem_of_getElem? (i := 330) (by decide +kernel), List.mem_of_getElem? (i := 331) (by decide +kernel)⟩
theorem lw_p8 : lw_okq (⟨"DeskBench$Neighbours", "drop", "(I)V"⟩, 7) := ⟨⟨by decide +kernel, by decide +kernel⟩, List.mem_of_getElem? (i := 36) (by decide +kernel), List.mem_of_getElem? (i := 338) (by decide +kernel), List.mem_of_getElem? (i := 339) (by decide +kernel)⟩
theorem lw_p9 : lw_okq (⟨"DeskBench$Neighbours", "oweExactly", "(IJ)V"⟩, 7) := ⟨⟨by decide +kernel, by decide +kernel⟩, List.mem_of_getElem? (i := 36) (by decide +kernel), List.mem_of_getElem? (i := 342) (by decide +kernel), List.mem_of_getElem? (i := 343) (by decide +kernel)⟩
theorem lw_p10 : lw_okq (⟨"DeskBench", "requireSender", "(I)V"⟩, 9) := ⟨⟨by decide +kernel, by decide +kernel⟩, List.mem_of_getElem? (i := 14) (by decide +kernel), List.mem_of_getElem? (i := 354) (by decide +kernel), List.mem_of_getElem? (i := 355) (by decide +kernel)⟩
theorem lw_p11 : lw_okq (⟨"DeskBench", "requireOn", "(I)V"⟩, 9) := ⟨⟨by decide +kernel, by decide +kernel⟩, List.mem_of_getElem? (i := 14) (by decide +kernel), List.mem_of_getElem? (i := 362) (by decide +kernel), List.mem_of_getElem? (i := 363) (by decide +kernel)⟩
theorem lw_p12 : lw_okq (⟨"DeskBench$Neighbours", "heardPlace", "(II)I"⟩, 7) := ⟨⟨by decide +kernel, by decide +kernel⟩, List.mem_of_getElem? (i := 36) (by decide +kernel), List.mem_of_getElem? (i := 386) (by decide +kernel), List.mem_of_getElem? (i := 387) (by decide +kernel)⟩
theorem lw_p13 : lw_okq (⟨"DeskBench$Neighbours", "takeFreePlace", "(II)I"⟩, 7) := ⟨⟨by decide +kernel, by decide +kernel⟩, List.mem_of_getElem? (i := 36) (by decide +kernel), List.mem_of_getElem? (i := 390) (by decide +kernel), List.mem_of_getElem? (i := 391) (by decide +kernel)⟩
theorem lw_p14 : lw_okq (⟨"DeskBench", "requireLegal", "(IIII)V"⟩, 9) := ⟨⟨by decide +kernel, by decide +kernel⟩, List.mem_of_getElem? (i := 14) (by decide +kernel), List.mem_of_getElem? (i := 409) (by decide +kernel), List.mem_of_getElem? (i := 410) (by decide +kernel)⟩
theorem lw_p15 : lw_okq (⟨"DeskBench", "takeOwnBack", "(II)I"⟩, 9) := ⟨⟨by decide +kernel, by decide +kernel⟩, List.mem_of_getElem? (i := 14) (by decide +kernel), List.mem_of_getElem? (i := 434) (by decide +kernel), List.mem_of_getElem? (i := 435) (by decide +kernel)⟩
def lw_privs_1 : List (MethodName × Nat) := [(⟨"DeskBench", "makeGreeting", "()Z"⟩, 9), (⟨"DeskBench$Message", "address", "(III)V"⟩, 2), (⟨"DeskBench$Message", "fill", "(III)V"⟩, 2), (⟨"DeskBench", "makeThanks", "()Z"⟩, 9), (⟨"DeskBench", "makeAdvert", "()Z"⟩, 9), (⟨"DeskBench$Neighbours", "isToBeSent", "(III)Z"⟩, 7), (⟨"java/lang/Throwable", "fillInStackTrace", "(I)Ljava/lang/Throwable;"⟩, 6), (⟨"DeskBench", "isOn", "(I)Z"⟩, 9), (⟨"DeskBench$Neighbours", "drop", "(I)V"⟩, 7), (⟨"DeskBench$Neighbours", "oweExactly", "(IJ)V"⟩, 7), (⟨"DeskBench", "requireSender", "(I)V"⟩, 9), (⟨"DeskBench", "requireOn", "(I)V"⟩, 9), (⟨"DeskBench$Neighbours", "heardPlace", "(II)I"⟩, 7), (⟨"DeskBench$Neighbours", "takeFreePlace", "(II)I"⟩, 7), (⟨"DeskBench", "requireLegal", "(IIII)V"⟩, 9), (⟨"DeskBench", "takeOwnBack", "(II)I"⟩, 9)]
theorem lw_r1 : ∀ q ∈ lw_privs_1, lw_okq q := List.forall_mem_cons.mpr ⟨lw_p0, List.forall_mem_cons.mpr ⟨lw_p1, List.forall_mem_cons.mpr ⟨lw_p2, List.forall_mem_cons.mpr ⟨lw_p3, List.forall_mem_cons.mpr ⟨lw_p4, List.forall_mem_cons.mpr ⟨lw_p5, List.forall_mem_cons.mpr ⟨lw_p6, List.forall_mem_cons.mpr ⟨lw_p7, List.forall_mem_cons.mpr ⟨lw_p8, List.forall_mem_cons.mpr ⟨lw_p9, List.forall_mem_cons.mpr ⟨lw_p10, List.forall_mem_cons.mpr ⟨lw_p11, List.forall_mem_cons.mpr ⟨lw_p12, List.forall_mem_cons.mpr ⟨lw_p13, List.forall_mem_cons.mpr ⟨lw_p14, List.forall_mem_cons.mpr ⟨lw_p15, fun _ h => absurd h List.not_mem_nil⟩⟩⟩⟩⟩⟩⟩⟩⟩⟩⟩⟩⟩⟩⟩⟩
theorem lw_p16 : lw_okq (⟨"DeskBench", "takeAdvert", "(IIII)I"⟩, 9) := ⟨⟨by decide +kernel, by decide +kernel⟩, List.mem_of_getElem? (i := 14) (by decide +kernel), List.mem_of_getElem? (i := 439) (by decide +kernel), List.mem_of_getElem? (i := 440) (by decide +kernel)⟩
theorem lw_p17 : lw_okq (⟨"DeskBenchModel", "remove", "(I)V"⟩, 16) := ⟨⟨by decide +kernel, by decide +kernel⟩, List.mem_of_getElem? (i := 544) (by decide +kernel), List.mem_of_getElem? (i := 611) (by decide +kernel), List.mem_of_getElem? (i := 612) (by decide +kernel)⟩
theorem lw_p18 : lw_okq (⟨"DeskBenchModel", "settleAll", "(I)V"⟩, 16) := ⟨⟨by decide +kernel, by decide +kernel⟩, List.mem_of_getElem? (i := 544) (by decide +kernel), List.mem_of_getElem? (i := 615) (by decide +kernel), List.mem_of_getElem? (i := 616) (by decide +kernel)⟩
theorem lw_p19 : lw_okq (⟨"DeskBenchModel", "wrong", "(II)I"⟩, 16) := ⟨⟨by decide +kernel, by decide +kernel⟩, List.mem_of_getElem? (i := 544) (by decide +kernel), List.mem_of_getElem? (i := 623) (by decide +kernel), List.mem_of_getElem? (i := 624) (by decide +kernel)⟩
theorem lw_p20 : lw_okq (⟨"DeskBenchModel", "find", "(II)I"⟩, 16) := ⟨⟨by decide +kernel, by decide +kernel⟩, List.mem_of_getElem? (i := 544) (by decide +kernel), List.mem_of_getElem? (i := 627) (by decide +kernel), List.mem_of_getElem? (i := 628) (by decide +kernel)⟩
theorem lw_p21 : lw_okq (⟨"DeskBenchModel", "thank", "(III)V"⟩, 16) := ⟨⟨by decide +kernel, by decide +kernel⟩, List.mem_of_getElem? (i := 544) (by decide +kernel), List.mem_of_getElem? (i := 636) (by decide +kernel), List.mem_of_getElem? (i := 637) (by decide +kernel)⟩
theorem lw_p22 : lw_okq (⟨"DeskBenchModel", "learn", "(IIII)V"⟩, 16) := ⟨⟨by decide +kernel, by decide +kernel⟩, List.mem_of_getElem? (i := 544) (by decide +kernel), List.mem_of_getElem? (i := 640) (by decide +kernel), List.mem_of_getElem? (i := 641) (by decide +kernel)⟩
theorem lw_p23 : lw_okq (⟨"DeskBenchModel", "greet", "(I)V"⟩, 16) := ⟨⟨by decide +kernel, by decide +kernel⟩, List.mem_of_getElem? (i := 544) (by decide +kernel), List.mem_of_getElem? (i := 665) (by decide +kernel), List.mem_of_getElem? (i := 666) (by decide +kernel)⟩
theorem lw_p24 : lw_okq (⟨"DeskBenchModel", "make", "(IIIIII)V"⟩, 16) := ⟨⟨by decide +kernel, by decide +kernel⟩, List.mem_of_getElem? (i := 544) (by decide +kernel), List.mem_of_getElem? (i := 669) (by decide +kernel), List.mem_of_getElem? (i := 670) (by decide +kernel)⟩
theorem lw_p25 : lw_okq (⟨"DeskBenchModel", "firstAdvert", "()I"⟩, 16) := ⟨⟨by decide +kernel, by decide +kernel⟩, List.mem_of_getElem? (i := 544) (by decide +kernel), List.mem_of_getElem? (i := 673) (by decide +kernel), List.mem_of_getElem? (i := 674) (by decide +kernel)⟩
def lw_privs_2 : List (MethodName × Nat) := [(⟨"DeskBench", "takeAdvert", "(IIII)I"⟩, 9), (⟨"DeskBenchModel", "remove", "(I)V"⟩, 16), (⟨"DeskBenchModel", "settleAll", "(I)V"⟩, 16), (⟨"DeskBenchModel", "wrong", "(II)I"⟩, 16), (⟨"DeskBenchModel", "find", "(II)I"⟩, 16), (⟨"DeskBenchModel", "thank", "(III)V"⟩, 16), (⟨"DeskBenchModel", "learn", "(IIII)V"⟩, 16), (⟨"DeskBenchModel", "greet", "(I)V"⟩, 16), (⟨"DeskBenchModel", "make", "(IIIIII)V"⟩, 16), (⟨"DeskBenchModel", "firstAdvert", "()I"⟩, 16)]
theorem lw_r2 : ∀ q ∈ lw_privs_2, lw_okq q := List.forall_mem_cons.mpr ⟨lw_p16, List.forall_mem_cons.mpr ⟨lw_p17, List.forall_mem_cons.mpr ⟨lw_p18, List.forall_mem_cons.mpr ⟨lw_p19, List.forall_mem_cons.mpr ⟨lw_p20, List.forall_mem_cons.mpr ⟨lw_p21, List.forall_mem_cons.mpr ⟨lw_p22, List.forall_mem_cons.mpr ⟨lw_p23, List.forall_mem_cons.mpr ⟨lw_p24, List.forall_mem_cons.mpr ⟨lw_p25, fun _ h => absurd h List.not_mem_nil⟩⟩⟩⟩⟩⟩⟩⟩⟩⟩
def lw_privs : List (MethodName × Nat) := lw_privs_1 ++ (lw_privs_2)
def lw_tbl : List Cond := k2_sels lw_privs ++ tables_1
theorem lw_privs_ok : ∀ q ∈ lw_privs, lw_okq q := by
  show ∀ q ∈ lw_privs_1 ++ (lw_privs_2), lw_okq q
  exact List.forall_mem_append.mpr ⟨lw_r1, lw_r2⟩
/-! names: written by wip/gen/names.py -/
def bigW : List Cond := lw_tbl.filter goodWord
theorem bw {w : Cond} (i : Nat) (h : lw_tbl[i]? = some w) (hg : goodWord w = true) : w ∈ bigW := List.mem_filter.mpr ⟨List.mem_of_getElem? h, hg⟩
theorem bigW_in : ∀ w ∈ bigW, w ∈ lw_tbl := fun _ h => (List.mem_filter.mp h).1
theorem bigW_good : GoodIn bigW bigW := fun _ h => ⟨h, good_of_word (List.mem_filter.mp h).2⟩
theorem gw_app {a b : List Cond} (ha : GoodIn bigW a) (hb : GoodIn bigW b) : GoodIn bigW (a ++ b) := fun w h => (List.mem_append.mp h).elim (ha w) (hb w)
theorem gw_1 {c : Cond} (h : c ∈ bigW) : GoodIn bigW [c] := fun w hw => by rw [List.mem_singleton] at hw; subst hw; exact bigW_good _ h
theorem gw_c {c : Cond} {ws : List Cond} (h : c ∈ bigW) (hw : GoodIn bigW ws) : GoodIn bigW (c :: ws) := fun w h1 => (List.mem_cons.mp h1).elim (fun e => by subst e; exact bigW_good _ h) (hw w)
theorem gw_V {own C : String} {idx L : Nat} {y : MethodName} {cc : ByteArray} {r : Option FieldType} (h1 : Cond.methodLink own idx y ∈ bigW) (h2 : Cond.instanceMethod y ∈ bigW) (h3 : Cond.selects C y y ∈ bigW) (h4 : Cond.initialized C ∈ bigW) (h5 : Cond.code y cc L r ∈ bigW) : GoodIn bigW (wsV own idx C y (.code y cc L r :: bigW)) := gw_c h1 (gw_c h2 (gw_c h3 (gw_c h4 (gw_c h5 bigW_good))))
theorem gw_I {L : Nat} {y : MethodName} {cc : ByteArray} {r : Option FieldType} (h5 : Cond.code y cc L r ∈ bigW) : GoodIn bigW (.code y cc L r :: bigW) := gw_c h5 bigW_good
def RAD : String := "DeskBench$Adverts"
def TAD : u_T := fun k => match k with
  | 0 => ("DeskBench$Adverts", "numbers", "[I", true)
  | _ => ("DeskBench$Adverts", "bodies", "[I", true)
def tyAD : Nat → FieldType := fun k => match k with
  | 0 => .array .int
  | _ => .array .int
theorem nmAD : ∀ a, a < 2 → ∀ b, b < 2 → a ≠ b → (TAD a).2.1 ≠ (TAD b).2.1 := by decide +kernel
theorem tyAD_ok : ∀ k, k < 2 → parseFieldDescriptor (TAD k).2.2.1 = some (tyAD k) := by decide +kernel
def RMS : String := "DeskBench$Message"
def TMS : u_T := fun k => match k with
  | 0 => ("DeskBench$Message", "parts", "[I", true)
  | _ => ("DeskBench$Message", "names", "J", false)
def tyMS : Nat → FieldType := fun k => match k with
  | 0 => .array .int
  | _ => .long
theorem nmMS : ∀ a, a < 2 → ∀ b, b < 2 → a ≠ b → (TMS a).2.1 ≠ (TMS b).2.1 := by decide +kernel
theorem tyMS_ok : ∀ k, k < 2 → parseFieldDescriptor (TMS k).2.2.1 = some (tyMS k) := by decide +kernel
def RNB : String := "DeskBench$Neighbours"
def TNB : u_T := fun k => match k with
  | 0 => ("DeskBench$Neighbours", "standings", "[I", true)
  | 1 => ("DeskBench$Neighbours", "ports", "[I", true)
  | 2 => ("DeskBench$Neighbours", "routers", "[I", true)
  | 3 => ("DeskBench$Neighbours", "greetedAt", "[I", true)
  | 4 => ("DeskBench$Neighbours", "owed", "[J", true)
  | 5 => ("DeskBench$Neighbours", "unsent", "[J", true)
  | _ => ("DeskBench$Neighbours", "sentAt", "[I", true)
def tyNB : Nat → FieldType := fun k => match k with
  | 0 => .array .int
  | 1 => .array .int
  | 2 => .array .int
  | 3 => .array .int
  | 4 => .array .long
  | 5 => .array .long
  | _ => .array .int
theorem nmNB : ∀ a, a < 7 → ∀ b, b < 7 → a ≠ b → (TNB a).2.1 ≠ (TNB b).2.1 := by decide +kernel
theorem tyNB_ok : ∀ k, k < 7 → parseFieldDescriptor (TNB k).2.2.1 = some (tyNB k) := by decide +kernel
def RTQ : String := "DeskBench$ThanksQueue"
def TTQ : u_T := fun k => match k with
  | 0 => ("DeskBench$ThanksQueue", "ports", "[I", true)
  | 1 => ("DeskBench$ThanksQueue", "routers", "[I", true)
  | 2 => ("DeskBench$ThanksQueue", "origins", "[I", true)
  | 3 => ("DeskBench$ThanksQueue", "numbers", "[I", true)
  | 4 => ("DeskBench$ThanksQueue", "first", "I", false)
  | _ => ("DeskBench$ThanksQueue", "size", "I", false)
def tyTQ : Nat → FieldType := fun k => match k with
  | 0 => .array .int
  | 1 => .array .int
  | 2 => .array .int
  | 3 => .array .int
  | 4 => .int
  | _ => .int
theorem nmTQ : ∀ a, a < 6 → ∀ b, b < 6 → a ≠ b → (TTQ a).2.1 ≠ (TTQ b).2.1 := by decide +kernel
theorem tyTQ_ok : ∀ k, k < 6 → parseFieldDescriptor (TTQ k).2.2.1 = some (tyTQ k) := by decide +kernel
def RDB : String := "DeskBench"
def TDB : u_T := fun k => match k with
  | 0 => ("DeskBench", "itself", "I", true)
  | 1 => ("DeskBench", "adverts", "LDeskBench$Adverts;", true)
  | 2 => ("DeskBench", "neighbours", "LDeskBench$Neighbours;", true)
  | 3 => ("DeskBench", "thanksQueue", "LDeskBench$ThanksQueue;", true)
  | 4 => ("DeskBench", "last", "LDeskBench$Message;", true)
  | 5 => ("DeskBench", "portsOn", "I", false)
  | 6 => ("DeskBench", "greetingsToSend", "I", false)
  | 7 => ("DeskBench", "greatestOwnNumber", "I", false)
  | _ => ("DeskBench", "time", "I", false)
def tyDB : Nat → FieldType := fun k => match k with
  | 0 => .int
  | 1 => .object "DeskBench$Adverts"
  | 2 => .object "DeskBench$Neighbours"
  | 3 => .object "DeskBench$ThanksQueue"
  | 4 => .object "DeskBench$Message"
  | 5 => .int
  | 6 => .int
  | 7 => .int
  | _ => .int
theorem nmDB : ∀ a, a < 9 → ∀ b, b < 9 → a ≠ b → (TDB a).2.1 ≠ (TDB b).2.1 := by decide +kernel
theorem tyDB_ok : ∀ k, k < 9 → parseFieldDescriptor (TDB k).2.2.1 = some (tyDB k) := by decide +kernel
def RRM : String := "DeskBenchModel"
def TRM : u_T := fun k => match k with
  | 0 => ("DeskBenchModel", "itself", "I", true)
  | 1 => ("DeskBenchModel", "code", "I", false)
  | 2 => ("DeskBenchModel", "now", "I", false)
  | 3 => ("DeskBenchModel", "on", "[Z", true)
  | 4 => ("DeskBenchModel", "greets", "[Z", true)
  | 5 => ("DeskBenchModel", "who", "[I", true)
  | 6 => ("DeskBenchModel", "heard", "[I", true)
  | 7 => ("DeskBenchModel", "friend", "[Z", true)
  | 8 => ("DeskBenchModel", "when", "[I", true)
  | 9 => ("DeskBenchModel", "number", "[I", true)
  | 10 => ("DeskBenchModel", "body", "[I", true)
  | 11 => ("DeskBenchModel", "greatest", "I", false)
  | 12 => ("DeskBenchModel", "waiting", "I", false)
  | 13 => ("DeskBenchModel", "thanks", "[I", true)
  | 14 => ("DeskBenchModel", "message", "[I", true)
  | _ => ("DeskBenchModel", "named", "J", false)
def tyRM : Nat → FieldType := fun k => match k with
  | 0 => .int
  | 1 => .int
  | 2 => .int
  | 3 => .array .boolean
  | 4 => .array .boolean
  | 5 => .array .int
  | 6 => .array .int
  | 7 => .array .boolean
  | 8 => .array .int
  | 9 => .array .int
  | 10 => .array .int
  | 11 => .int
  | 12 => .int
  | 13 => .array .int
  | 14 => .array .int
  | _ => .long
theorem nmRM : ∀ a, a < 16 → ∀ b, b < 16 → a ≠ b → (TRM a).2.1 ≠ (TRM b).2.1 := by decide +kernel
theorem tyRM_ok : ∀ k, k < 16 → parseFieldDescriptor (TRM k).2.2.1 = some (tyRM k) := by decide +kernel
def RLW : String := "DeskBenchLaw"
def RLG : String := "java/lang/Long"
abbrev cDB_init : ByteArray := prog_1_method_1_code
def yDB_init : MethodName := ⟨RDB, "<init>", "(I)V"⟩
abbrev wsDB_init : List Cond := .code yDB_init cDB_init 2 (none) :: bigW
abbrev cAD_init : ByteArray := prog_2_method_1_code
def yAD_init : MethodName := ⟨RAD, "<init>", "()V"⟩
abbrev wsAD_init : List Cond := .code yAD_init cAD_init 1 (none) :: bigW
abbrev cNB_init : ByteArray := prog_4_method_1_code
def yNB_init : MethodName := ⟨RNB, "<init>", "()V"⟩
abbrev wsNB_init : List Cond := .code yNB_init cNB_init 1 (none) :: bigW
abbrev cTQ_init : ByteArray := prog_5_method_1_code
def yTQ_init : MethodName := ⟨RTQ, "<init>", "()V"⟩
abbrev wsTQ_init : List Cond := .code yTQ_init cTQ_init 1 (none) :: bigW
abbrev cMS_init : ByteArray := prog_3_method_1_code
def yMS_init : MethodName := ⟨RMS, "<init>", "()V"⟩
abbrev wsMS_init : List Cond := .code yMS_init cMS_init 1 (none) :: bigW
abbrev cDB_own : ByteArray := prog_1_method_6_code
def yDB_own : MethodName := ⟨RDB, "own", "(I)I"⟩
abbrev wsDB_own : List Cond := .code yDB_own cDB_own 2 (some .int) :: bigW
abbrev cAD_put : ByteArray := prog_2_method_5_code
def yAD_put : MethodName := ⟨RAD, "put", "(III)V"⟩
abbrev wsAD_put : List Cond := .code yAD_put cAD_put 4 (none) :: bigW
abbrev cNB_oweToFriendsBut : ByteArray := prog_4_method_12_code
def yNB_oweToFriendsBut : MethodName := ⟨RNB, "oweToFriendsBut", "(II)V"⟩
abbrev wsNB_oweToFriendsBut : List Cond := .code yNB_oweToFriendsBut cNB_oweToFriendsBut 4 (none) :: bigW
abbrev cNB_owe : ByteArray := prog_4_method_11_code
def yNB_owe : MethodName := ⟨RNB, "owe", "(II)V"⟩
abbrev wsNB_owe : List Cond := .code yNB_owe cNB_owe 3 (none) :: bigW
abbrev cDB_next : ByteArray := prog_1_method_9_code
def yDB_next : MethodName := ⟨RDB, "next", "()Z"⟩
abbrev wsDB_next : List Cond := .code yDB_next cDB_next 1 (some .boolean) :: bigW
abbrev cDB_makeGreeting : ByteArray := prog_1_method_28_code
def yDB_makeGreeting : MethodName := ⟨RDB, "makeGreeting", "()Z"⟩
abbrev wsDB_makeGreeting : List Cond := .code yDB_makeGreeting cDB_makeGreeting 3 (some .boolean) :: bigW
abbrev cNB_heardOn : ByteArray := prog_4_method_21_code
def yNB_heardOn : MethodName := ⟨RNB, "heardOn", "(I)J"⟩
abbrev wsNB_heardOn : List Cond := .code yNB_heardOn cNB_heardOn 5 (some .long) :: bigW
abbrev cMS_makeGreeting : ByteArray := prog_3_method_5_code
def yMS_makeGreeting : MethodName := ⟨RMS, "makeGreeting", "(IJ)V"⟩
abbrev wsMS_makeGreeting : List Cond := .code yMS_makeGreeting cMS_makeGreeting 4 (none) :: bigW
abbrev cMS_address : ByteArray := prog_3_method_8_code
def yMS_address : MethodName := ⟨RMS, "address", "(III)V"⟩
abbrev wsMS_address : List Cond := .code yMS_address cMS_address 4 (none) :: bigW
abbrev cMS_fill : ByteArray := prog_3_method_9_code
def yMS_fill : MethodName := ⟨RMS, "fill", "(III)V"⟩
abbrev wsMS_fill : List Cond := .code yMS_fill cMS_fill 4 (none) :: bigW
abbrev cDB_makeThanks : ByteArray := prog_1_method_29_code
def yDB_makeThanks : MethodName := ⟨RDB, "makeThanks", "()Z"⟩
abbrev wsDB_makeThanks : List Cond := .code yDB_makeThanks cDB_makeThanks 1 (some .boolean) :: bigW
abbrev cTQ_isEmpty : ByteArray := prog_5_method_2_code
def yTQ_isEmpty : MethodName := ⟨RTQ, "isEmpty", "()Z"⟩
abbrev wsTQ_isEmpty : List Cond := .code yTQ_isEmpty cTQ_isEmpty 1 (some .boolean) :: bigW
abbrev cTQ_moveFirstTo : ByteArray := prog_5_method_4_code
def yTQ_moveFirstTo : MethodName := ⟨RTQ, "moveFirstTo", "(LDeskBench$Message;)V"⟩
abbrev wsTQ_moveFirstTo : List Cond := .code yTQ_moveFirstTo cTQ_moveFirstTo 2 (none) :: bigW
abbrev cMS_makeThanks : ByteArray := prog_3_method_6_code
def yMS_makeThanks : MethodName := ⟨RMS, "makeThanks", "(IIII)V"⟩
abbrev wsMS_makeThanks : List Cond := .code yMS_makeThanks cMS_makeThanks 5 (none) :: bigW
abbrev cDB_makeAdvert : ByteArray := prog_1_method_30_code
def yDB_makeAdvert : MethodName := ⟨RDB, "makeAdvert", "()Z"⟩
abbrev wsDB_makeAdvert : List Cond := .code yDB_makeAdvert cDB_makeAdvert 3 (some .boolean) :: bigW
abbrev cNB_firstToServe : ByteArray := prog_4_method_18_code
def yNB_firstToServe : MethodName := ⟨RNB, "firstToServe", "(I)I"⟩
abbrev wsNB_firstToServe : List Cond := .code yNB_firstToServe cNB_firstToServe 6 (some .int) :: bigW
abbrev cNB_firstToSend : ByteArray := prog_4_method_17_code
def yNB_firstToSend : MethodName := ⟨RNB, "firstToSend", "(II)I"⟩
abbrev wsNB_firstToSend : List Cond := .code yNB_firstToSend cNB_firstToSend 4 (some .int) :: bigW
abbrev cNB_isToBeSent : ByteArray := prog_4_method_16_code
def yNB_isToBeSent : MethodName := ⟨RNB, "isToBeSent", "(III)Z"⟩
abbrev wsNB_isToBeSent : List Cond := .code yNB_isToBeSent cNB_isToBeSent 6 (some .boolean) :: bigW
abbrev cNB_sent : ByteArray := prog_4_method_15_code
def yNB_sent : MethodName := ⟨RNB, "sent", "(III)V"⟩
abbrev wsNB_sent : List Cond := .code yNB_sent cNB_sent 4 (none) :: bigW
abbrev cNB_portAt : ByteArray := prog_4_method_19_code
def yNB_portAt : MethodName := ⟨RNB, "portAt", "(I)I"⟩
abbrev wsNB_portAt : List Cond := .code yNB_portAt cNB_portAt 2 (some .int) :: bigW
abbrev cNB_routerAt : ByteArray := prog_4_method_20_code
def yNB_routerAt : MethodName := ⟨RNB, "routerAt", "(I)I"⟩
abbrev wsNB_routerAt : List Cond := .code yNB_routerAt cNB_routerAt 2 (some .int) :: bigW
abbrev cAD_numberOf : ByteArray := prog_2_method_3_code
def yAD_numberOf : MethodName := ⟨RAD, "numberOf", "(I)I"⟩
abbrev wsAD_numberOf : List Cond := .code yAD_numberOf cAD_numberOf 2 (some .int) :: bigW
abbrev cAD_bodyOf : ByteArray := prog_2_method_4_code
def yAD_bodyOf : MethodName := ⟨RAD, "bodyOf", "(I)I"⟩
abbrev wsAD_bodyOf : List Cond := .code yAD_bodyOf cAD_bodyOf 2 (some .int) :: bigW
abbrev cMS_makeAdvert : ByteArray := prog_3_method_7_code
def yMS_makeAdvert : MethodName := ⟨RMS, "makeAdvert", "(IIIII)V"⟩
abbrev wsMS_makeAdvert : List Cond := .code yMS_makeAdvert cMS_makeAdvert 6 (none) :: bigW
abbrev cDB_named : ByteArray := prog_1_method_11_code
def yDB_named : MethodName := ⟨RDB, "named", "()J"⟩
abbrev wsDB_named : List Cond := .code yDB_named cDB_named 1 (some .long) :: bigW
abbrev cMS_namedRouters : ByteArray := prog_3_method_4_code
def yMS_namedRouters : MethodName := ⟨RMS, "namedRouters", "()J"⟩
abbrev wsMS_namedRouters : List Cond := .code yMS_namedRouters cMS_namedRouters 1 (some .long) :: bigW
abbrev cDB_count : ByteArray := prog_1_method_16_code
def yDB_count : MethodName := ⟨RDB, "count", "(Z)I"⟩
abbrev wsDB_count : List Cond := .code yDB_count cDB_count 2 (some .int) :: bigW
abbrev cNB_atLeast : ByteArray := prog_4_method_24_code
def yNB_atLeast : MethodName := ⟨RNB, "atLeast", "(I)I"⟩
abbrev wsNB_atLeast : List Cond := .code yNB_atLeast cNB_atLeast 4 (some .int) :: bigW
abbrev cDB_time : ByteArray := prog_1_method_17_code
def yDB_time : MethodName := ⟨RDB, "time", "()I"⟩
abbrev wsDB_time : List Cond := .code yDB_time cDB_time 1 (some .int) :: bigW
abbrev cLW_cell : ByteArray := method_2_code
def yLW_cell : MethodName := ⟨RLW, "cell", "([II)I"⟩
abbrev wsLW_cell : List Cond := .code yLW_cell cLW_cell 2 (some .int) :: bigW
abbrev cLW_port : ByteArray := method_3_code
def yLW_port : MethodName := ⟨RLW, "port", "(LDeskBench;IZ[J)I"⟩
abbrev wsLW_port : List Cond := .codeWith yLW_port cLW_port 5 (some .int) [((0 : Nat), (17 : Nat), (20 : Nat), (13 : Nat))] :: bigW
abbrev cDB_port : ByteArray := prog_1_method_2_code
def yDB_port : MethodName := ⟨RDB, "port", "(IZ)Z"⟩
abbrev wsDB_port : List Cond := .code yDB_port cDB_port 3 (some .boolean) :: bigW
abbrev cDB_requirePort : ByteArray := prog_1_method_20_code
def yDB_requirePort : MethodName := ⟨RDB, "requirePort", "(I)V"⟩
abbrev wsDB_requirePort : List Cond := .code yDB_requirePort cDB_requirePort 1 (none) :: bigW
abbrev cDB_isOn : ByteArray := prog_1_method_25_code
def yDB_isOn : MethodName := ⟨RDB, "isOn", "(I)Z"⟩
abbrev wsDB_isOn : List Cond := .code yDB_isOn cDB_isOn 2 (some .boolean) :: bigW
abbrev cNB_dropPort : ByteArray := prog_4_method_9_code
def yNB_dropPort : MethodName := ⟨RNB, "dropPort", "(I)V"⟩
abbrev wsNB_dropPort : List Cond := .code yNB_dropPort cNB_dropPort 3 (none) :: bigW
abbrev cNB_drop : ByteArray := prog_4_method_8_code
def yNB_drop : MethodName := ⟨RNB, "drop", "(I)V"⟩
abbrev wsNB_drop : List Cond := .code yNB_drop cNB_drop 2 (none) :: bigW
abbrev cNB_oweExactly : ByteArray := prog_4_method_7_code
def yNB_oweExactly : MethodName := ⟨RNB, "oweExactly", "(IJ)V"⟩
abbrev wsNB_oweExactly : List Cond := .code yNB_oweExactly cNB_oweExactly 4 (none) :: bigW
abbrev cLW_greeting : ByteArray := method_4_code
def yLW_greeting : MethodName := ⟨RLW, "greeting", "(LDeskBench;IIZ[J)I"⟩
abbrev wsLW_greeting : List Cond := .codeWith yLW_greeting cLW_greeting 6 (some .int) [((0 : Nat), (12 : Nat), (15 : Nat), (13 : Nat)), ((0 : Nat), (12 : Nat), (19 : Nat), (19 : Nat))] :: bigW
abbrev cDB_greeting : ByteArray := prog_1_method_3_code
def yDB_greeting : MethodName := ⟨RDB, "greeting", "(IIZ)I"⟩
abbrev wsDB_greeting : List Cond := .code yDB_greeting cDB_greeting 5 (some .int) :: bigW
abbrev cDB_requireSender : ByteArray := prog_1_method_22_code
def yDB_requireSender : MethodName := ⟨RDB, "requireSender", "(I)V"⟩
abbrev wsDB_requireSender : List Cond := .code yDB_requireSender cDB_requireSender 2 (none) :: bigW
abbrev cDB_isRouter : ByteArray := prog_1_method_18_code
def yDB_isRouter : MethodName := ⟨RDB, "isRouter", "(I)Z"⟩
abbrev wsDB_isRouter : List Cond := .code yDB_isRouter cDB_isRouter 1 (some .boolean) :: bigW
abbrev cDB_requireOn : ByteArray := prog_1_method_23_code
def yDB_requireOn : MethodName := ⟨RDB, "requireOn", "(I)V"⟩
abbrev wsDB_requireOn : List Cond := .code yDB_requireOn cDB_requireOn 2 (none) :: bigW
abbrev cNB_placeFor : ByteArray := prog_4_method_4_code
def yNB_placeFor : MethodName := ⟨RNB, "placeFor", "(II)I"⟩
abbrev wsNB_placeFor : List Cond := .code yNB_placeFor cNB_placeFor 4 (some .int) :: bigW
abbrev cNB_heardPlace : ByteArray := prog_4_method_2_code
def yNB_heardPlace : MethodName := ⟨RNB, "heardPlace", "(II)I"⟩
abbrev wsNB_heardPlace : List Cond := .code yNB_heardPlace cNB_heardPlace 4 (some .int) :: bigW
abbrev cNB_takeFreePlace : ByteArray := prog_4_method_5_code
def yNB_takeFreePlace : MethodName := ⟨RNB, "takeFreePlace", "(II)I"⟩
abbrev wsNB_takeFreePlace : List Cond := .code yNB_takeFreePlace cNB_takeFreePlace 4 (some .int) :: bigW
abbrev cAD_allOrigins : ByteArray := prog_2_method_7_code
def yAD_allOrigins : MethodName := ⟨RAD, "allOrigins", "()J"⟩
abbrev wsAD_allOrigins : List Cond := .code yAD_allOrigins cAD_allOrigins 4 (some .long) :: bigW
abbrev cNB_greeted : ByteArray := prog_4_method_6_code
def yNB_greeted : MethodName := ⟨RNB, "greeted", "(IIZJ)I"⟩
abbrev wsNB_greeted : List Cond := .code yNB_greeted cNB_greeted 6 (some .int) :: bigW
abbrev cLW_advert : ByteArray := method_5_code
def yLW_advert : MethodName := ⟨RLW, "advert", "(LDeskBench;IIIII[J)I"⟩
abbrev wsLW_advert : List Cond := .codeWith yLW_advert cLW_advert 8 (some .int) [((0 : Nat), (16 : Nat), (19 : Nat), (13 : Nat)), ((0 : Nat), (16 : Nat), (23 : Nat), (19 : Nat))] :: bigW
abbrev cDB_advert : ByteArray := prog_1_method_4_code
def yDB_advert : MethodName := ⟨RDB, "advert", "(IIIII)I"⟩
abbrev wsDB_advert : List Cond := .code yDB_advert cDB_advert 7 (some .int) :: bigW
abbrev cDB_requireLegal : ByteArray := prog_1_method_24_code
def yDB_requireLegal : MethodName := ⟨RDB, "requireLegal", "(IIII)V"⟩
abbrev wsDB_requireLegal : List Cond := .code yDB_requireLegal cDB_requireLegal 5 (none) :: bigW
abbrev cDB_requireRouter : ByteArray := prog_1_method_19_code
def yDB_requireRouter : MethodName := ⟨RDB, "requireRouter", "(I)V"⟩
abbrev wsDB_requireRouter : List Cond := .code yDB_requireRouter cDB_requireRouter 1 (none) :: bigW
abbrev cDB_requireNumber : ByteArray := prog_1_method_21_code
def yDB_requireNumber : MethodName := ⟨RDB, "requireNumber", "(I)V"⟩
abbrev wsDB_requireNumber : List Cond := .code yDB_requireNumber cDB_requireNumber 1 (none) :: bigW
abbrev cNB_friendPlace : ByteArray := prog_4_method_3_code
def yNB_friendPlace : MethodName := ⟨RNB, "friendPlace", "(II)I"⟩
abbrev wsNB_friendPlace : List Cond := .code yNB_friendPlace cNB_friendPlace 4 (some .int) :: bigW
abbrev cTQ_add : ByteArray := prog_5_method_3_code
def yTQ_add : MethodName := ⟨RTQ, "add", "(IIII)V"⟩
abbrev wsTQ_add : List Cond := .code yTQ_add cTQ_add 6 (none) :: bigW
abbrev cNB_settle : ByteArray := prog_4_method_13_code
def yNB_settle : MethodName := ⟨RNB, "settle", "(II)Z"⟩
abbrev wsNB_settle : List Cond := .code yNB_settle cNB_settle 6 (some .boolean) :: bigW
abbrev cDB_takeOwnBack : ByteArray := prog_1_method_26_code
def yDB_takeOwnBack : MethodName := ⟨RDB, "takeOwnBack", "(II)I"⟩
abbrev wsDB_takeOwnBack : List Cond := .code yDB_takeOwnBack cDB_takeOwnBack 3 (some .int) :: bigW
abbrev cDB_takeAdvert : ByteArray := prog_1_method_27_code
def yDB_takeAdvert : MethodName := ⟨RDB, "takeAdvert", "(IIII)I"⟩
abbrev wsDB_takeAdvert : List Cond := .code yDB_takeAdvert cDB_takeAdvert 6 (some .int) :: bigW
abbrev cLW_thanks : ByteArray := method_6_code
def yLW_thanks : MethodName := ⟨RLW, "thanks", "(LDeskBench;IIII[J)I"⟩
abbrev wsLW_thanks : List Cond := .codeWith yLW_thanks cLW_thanks 7 (some .int) [((0 : Nat), (21 : Nat), (24 : Nat), (13 : Nat)), ((0 : Nat), (21 : Nat), (28 : Nat), (19 : Nat))] :: bigW
abbrev cDB_thanks : ByteArray := prog_1_method_5_code
def yDB_thanks : MethodName := ⟨RDB, "thanks", "(IIII)Z"⟩
abbrev wsDB_thanks : List Cond := .code yDB_thanks cDB_thanks 6 (some .boolean) :: bigW
abbrev cLW_forget : ByteArray := method_7_code
def yLW_forget : MethodName := ⟨RLW, "forget", "(LDeskBench;I[J)I"⟩
abbrev wsLW_forget : List Cond := .codeWith yLW_forget cLW_forget 4 (some .int) [((0 : Nat), (16 : Nat), (19 : Nat), (13 : Nat))] :: bigW
abbrev cDB_forget : ByteArray := prog_1_method_7_code
def yDB_forget : MethodName := ⟨RDB, "forget", "(I)Z"⟩
abbrev wsDB_forget : List Cond := .code yDB_forget cDB_forget 2 (some .boolean) :: bigW
abbrev cAD_has : ByteArray := prog_2_method_2_code
def yAD_has : MethodName := ⟨RAD, "has", "(I)Z"⟩
abbrev wsAD_has : List Cond := .code yAD_has cAD_has 2 (some .boolean) :: bigW
abbrev cAD_remove : ByteArray := prog_2_method_6_code
def yAD_remove : MethodName := ⟨RAD, "remove", "(I)V"⟩
abbrev wsAD_remove : List Cond := .code yAD_remove cAD_remove 2 (none) :: bigW
abbrev cNB_settleAll : ByteArray := prog_4_method_14_code
def yNB_settleAll : MethodName := ⟨RNB, "settleAll", "(I)V"⟩
abbrev wsNB_settleAll : List Cond := .code yNB_settleAll cNB_settleAll 3 (none) :: bigW
abbrev cLW_run : ByteArray := method_8_code
def yLW_run : MethodName := ⟨RLW, "run", "(LDeskBench;I[J)I"⟩
abbrev wsLW_run : List Cond := .codeWith yLW_run cLW_run 4 (some .int) [((0 : Nat), (9 : Nat), (12 : Nat), (13 : Nat)), ((0 : Nat), (9 : Nat), (15 : Nat), (19 : Nat))] :: bigW
abbrev cDB_run : ByteArray := prog_1_method_8_code
def yDB_run : MethodName := ⟨RDB, "run", "(I)I"⟩
abbrev wsDB_run : List Cond := .code yDB_run cDB_run 3 (some .int) :: bigW
abbrev cNB_dropSilent : ByteArray := prog_4_method_10_code
def yNB_dropSilent : MethodName := ⟨RNB, "dropSilent", "(I)V"⟩
abbrev wsNB_dropSilent : List Cond := .code yNB_dropSilent cNB_dropSilent 3 (none) :: bigW
abbrev cLW_message : ByteArray := method_9_code
def yLW_message : MethodName := ⟨RLW, "message", "(LDeskBench;I[J)I"⟩
abbrev wsLW_message : List Cond := .codeWith yLW_message cLW_message 4 (some .int) [((0 : Nat), (9 : Nat), (12 : Nat), (13 : Nat)), ((0 : Nat), (9 : Nat), (15 : Nat), (19 : Nat))] :: bigW
abbrev cDB_message : ByteArray := prog_1_method_10_code
def yDB_message : MethodName := ⟨RDB, "message", "(I)I"⟩
abbrev wsDB_message : List Cond := .code yDB_message cDB_message 2 (some .int) :: bigW
abbrev cMS_isMade : ByteArray := prog_3_method_2_code
def yMS_isMade : MethodName := ⟨RMS, "isMade", "()Z"⟩
abbrev wsMS_isMade : List Cond := .code yMS_isMade cMS_isMade 1 (some .boolean) :: bigW
abbrev cMS_part : ByteArray := prog_3_method_3_code
def yMS_part : MethodName := ⟨RMS, "part", "(I)I"⟩
abbrev wsMS_part : List Cond := .code yMS_part cMS_part 2 (some .int) :: bigW
abbrev cLW_state : ByteArray := method_10_code
def yLW_state : MethodName := ⟨RLW, "state", "(LDeskBench;II[J)I"⟩
abbrev wsLW_state : List Cond := .codeWith yLW_state cLW_state 5 (some .int) [((0 : Nat), (10 : Nat), (13 : Nat), (13 : Nat))] :: bigW
abbrev cDB_state : ByteArray := prog_1_method_12_code
def yDB_state : MethodName := ⟨RDB, "state", "(II)I"⟩
abbrev wsDB_state : List Cond := .code yDB_state cDB_state 3 (some .int) :: bigW
abbrev cNB_standingOf : ByteArray := prog_4_method_22_code
def yNB_standingOf : MethodName := ⟨RNB, "standingOf", "(II)I"⟩
abbrev wsNB_standingOf : List Cond := .code yNB_standingOf cNB_standingOf 4 (some .int) :: bigW
abbrev cLW_known : ByteArray := method_11_code
def yLW_known : MethodName := ⟨RLW, "known", "(LDeskBench;I[J)I"⟩
abbrev wsLW_known : List Cond := .codeWith yLW_known cLW_known 4 (some .int) [((0 : Nat), (9 : Nat), (12 : Nat), (13 : Nat))] :: bigW
abbrev cDB_known : ByteArray := prog_1_method_13_code
def yDB_known : MethodName := ⟨RDB, "known", "(I)I"⟩
abbrev wsDB_known : List Cond := .code yDB_known cDB_known 2 (some .int) :: bigW
abbrev cLW_body : ByteArray := method_12_code
def yLW_body : MethodName := ⟨RLW, "body", "(LDeskBench;I[J)I"⟩
abbrev wsLW_body : List Cond := .codeWith yLW_body cLW_body 4 (some .int) [((0 : Nat), (9 : Nat), (12 : Nat), (13 : Nat))] :: bigW
abbrev cDB_body : ByteArray := prog_1_method_14_code
def yDB_body : MethodName := ⟨RDB, "body", "(I)I"⟩
abbrev wsDB_body : List Cond := .code yDB_body cDB_body 2 (some .int) :: bigW
abbrev cLW_due : ByteArray := method_13_code
def yLW_due : MethodName := ⟨RLW, "due", "(LDeskBench;II[J)I"⟩
abbrev wsLW_due : List Cond := .codeWith yLW_due cLW_due 5 (some .int) [((0 : Nat), (10 : Nat), (13 : Nat), (13 : Nat))] :: bigW
abbrev cDB_due : ByteArray := prog_1_method_15_code
def yDB_due : MethodName := ⟨RDB, "due", "(II)I"⟩
abbrev wsDB_due : List Cond := .code yDB_due cDB_due 3 (some .int) :: bigW
abbrev cNB_owedTo : ByteArray := prog_4_method_23_code
def yNB_owedTo : MethodName := ⟨RNB, "owedTo", "(II)I"⟩
abbrev wsNB_owedTo : List Cond := .code yNB_owedTo cNB_owedTo 4 (some .int) :: bigW
abbrev cLG_bitCount : ByteArray := prog_11_method_50_code
def yLG_bitCount : MethodName := ⟨RLG, "bitCount", "(J)I"⟩
abbrev wsLG_bitCount : List Cond := .code yLG_bitCount cLG_bitCount 2 (some .int) :: bigW
abbrev cRM_init : ByteArray := prog_7_method_1_code
def yRM_init : MethodName := ⟨RRM, "<init>", "(I)V"⟩
abbrev wsRM_init : List Cond := .code yRM_init cRM_init 3 (none) :: bigW
abbrev cRM_thrown : ByteArray := prog_7_method_2_code
def yRM_thrown : MethodName := ⟨RRM, "thrown", "()I"⟩
abbrev wsRM_thrown : List Cond := .code yRM_thrown cRM_thrown 1 (some .int) :: bigW
abbrev cRM_port : ByteArray := prog_7_method_7_code
def yRM_port : MethodName := ⟨RRM, "port", "(IZ)Z"⟩
abbrev wsRM_port : List Cond := .code yRM_port cRM_port 5 (some .boolean) :: bigW
abbrev cRM_in : ByteArray := prog_7_method_3_code
def yRM_in : MethodName := ⟨RRM, "in", "(III)Z"⟩
abbrev wsRM_in : List Cond := .code yRM_in cRM_in 3 (some .boolean) :: bigW
abbrev cRM_remove : ByteArray := prog_7_method_6_code
def yRM_remove : MethodName := ⟨RRM, "remove", "(I)V"⟩
abbrev wsRM_remove : List Cond := .code yRM_remove cRM_remove 2 (none) :: bigW
abbrev cRM_settleAll : ByteArray := prog_7_method_5_code
def yRM_settleAll : MethodName := ⟨RRM, "settleAll", "(I)V"⟩
abbrev wsRM_settleAll : List Cond := .code yRM_settleAll cRM_settleAll 3 (none) :: bigW
abbrev cRM_greeting : ByteArray := prog_7_method_9_code
def yRM_greeting : MethodName := ⟨RRM, "greeting", "(IIZ)I"⟩
abbrev wsRM_greeting : List Cond := .code yRM_greeting cRM_greeting 7 (some .int) :: bigW
abbrev cRM_wrong : ByteArray := prog_7_method_8_code
def yRM_wrong : MethodName := ⟨RRM, "wrong", "(II)I"⟩
abbrev wsRM_wrong : List Cond := .code yRM_wrong cRM_wrong 3 (some .int) :: bigW
abbrev cRM_find : ByteArray := prog_7_method_4_code
def yRM_find : MethodName := ⟨RRM, "find", "(II)I"⟩
abbrev wsRM_find : List Cond := .code yRM_find cRM_find 5 (some .int) :: bigW
abbrev cRM_advert : ByteArray := prog_7_method_12_code
def yRM_advert : MethodName := ⟨RRM, "advert", "(IIIII)I"⟩
abbrev wsRM_advert : List Cond := .code yRM_advert cRM_advert 10 (some .int) :: bigW
abbrev cRM_thank : ByteArray := prog_7_method_10_code
def yRM_thank : MethodName := ⟨RRM, "thank", "(III)V"⟩
abbrev wsRM_thank : List Cond := .code yRM_thank cRM_thank 4 (none) :: bigW
abbrev cRM_learn : ByteArray := prog_7_method_11_code
def yRM_learn : MethodName := ⟨RRM, "learn", "(IIII)V"⟩
abbrev wsRM_learn : List Cond := .code yRM_learn cRM_learn 6 (none) :: bigW
abbrev cRM_thanks : ByteArray := prog_7_method_13_code
def yRM_thanks : MethodName := ⟨RRM, "thanks", "(IIII)Z"⟩
abbrev wsRM_thanks : List Cond := .code yRM_thanks cRM_thanks 7 (some .boolean) :: bigW
abbrev cRM_own : ByteArray := prog_7_method_14_code
def yRM_own : MethodName := ⟨RRM, "own", "(I)I"⟩
abbrev wsRM_own : List Cond := .code yRM_own cRM_own 2 (some .int) :: bigW
abbrev cRM_forget : ByteArray := prog_7_method_15_code
def yRM_forget : MethodName := ⟨RRM, "forget", "(I)Z"⟩
abbrev wsRM_forget : List Cond := .code yRM_forget cRM_forget 4 (some .boolean) :: bigW
abbrev cRM_run : ByteArray := prog_7_method_16_code
def yRM_run : MethodName := ⟨RRM, "run", "(I)I"⟩
abbrev wsRM_run : List Cond := .code yRM_run cRM_run 4 (some .int) :: bigW
abbrev cRM_next : ByteArray := prog_7_method_20_code
def yRM_next : MethodName := ⟨RRM, "next", "()Z"⟩
abbrev wsRM_next : List Cond := .code yRM_next cRM_next 4 (some .boolean) :: bigW
abbrev cRM_greet : ByteArray := prog_7_method_18_code
def yRM_greet : MethodName := ⟨RRM, "greet", "(I)V"⟩
abbrev wsRM_greet : List Cond := .code yRM_greet cRM_greet 3 (none) :: bigW
abbrev cRM_make : ByteArray := prog_7_method_17_code
def yRM_make : MethodName := ⟨RRM, "make", "(IIIIII)V"⟩
abbrev wsRM_make : List Cond := .code yRM_make cRM_make 7 (none) :: bigW
abbrev cRM_firstAdvert : ByteArray := prog_7_method_19_code
def yRM_firstAdvert : MethodName := ⟨RRM, "firstAdvert", "()I"⟩
abbrev wsRM_firstAdvert : List Cond := .code yRM_firstAdvert cRM_firstAdvert 6 (some .int) :: bigW
abbrev cRM_message : ByteArray := prog_7_method_21_code
def yRM_message : MethodName := ⟨RRM, "message", "(I)I"⟩
abbrev wsRM_message : List Cond := .code yRM_message cRM_message 2 (some .int) :: bigW
abbrev cRM_named : ByteArray := prog_7_method_22_code
def yRM_named : MethodName := ⟨RRM, "named", "()J"⟩
abbrev wsRM_named : List Cond := .code yRM_named cRM_named 1 (some .long) :: bigW
abbrev cRM_state : ByteArray := prog_7_method_23_code
def yRM_state : MethodName := ⟨RRM, "state", "(II)I"⟩
abbrev wsRM_state : List Cond := .code yRM_state cRM_state 4 (some .int) :: bigW
abbrev cRM_known : ByteArray := prog_7_method_24_code
def yRM_known : MethodName := ⟨RRM, "known", "(I)I"⟩
abbrev wsRM_known : List Cond := .code yRM_known cRM_known 2 (some .int) :: bigW
abbrev cRM_body : ByteArray := prog_7_method_25_code
def yRM_body : MethodName := ⟨RRM, "body", "(I)I"⟩
abbrev wsRM_body : List Cond := .code yRM_body cRM_body 2 (some .int) :: bigW
abbrev cRM_due : ByteArray := prog_7_method_26_code
def yRM_due : MethodName := ⟨RRM, "due", "(II)I"⟩
abbrev wsRM_due : List Cond := .code yRM_due cRM_due 6 (some .int) :: bigW
abbrev cRM_count : ByteArray := prog_7_method_27_code
def yRM_count : MethodName := ⟨RRM, "count", "(Z)I"⟩
abbrev wsRM_count : List Cond := .code yRM_count cRM_count 4 (some .int) :: bigW
abbrev cRM_time : ByteArray := prog_7_method_28_code
def yRM_time : MethodName := ⟨RRM, "time", "()I"⟩
abbrev wsRM_time : List Cond := .code yRM_time cRM_time 1 (some .int) :: bigW
abbrev vwCl : List vw_C := [(RAD, TAD, 2), (RMS, TMS, 2), (RNB, TNB, 7), (RTQ, TTQ, 6), (RDB, TDB, 9), (RRM, TRM, 16)]
