section
-- ===== PART A: goes FIRST, ahead of the names: the tables' words, and 'selects' of the private methods out of them =====
/-- a private method of a class that the tables say can be made, by its rows of tables_1 -/
def lw_okq (q : MethodName × Nat) : Prop := (q.1.cls ≠ "java/lang/invoke/MethodHandle" ∧ q.1.cls ≠ "java/lang/invoke/VarHandle") ∧ Cond.instantiable q.1.cls q.2 ∈ tables_1 ∧ Cond.privateMethod q.1 ∈ tables_1 ∧ Cond.instanceMethod q.1 ∈ tables_1
theorem lw_p0 : lw_okq (⟨"DeskBench", "makeGreeting", "()Z"⟩, 9) := ⟨⟨by decide +kernel, by decide +kernel⟩, List.mem_of_getElem? (i := 14) (by decide +kernel), List.mem_of_getElem? (i := 151) (by decide +kernel), List.mem_of_getElem? (i := 152) (by decide +kernel)⟩
theorem lw_p1 : lw_okq (⟨"DeskBench$Message", "address", "(III)V"⟩, 2) := ⟨⟨by decide +kernel, by decide +kernel⟩, List.mem_of_getElem? (i := 90) (by decide +kernel), List.mem_of_getElem? (i := 163) (by decide +kernel), List.mem_of_getElem? (i := 164) (by decide +kernel)⟩
theorem lw_p2 : lw_okq (⟨"DeskBench$Message", "fill", "(III)V"⟩, 2) := ⟨⟨by decide +kernel, by decide +kernel⟩, List.mem_of_getElem? (i := 90) (by decide +kernel), List.mem_of_getElem? (i := 167) (by decide +kernel), List.mem_of_getElem? (i := 168) (by decide +kernel)⟩
theorem lw_p3 : lw_okq (⟨"DeskBench", "makeThanks", "()Z"⟩, 9) := ⟨⟨by decide +kernel, by decide +kernel⟩, List.mem_of_getElem? (i := 14) (by decide +kernel), List.mem_of_getElem? (i := 171) (by decide +kernel), List.mem_of_getElem? (i := 172) (by decide +kernel)⟩
theorem lw_p4 : lw_okq (⟨"DeskBench", "makeAdvert", "()Z"⟩, 9) := ⟨⟨by decide +kernel, by decide +kernel⟩, List.mem_of_getElem? (i := 14) (by decide +kernel), List.mem_of_getElem? (i := 187) (by decide +kernel), List.mem_of_getElem? (i := 188) (by decide +kernel)⟩
theorem lw_p5 : lw_okq (⟨"DeskBench$Neighbours", "isToBeSent", "(III)Z"⟩, 7) := ⟨⟨by decide +kernel, by decide +kernel⟩, List.mem_of_getElem? (i := 36) (by decide +kernel), List.mem_of_getElem? (i := 199) (by decide +kernel), List.mem_of_getElem? (i := 200) (by decide +kernel)⟩
theorem lw_p6 : lw_okq (⟨"java/lang/Throwable", "fillInStackTrace", "(I)Ljava/lang/Throwable;"⟩, 6) := ⟨⟨by decide +kernel, by decide +kernel⟩, List.mem_of_getElem? (i := 300) (by decide +kernel), List.mem_of_getElem? (i := 298) (by decide +kernel), List.mem_of_getElem? (i := 299) (by decide +kernel)⟩
theorem lw_p7 : lw_okq (⟨"DeskBench", "isOn", "(I)Z"⟩, 9) := ⟨⟨by decide +kernel, by decide +kernel⟩, List.mem_of_getElem? (i := 14) (by decide +kernel), List.mem_of_getElem? (i := 330) (by decide +kernel), List.mem_of_getElem? (i := 331) (by decide +kernel)⟩
theorem lw_p8 : lw_okq (⟨"DeskBench$Neighbours", "drop", "(I)V"⟩, 7) := ⟨⟨by decide +kernel, by decide +kernel⟩, List.mem_of_getElem? (i := 36) (by decide +kernel), List.mem_of_getElem? (i := 338) (by decide +kernel), List.mem_of_getElem? (i := 339) (by decide +kernel)⟩
theorem lw_p9 : lw_okq (⟨"DeskBench$Neighbours", "oweExactly", "(IJ)V"⟩, 7) := ⟨⟨by decide +kernel, by decide +kernel⟩, List.mem_of_getElem? (i := 36) (by decide +kernel), List.mem_of_getElem? (i := 342) (by decide +kernel), List.mem_of_getElem? (i := 343) (by decide +kernel)⟩
theorem lw_p10 : lw_okq (⟨"DeskBench", "requireSender", "(I)V"⟩, 9) := ⟨⟨by decide +kernel, by decide +kernel⟩, List.mem_of_getElem? (i := 14) (by decide +kernel), List.mem_of_getElem? (i := 354) (by decide +kernel), List.mem_of_getElem? (i := 355) (by decide +kernel)⟩
theorem lw_p11 : lw_okq (⟨"DeskBench", "requireOn", "(I)V"⟩, 9) := ⟨⟨by decide +kernel, by decide +kernel⟩, List.mem_of_getElem? (i := 14) (by decide +kernel), List.mem_of_getElem? (i := 362) (by decide +kernel), List.mem_of_getElem? (i := 363) (by decide +kernel)⟩
theorem lw_p12 : lw_okq (⟨"DeskBench$Neighbours", "heardPlace", "(II)I"⟩, 7) := ⟨⟨by decide +kernel, by decide +kernel⟩, List.mem_of_getElem? (i := 36) (by decide +kernel), List.mem_of_getElem? (i := 386) (by decide +kernel), List.mem_of_getElem? (i := 387) (by decide +kernel)⟩
theorem lw_p13 : lw_okq (⟨"DeskBench$Neighbours", "takeFreePlace", "(II)I"⟩, 7) := ⟨⟨by decide +kernel, by decide +kernel⟩, List.mem_of_getElem? (i := 36) (by decide +kernel), List.mem_of_getElem? (i := 390) (by decide +kernel), List.mem_of_getElem? (i := 391) (by decide +kernel)⟩
theorem lw_p14 : lw_okq (⟨"DeskBench", "requireLegal", "(IIII)V"⟩, 9) := ⟨⟨by decide +kernel, by decide +kernel⟩, List.mem_of_getElem? (i := 14) (by decide +kernel), List.mem_of_getElem? (i := 409) (by decide +kernel), List.mem_of_getElem? (i := 410) (by decide +kernel)⟩
theorem lw_p15 : lw_okq (⟨"DeskBench", "takeOwnBack", "(II)I"⟩, 9) := ⟨⟨by decide +kernel, by decide +kernel⟩, List.mem_of_getElem? (i := 14) (by decide +kernel), List.mem_of_getElem? (i := 434) (by decide +kernel), List.mem_of_getElem? (i := 435) (by decide +kernel)⟩
def lw_privs_1 : List (MethodName × Nat) := [(⟨"DeskBench", "makeGreeting", "()Z"⟩, 9), (⟨"DeskBench$Message", "address", "(III)V"⟩, 2), (⟨"DeskBench$Message", "fill", "(III)V"⟩, 2), (⟨"DeskBench", "makeThanks", "()Z"⟩, 9), (⟨"DeskBench", "makeAdvert", "()Z"⟩, 9), (⟨"DeskBench$Neighbours", "isToBeSent", "(III)Z"⟩, 7), (⟨"java/lang/Throwable", "fillInStackTrace", "(I)Ljava/lang/Throwable;"⟩, 6), (⟨"DeskBench", "isOn", "(I)Z"⟩, 9), (⟨"DeskBench$Neighbours", "drop", "(I)V"⟩, 7), (⟨"DeskBench$Neighbours", "oweExactly", "(IJ)V"⟩, 7), (⟨"DeskBench", "requireSender", "(I)V"⟩, 9), (⟨"DeskBench", "requireOn", "(I)V"⟩, 9), (⟨"DeskBench$Neighbours", "heardPlace", "(II)I"⟩, 7), (⟨"DeskBench$Neighbours", "takeFreePlace", "(II)I"⟩, 7), (⟨"DeskBench", "requireLegal", "(IIII)V"⟩, 9), (⟨"DeskBench", "takeOwnBack", "(II)I"⟩, 9)]
theorem lw_r1 : ∀ q ∈ lw_privs_1, lw_okq q := List.forall_mem_cons.mpr ⟨lw_p0, List.forall_mem_cons.mpr ⟨lw_p1, List.forall_mem_cons.mpr ⟨lw_p2, List.forall_mem_cons.mpr ⟨lw_p3, List.forall_mem_cons.mpr ⟨lw_p4, List.forall_mem_cons.mpr ⟨lw_p5, List.forall_mem_cons.mpr ⟨lw_p6, List.forall_mem_cons.mpr ⟨lw_p7, List.forall_mem_cons.mpr ⟨lw_p8, List.forall_mem_cons.mpr ⟨lw_p9, List.forall_mem_cons.mpr ⟨lw_p10, List.forall_mem_cons.mpr ⟨lw_p11, List.forall_mem_cons.mpr ⟨lw_p12, List.forall_mem_cons.mpr ⟨lw_p13, List.forall_mem_cons.mpr ⟨lw_p14, List.forall_mem_cons.mpr ⟨lw_p15, fun _ h => absurd h List.not_mem_nil⟩⟩⟩⟩⟩⟩⟩⟩⟩⟩⟩⟩⟩⟩⟩⟩
theorem lw_p16 : lw_okq (⟨"DeskBench", "takeAdvert", "(IIII)I"⟩, 9) := ⟨⟨by decide +kernel, by decide +kernel⟩, List.mem_of_getElem? (i := 14) (by decide +kernel), List.mem_of_getElem? (i := 439) (by decide +kernel), List.mem_of_getElem? (i := 440) (by decide +kernel)⟩
theorem lw_p17 : lw_okq (⟨"DeskBenchModel", "remove", "(I)V"⟩, 16) := ⟨⟨by decide +kernel, by decide +kernel⟩, List.mem_of_getElem? (i := 544) (by decide +kernel), List.mem_of_getElem? (i := 611) (by decide +kernel), List.mem_of_getElem? (i := 612) (by decide +kernel)⟩
theorem lw_p18 : lw_okq (⟨"DeskBenchModel", "settleAll", "(I)V"⟩, 16) := ⟨⟨by decide +kernel, by decide +kernel⟩, List.mem_of_getElem? (i := 544) (by decide +kernel), List.mem_of_getElem? (i := 615) (by decide +kernel), List.mem_of_getElem? (i := 616) (by decide +kernel)⟩
theorem lw_p19 : lw_okq (⟨"DeskBenchModel", "wrong", "(II)I"⟩, 16) := ⟨⟨by decide +kernel, by decide +kernel⟩, List.mem_of_getElem? (i := 544) (by decide +kernel), List.mem_of_getElem? (i := 623) (by decide +kernel), List.mem_of_getElem? (i := 624) (by decide +kernel)⟩
theorem lw_p20 : lw_okq (⟨"DeskBenchModel", "find", "(II)I"⟩, 16) := ⟨⟨by decide +kernel, by decide +kernel⟩, List.mem_of_getElem? (i := 544) (by decide +kernel), List.mem_of_getElem? (i := 627) (by decide +kernel), List.mem_of_getElem? (i := 628) (by decide +kernel)⟩
theorem lw_p21 : lw_okq (⟨"DeskBenchModel", "thank", "(III)V"⟩, 16) := ⟨⟨by decide +kernel, by decide +kernel⟩, List.mem_of_getElem? (i := 544) (by decide +kernel), List.mem_of_getElem? (i := 636) (by decide +kernel), List.mem_of_getElem? (i := 637) (by decide +kernel)⟩
theorem lw_p22 : lw_okq (⟨"DeskBenchModel", "learn", "(IIII)V"⟩, 16) := ⟨⟨by decide +kernel, by decide +kernel⟩, List.mem_of_getElem? (i := 544) (by decide +kernel), List.mem_of_getElem? (i := 640) (by decide +kernel), List.mem_of_getElem? (i := 641) (by decide +kernel)⟩
theorem lw_p23 : lw_okq (⟨"DeskBenchModel", "greet", "(I)V"⟩, 16) := ⟨⟨by decide +kernel, by decide +kernel⟩, List.mem_of_getElem? (i := 544) (by decide +kernel), List.mem_of_getElem? (i := 665) (by decide +kernel), List.mem_of_getElem? (i := 666) (by decide +kernel)⟩
theorem lw_p24 : lw_okq (⟨"DeskBenchModel", "make", "(IIIIII)V"⟩, 16) := ⟨⟨by decide +kernel, by decide +kernel⟩, List.mem_of_getElem? (i := 544) (by decide +kernel), List.mem_of_getElem? (i := 669) (by decide +kernel), List.mem_of_getElem? (i := 670) (by decide +kernel)⟩
theorem lw_p25 : lw_okq (⟨"DeskBenchModel", "firstAdvert", "()I"⟩, 16) := ⟨⟨by decide +kernel, by decide +kernel⟩, List.mem_of_getElem? (i := 544) (by decide +kernel), List.mem_of_getElem? (i := 673) (by decide +kernel), List.mem_of_getElem? (i := 674) (by decide +kernel)⟩
def lw_privs_2 : List (MethodName × Nat) := [(⟨"DeskBench", "takeAdvert", "(IIII)I"⟩, 9), (⟨"DeskBenchModel", "remove", "(I)V"⟩, 16), (⟨"DeskBenchModel", "settleAll", "(I)V"⟩, 16), (⟨"DeskBenchModel", "wrong", "(II)I"⟩, 16), (⟨"DeskBenchModel", "find", "(II)I"⟩, 16), (⟨"DeskBenchModel", "thank", "(III)V"⟩, 16), (⟨"DeskBenchModel", "learn", "(IIII)V"⟩, 16), (⟨"DeskBenchModel", "greet", "(I)V"⟩, 16), (⟨"DeskBenchModel", "make", "(IIIIII)V"⟩, 16), (⟨"DeskBenchModel", "firstAdvert", "()I"⟩, 16)]
theorem lw_r2 : ∀ q ∈ lw_privs_2, lw_okq q := List.forall_mem_cons.mpr ⟨lw_p16, List.forall_mem_cons.mpr ⟨lw_p17, List.forall_mem_cons.mpr ⟨lw_p18, List.forall_mem_cons.mpr ⟨lw_p19, List.forall_mem_cons.mpr ⟨lw_p20, List.forall_mem_cons.mpr ⟨lw_p21, List.forall_mem_cons.mpr ⟨lw_p22, List.forall_mem_cons.mpr ⟨lw_p23, List.forall_mem_cons.mpr ⟨lw_p24, List.forall_mem_cons.mpr ⟨lw_p25, fun _ h => absurd h List.not_mem_nil⟩⟩⟩⟩⟩⟩⟩⟩⟩⟩
def lw_privs : List (MethodName × Nat) := lw_privs_1 ++ (lw_privs_2)
def lw_tbl : List Cond := k2_sels lw_privs ++ tables_1
theorem lw_privs_ok : ∀ q ∈ lw_privs, lw_okq q := by
  show ∀ q ∈ lw_privs_1 ++ (lw_privs_2), lw_okq q
  exact List.forall_mem_append.mpr ⟨lw_r1, lw_r2⟩
/-! names: written by wip/gen/names.py -/
def bigW : List Cond := lw_tbl.filter goodWord
theorem bw {w : Cond} (i : Nat) (h : lw_tbl[i]? = some w) (hg : goodWord w = true) : w ∈ bigW := List.mem_filter.mpr ⟨List.mem_of_getElem? h, hg⟩
theorem bigW_in : ∀ w ∈ bigW, w ∈ lw_tbl := fun _ h => (List.mem_filter.mp h).1
theorem bigW_good : GoodIn bigW bigW := fun _ h => ⟨h, good_of_word (List.mem_filter.mp h).2⟩
theorem gw_app {a b : List Cond} (ha : GoodIn bigW a) (hb : GoodIn bigW b) : GoodIn bigW (a ++ b) := fun w h => (List.mem_append.mp h).elim (ha w) (hb w)
theorem gw_1 {c : Cond} (h : c ∈ bigW) : GoodIn bigW [c] := fun w hw => by rw [List.mem_singleton] at hw; subst hw; exact bigW_good _ h
theorem gw_c {c : Cond} {ws : List Cond} (h : c ∈ bigW) (hw : GoodIn bigW ws) : GoodIn bigW (c :: ws) := fun w h1 => (List.mem_cons.mp h1).elim (fun e => by subst e; exact bigW_good _ h) (hw w)
theorem gw_V {own C : String} {idx L : Nat} {y : MethodName} {cc : ByteArray} {r : Option FieldType} (h1 : Cond.methodLink own idx y ∈ bigW) (h2 : Cond.instanceMethod y ∈ bigW) (h3 : Cond.selects C y y ∈ bigW) (h4 : Cond.initialized C ∈ bigW) (h5 : Cond.code y cc L r ∈ bigW) : GoodIn bigW (wsV own idx C y (.code y cc L r :: bigW)) := gw_c h1 (gw_c h2 (gw_c h3 (gw_c h4 (gw_c h5 bigW_good))))
theorem gw_I {L : Nat} {y : MethodName} {cc : ByteArray} {r : Option FieldType} (h5 : Cond.code y cc L r ∈ bigW) : GoodIn bigW (.code y cc L r :: bigW) := gw_c h5 bigW_good
def RAD : String := "DeskBench$Adverts"
def TAD : u_T := fun k => match k with
  | 0 => ("DeskBench$Adverts", "numbers", "[I", true)
  | _ => ("DeskBench$Adverts", "bodies", "[I", true)
def tyAD : Nat → FieldType := fun k => match k with
  | 0 => .array .int
  | _ => .array .int
theorem nmAD : ∀ a, a < 2 → ∀ b, b < 2 → a ≠ b → (TAD a).2.1 ≠ (TAD b).2.1 := by decide +kernel
theorem tyAD_ok : ∀ k, k < 2 → parseFieldDescriptor (TAD k).2.2.1 = some (tyAD k) := by decide +kernel
def RMS : String := "DeskBench$Message"
def TMS : u_T := fun k => match k with
  | 0 => ("DeskBench$Message", "parts", "[I", true)
  | _ => ("DeskBench$Message", "names", "J", false)
def tyMS : Nat → FieldType := fun k => match k with
  | 0 => .array .int
  | _ => .long
theorem nmMS : ∀ a, a < 2 → ∀ b, b < 2 → a ≠ b → (TMS a).2.1 ≠ (TMS b).2.1 := by decide +kernel
theorem tyMS_ok : ∀ k, k < 2 → parseFieldDescriptor (TMS k).2.2.1 = some (tyMS k) := by decide +kernel
def RNB : String := "DeskBench$Neighbours"
def TNB : u_T := fun k => match k with
  | 0 => ("DeskBench$Neighbours", "standings", "[I", true)
  | 1 => ("DeskBench$Neighbours", "ports", "[I", true)
  | 2 => ("DeskBench$Neighbours", "routers", "[I", true)
  | 3 => ("DeskBench$Neighbours", "greetedAt", "[I", true)
  | 4 => ("DeskBench$Neighbours", "owed", "[J", true)
  | 5 => ("DeskBench$Neighbours", "unsent", "[J", true)
  | _ => ("DeskBench$Neighbours", "sentAt", "[I", true)
def tyNB : Nat → FieldType := fun k => match k with
  | 0 => .array .int
  | 1 => .array .int
  | 2 => .array .int
  | 3 => .array .int
  | 4 => .array .long
  | 5 => .array .long
  | _ => .array .int
theorem nmNB : ∀ a, a < 7 → ∀ b, b < 7 → a ≠ b → (TNB a).2.1 ≠ (TNB b).2.1 := by decide +kernel
theorem tyNB_ok : ∀ k, k < 7 → parseFieldDescriptor (TNB k).2.2.1 = some (tyNB k) := by decide +kernel
def RTQ : String := "DeskBench$ThanksQueue"
def TTQ : u_T := fun k => match k with
  | 0 => ("DeskBench$ThanksQueue", "ports", "[I", true)
  | 1 => ("DeskBench$ThanksQueue", "routers", "[I", true)
  | 2 => ("DeskBench$ThanksQueue", "origins", "[I", true)
  | 3 => ("DeskBench$ThanksQueue", "numbers", "[I", true)
  | 4 => ("DeskBench$ThanksQueue", "first", "I", false)
  | _ => ("DeskBench$ThanksQueue", "size", "I", false)
def tyTQ : Nat → FieldType := fun k => match k with
  | 0 => .array .int
  | 1 => .array .int
  | 2 => .array .int
  | 3 => .array .int
  | 4 => .int
  | _ => .int
theorem nmTQ : ∀ a, a < 6 → ∀ b, b < 6 → a ≠ b → (TTQ a).2.1 ≠ (TTQ b).2.1 := by decide +kernel
theorem tyTQ_ok : ∀ k, k < 6 → parseFieldDescriptor (TTQ k).2.2.1 = some (tyTQ k) := by decide +kernel
def RDB : String := "DeskBench"
def TDB : u_T := fun k => match k with
  | 0 => ("DeskBench", "itself", "I", true)
  | 1 => ("DeskBench", "adverts", "LDeskBench$Adverts;", true)
  | 2 => ("DeskBench", "neighbours", "LDeskBench$Neighbours;", true)
  | 3 => ("DeskBench", "thanksQueue", "LDeskBench$ThanksQueue;", true)
  | 4 => ("DeskBench", "last", "LDeskBench$Message;", true)
  | 5 => ("DeskBench", "portsOn", "I", false)
  | 6 => ("DeskBench", "greetingsToSend", "I", false)
  | 7 => ("DeskBench", "greatestOwnNumber", "I", false)
  | _ => ("DeskBench", "time", "I", false)
def tyDB : Nat → FieldType := fun k => match k with
  | 0 => .int
  | 1 => .object "DeskBench$Adverts"
  | 2 => .object "DeskBench$Neighbours"
  | 3 => .object "DeskBench$ThanksQueue"
  | 4 => .object "DeskBench$Message"
  | 5 => .int
  | 6 => .int
  | 7 => .int
  | _ => .int
theorem nmDB : ∀ a, a < 9 → ∀ b, b < 9 → a ≠ b → (TDB a).2.1 ≠ (TDB b).2.1 := by decide +kernel
theorem tyDB_ok : ∀ k, k < 9 → parseFieldDescriptor (TDB k).2.2.1 = some (tyDB k) := by decide +kernel
def RRM : String := "DeskBenchModel"
def TRM : u_T := fun k => match k with
  | 0 => ("DeskBenchModel", "itself", "I", true)
  | 1 => ("DeskBenchModel", "code", "I", false)
  | 2 => ("DeskBenchModel", "now", "I", false)
  | 3 => ("DeskBenchModel", "on", "[Z", true)
  | 4 => ("DeskBenchModel", "greets", "[Z", true)
  | 5 => ("DeskBenchModel", "who", "[I", true)
  | 6 => ("DeskBenchModel", "heard", "[I", true)
  | 7 => ("DeskBenchModel", "friend", "[Z", true)
  | 8 => ("DeskBenchModel", "when", "[I", true)
  | 9 => ("DeskBenchModel", "number", "[I", true)
  | 10 => ("DeskBenchModel", "body", "[I", true)
  | 11 => ("DeskBenchModel", "greatest", "I", false)
  | 12 => ("DeskBenchModel", "waiting", "I", false)
  | 13 => ("DeskBenchModel", "thanks", "[I", true)
  | 14 => ("DeskBenchModel", "message", "[I", true)
  | _ => ("DeskBenchModel", "named", "J", false)
def tyRM : Nat → FieldType := fun k => match k with
  | 0 => .int
  | 1 => .int
  | 2 => .int
  | 3 => .array .boolean
  | 4 => .array .boolean
  | 5 => .array .int
  | 6 => .array .int
  | 7 => .array .boolean
  | 8 => .array .int
  | 9 => .array .int
  | 10 => .array .int
  | 11 => .int
  | 12 => .int
  | 13 => .array .int
  | 14 => .array .int
  | _ => .long
theorem nmRM : ∀ a, a < 16 → ∀ b, b < 16 → a ≠ b → (TRM a).2.1 ≠ (TRM b).2.1 := by decide +kernel
theorem tyRM_ok : ∀ k, k < 16 → parseFieldDescriptor (TRM k).2.2.1 = some (tyRM k) := by decide +kernel
def RLW : String := "DeskBenchLaw"
def RLG : String := "java/lang/Long"
abbrev cDB_init : ByteArray := prog_1_method_1_code
def yDB_init : MethodName := ⟨RDB, "<init>", "(I)V"⟩
abbrev wsDB_init : List Cond := .code yDB_init cDB_init 2 (none) :: bigW
abbrev cAD_init : ByteArray := prog_2_method_1_code
def yAD_init : MethodName := ⟨RAD, "<init>", "()V"⟩
abbrev wsAD_init : List Cond := .code yAD_init cAD_init 1 (none) :: bigW
abbrev cNB_init : ByteArray := prog_4_method_1_code
def yNB_init : MethodName := ⟨RNB, "<init>", "()V"⟩
abbrev wsNB_init : List Cond := .code yNB_init cNB_init 1 (none) :: bigW
abbrev cTQ_init : ByteArray := prog_5_method_1_code
def yTQ_init : MethodName := ⟨RTQ, "<init>", "()V"⟩
abbrev wsTQ_init : List Cond := .code yTQ_init cTQ_init 1 (none) :: bigW
abbrev cMS_init : ByteArray := prog_3_method_1_code
def yMS_init : MethodName := ⟨RMS, "<init>", "()V"⟩
abbrev wsMS_init : List Cond := .code yMS_init cMS_init 1 (none) :: bigW
abbrev cDB_own : ByteArray := prog_1_method_6_code
def yDB_own : MethodName := ⟨RDB, "own", "(I)I"⟩
abbrev wsDB_own : List Cond := .code yDB_own cDB_own 2 (some .int) :: bigW
abbrev cAD_put : ByteArray := prog_2_method_5_code
def yAD_put : MethodName := ⟨RAD, "put", "(III)V"⟩
abbrev wsAD_put : List Cond := .code yAD_put cAD_put 4 (none) :: bigW
abbrev cNB_oweToFriendsBut : ByteArray := prog_4_method_12_code
def yNB_oweToFriendsBut : MethodName := ⟨RNB, "oweToFriendsBut", "(II)V"⟩
abbrev wsNB_oweToFriendsBut : List Cond := .code yNB_oweToFriendsBut cNB_oweToFriendsBut 4 (none) :: bigW
abbrev cNB_owe : ByteArray := prog_4_method_11_code
def yNB_owe : MethodName := ⟨RNB, "owe", "(II)V"⟩
abbrev wsNB_owe : List Cond := .code yNB_owe cNB_owe 3 (none) :: bigW
abbrev cDB_next : ByteArray := prog_1_method_9_code
def yDB_next : MethodName := ⟨RDB, "next", "()Z"⟩
abbrev wsDB_next : List Cond := .code yDB_next cDB_next 1 (some .boolean) :: bigW
abbrev cDB_makeGreeting : ByteArray := prog_1_method_28_code
def yDB_makeGreeting : MethodName := ⟨RDB, "makeGreeting", "()Z"⟩
abbrev wsDB_makeGreeting : List Cond := .code yDB_makeGreeting cDB_makeGreeting 3 (some .boolean) :: bigW
abbrev cNB_heardOn : ByteArray := prog_4_method_21_code
def yNB_heardOn : MethodName := ⟨RNB, "heardOn", "(I)J"⟩
abbrev wsNB_heardOn : List Cond := .code yNB_heardOn cNB_heardOn 5 (some .long) :: bigW
abbrev cMS_makeGreeting : ByteArray := prog_3_method_5_code
def yMS_makeGreeting : MethodName := ⟨RMS, "makeGreeting", "(IJ)V"⟩
abbrev wsMS_makeGreeting : List Cond := .code yMS_makeGreeting cMS_makeGreeting 4 (none) :: bigW
abbrev cMS_address : ByteArray := prog_3_method_8_code
def yMS_address : MethodName := ⟨RMS, "address", "(III)V"⟩
abbrev wsMS_address : List Cond := .code yMS_address cMS_address 4 (none) :: bigW
abbrev cMS_fill : ByteArray := prog_3_method_9_code
def yMS_fill : MethodName := ⟨RMS, "fill", "(III)V"⟩
abbrev wsMS_fill : List Cond := .code yMS_fill cMS_fill 4 (none) :: bigW
abbrev cDB_makeThanks : ByteArray := prog_1_method_29_code
def yDB_makeThanks : MethodName := ⟨RDB, "makeThanks", "()Z"⟩
abbrev wsDB_makeThanks : List Cond := .code yDB_makeThanks cDB_makeThanks 1 (some .boolean) :: bigW
abbrev cTQ_isEmpty : ByteArray := prog_5_method_2_code
def yTQ_isEmpty : MethodName := ⟨RTQ, "isEmpty", "()Z"⟩
abbrev wsTQ_isEmpty : List Cond := .code yTQ_isEmpty cTQ_isEmpty 1 (some .boolean) :: bigW
abbrev cTQ_moveFirstTo : ByteArray := prog_5_method_4_code
def yTQ_moveFirstTo : MethodName := ⟨RTQ, "moveFirstTo", "(LDeskBench$Message;)V"⟩
abbrev wsTQ_moveFirstTo : List Cond := .code yTQ_moveFirstTo cTQ_moveFirstTo 2 (none) :: bigW
abbrev cMS_makeThanks : ByteArray := prog_3_method_6_code
def yMS_makeThanks : MethodName := ⟨RMS, "makeThanks", "(IIII)V"⟩
abbrev wsMS_makeThanks : List Cond := .code yMS_makeThanks cMS_makeThanks 5 (none) :: bigW
abbrev cDB_makeAdvert : ByteArray := prog_1_method_30_code
def yDB_makeAdvert : MethodName := ⟨RDB, "makeAdvert", "()Z"⟩
abbrev wsDB_makeAdvert : List Cond := .code yDB_makeAdvert cDB_makeAdvert 3 (some .boolean) :: bigW
abbrev cNB_firstToServe : ByteArray := prog_4_method_18_code
def yNB_firstToServe : MethodName := ⟨RNB, "firstToServe", "(I)I"⟩
abbrev wsNB_firstToServe : List Cond := .code yNB_firstToServe cNB_firstToServe 6 (some .int) :: bigW
abbrev cNB_firstToSend : ByteArray := prog_4_method_17_code
def yNB_firstToSend : MethodName := ⟨RNB, "firstToSend", "(II)I"⟩
abbrev wsNB_firstToSend : List Cond := .code yNB_firstToSend cNB_firstToSend 4 (some .int) :: bigW
abbrev cNB_isToBeSent : ByteArray := prog_4_method_16_code
def yNB_isToBeSent : MethodName := ⟨RNB, "isToBeSent", "(III)Z"⟩
abbrev wsNB_isToBeSent : List Cond := .code yNB_isToBeSent cNB_isToBeSent 6 (some .boolean) :: bigW
abbrev cNB_sent : ByteArray := prog_4_method_15_code
def yNB_sent : MethodName := ⟨RNB, "sent", "(III)V"⟩
abbrev wsNB_sent : List Cond := .code yNB_sent cNB_sent 4 (none) :: bigW
abbrev cNB_portAt : ByteArray := prog_4_method_19_code
def yNB_portAt : MethodName := ⟨RNB, "portAt", "(I)I"⟩
abbrev wsNB_portAt : List Cond := .code yNB_portAt cNB_portAt 2 (some .int) :: bigW
abbrev cNB_routerAt : ByteArray := prog_4_method_20_code
def yNB_routerAt : MethodName := ⟨RNB, "routerAt", "(I)I"⟩
abbrev wsNB_routerAt : List Cond := .code yNB_routerAt cNB_routerAt 2 (some .int) :: bigW
abbrev cAD_numberOf : ByteArray := prog_2_method_3_code
def yAD_numberOf : MethodName := ⟨RAD, "numberOf", "(I)I"⟩
abbrev wsAD_numberOf : List Cond := .code yAD_numberOf cAD_numberOf 2 (some .int) :: bigW
abbrev cAD_bodyOf : ByteArray := prog_2_method_4_code
def yAD_bodyOf : MethodName := ⟨RAD, "bodyOf", "(I)I"⟩
abbrev wsAD_bodyOf : List Cond := .code yAD_bodyOf cAD_bodyOf 2 (some .int) :: bigW
abbrev cMS_makeAdvert : ByteArray := prog_3_method_7_code
def yMS_makeAdvert : MethodName := ⟨RMS, "makeAdvert", "(IIIII)V"⟩
abbrev wsMS_makeAdvert : List Cond := .code yMS_makeAdvert cMS_makeAdvert 6 (none) :: bigW
abbrev cDB_named : ByteArray := prog_1_method_11_code
def yDB_named : MethodName := ⟨RDB, "named", "()J"⟩
abbrev wsDB_named : List Cond := .code yDB_named cDB_named 1 (some .long) :: bigW
abbrev cMS_namedRouters : ByteArray := prog_3_method_4_code
def yMS_namedRouters : MethodName := ⟨RMS, "namedRouters", "()J"⟩
abbrev wsMS_namedRouters : List Cond := .code yMS_namedRouters cMS_namedRouters 1 (some .long) :: bigW
abbrev cDB_count : ByteArray := prog_1_method_16_code
def yDB_count : MethodName := ⟨RDB, "count", "(Z)I"⟩
abbrev wsDB_count : List Cond := .code yDB_count cDB_count 2 (some .int) :: bigW
abbrev cNB_atLeast : ByteArray := prog_4_method_24_code
def yNB_atLeast : MethodName := ⟨RNB, "atLeast", "(I)I"⟩
abbrev wsNB_atLeast : List Cond := .code yNB_atLeast cNB_atLeast 4 (some .int) :: bigW
abbrev cDB_time : ByteArray := prog_1_method_17_code
def yDB_time : MethodName := ⟨RDB, "time", "()I"⟩
abbrev wsDB_time : List Cond := .code yDB_time cDB_time 1 (some .int) :: bigW
abbrev cLW_cell : ByteArray := method_2_code
def yLW_cell : MethodName := ⟨RLW, "cell", "([II)I"⟩
abbrev wsLW_cell : List Cond := .code yLW_cell cLW_cell 2 (some .int) :: bigW
abbrev cLW_port : ByteArray := method_3_code
def yLW_port : MethodName := ⟨RLW, "port", "(LDeskBench;IZ[J)I"⟩
abbrev wsLW_port : List Cond := .codeWith yLW_port cLW_port 5 (some .int) [((0 : Nat), (17 : Nat), (20 : Nat), (13 : Nat))] :: bigW
abbrev cDB_port : ByteArray := prog_1_method_2_code
def yDB_port : MethodName := ⟨RDB, "port", "(IZ)Z"⟩
abbrev wsDB_port : List Cond := .code yDB_port cDB_port 3 (some .boolean) :: bigW
abbrev cDB_requirePort : ByteArray := prog_1_method_20_code
def yDB_requirePort : MethodName := ⟨RDB, "requirePort", "(I)V"⟩
abbrev wsDB_requirePort : List Cond := .code yDB_requirePort cDB_requirePort 1 (none) :: bigW
abbrev cDB_isOn : ByteArray := prog_1_method_25_code
def yDB_isOn : MethodName := ⟨RDB, "isOn", "(I)Z"⟩
abbrev wsDB_isOn : List Cond := .code yDB_isOn cDB_isOn 2 (some .boolean) :: bigW
abbrev cNB_dropPort : ByteArray := prog_4_method_9_code
def yNB_dropPort : MethodName := ⟨RNB, "dropPort", "(I)V"⟩
abbrev wsNB_dropPort : List Cond := .code yNB_dropPort cNB_dropPort 3 (none) :: bigW
abbrev cNB_drop : ByteArray := prog_4_method_8_code
def yNB_drop : MethodName := ⟨RNB, "drop", "(I)V"⟩
abbrev wsNB_drop : List Cond := .code yNB_drop cNB_drop 2 (none) :: bigW
abbrev cNB_oweExactly : ByteArray := prog_4_method_7_code
def yNB_oweExactly : MethodName := ⟨RNB, "oweExactly", "(IJ)V"⟩
abbrev wsNB_oweExactly : List Cond := .code yNB_oweExactly cNB_oweExactly 4 (none) :: bigW
abbrev cLW_greeting : ByteArray := method_4_code
def yLW_greeting : MethodName := ⟨RLW, "greeting", "(LDeskBench;IIZ[J)I"⟩
abbrev wsLW_greeting : List Cond := .codeWith yLW_greeting cLW_greeting 6 (some .int) [((0 : Nat), (12 : Nat), (15 : Nat), (13 : Nat)), ((0 : Nat), (12 : Nat), (19 : Nat), (19 : Nat))] :: bigW
abbrev cDB_greeting : ByteArray := prog_1_method_3_code
def yDB_greeting : MethodName := ⟨RDB, "greeting", "(IIZ)I"⟩
abbrev wsDB_greeting : List Cond := .code yDB_greeting cDB_greeting 5 (some .int) :: bigW
abbrev cDB_requireSender : ByteArray := prog_1_method_22_code
def yDB_requireSender : MethodName := ⟨RDB, "requireSender", "(I)V"⟩
abbrev wsDB_requireSender : List Cond := .code yDB_requireSender cDB_requireSender 2 (none) :: bigW
abbrev cDB_isRouter : ByteArray := prog_1_method_18_code
def yDB_isRouter : MethodName := ⟨RDB, "isRouter", "(I)Z"⟩
abbrev wsDB_isRouter : List Cond := .code yDB_isRouter cDB_isRouter 1 (some .boolean) :: bigW
abbrev cDB_requireOn : ByteArray := prog_1_method_23_code
def yDB_requireOn : MethodName := ⟨RDB, "requireOn", "(I)V"⟩
abbrev wsDB_requireOn : List Cond := .code yDB_requireOn cDB_requireOn 2 (none) :: bigW
abbrev cNB_placeFor : ByteArray := prog_4_method_4_code
def yNB_placeFor : MethodName := ⟨RNB, "placeFor", "(II)I"⟩
abbrev wsNB_placeFor : List Cond := .code yNB_placeFor cNB_placeFor 4 (some .int) :: bigW
abbrev cNB_heardPlace : ByteArray := prog_4_method_2_code
def yNB_heardPlace : MethodName := ⟨RNB, "heardPlace", "(II)I"⟩
abbrev wsNB_heardPlace : List Cond := .code yNB_heardPlace cNB_heardPlace 4 (some .int) :: bigW
abbrev cNB_takeFreePlace : ByteArray := prog_4_method_5_code
def yNB_takeFreePlace : MethodName := ⟨RNB, "takeFreePlace", "(II)I"⟩
abbrev wsNB_takeFreePlace : List Cond := .code yNB_takeFreePlace cNB_takeFreePlace 4 (some .int) :: bigW
abbrev cAD_allOrigins : ByteArray := prog_2_method_7_code
def yAD_allOrigins : MethodName := ⟨RAD, "allOrigins", "()J"⟩
abbrev wsAD_allOrigins : List Cond := .code yAD_allOrigins cAD_allOrigins 4 (some .long) :: bigW
abbrev cNB_greeted : ByteArray := prog_4_method_6_code
def yNB_greeted : MethodName := ⟨RNB, "greeted", "(IIZJ)I"⟩
abbrev wsNB_greeted : List Cond := .code yNB_greeted cNB_greeted 6 (some .int) :: bigW
abbrev cLW_advert : ByteArray := method_5_code
def yLW_advert : MethodName := ⟨RLW, "advert", "(LDeskBench;IIIII[J)I"⟩
abbrev wsLW_advert : List Cond := .codeWith yLW_advert cLW_advert 8 (some .int) [((0 : Nat), (16 : Nat), (19 : Nat), (13 : Nat)), ((0 : Nat), (16 : Nat), (23 : Nat), (19 : Nat))] :: bigW
abbrev cDB_advert : ByteArray := prog_1_method_4_code
def yDB_advert : MethodName := ⟨RDB, "advert", "(IIIII)I"⟩
abbrev wsDB_advert : List Cond := .code yDB_advert cDB_advert 7 (some .int) :: bigW
abbrev cDB_requireLegal : ByteArray := prog_1_method_24_code
def yDB_requireLegal : MethodName := ⟨RDB, "requireLegal", "(IIII)V"⟩
abbrev wsDB_requireLegal : List Cond := .code yDB_requireLegal cDB_requireLegal 5 (none) :: bigW
abbrev cDB_requireRouter : ByteArray := prog_1_method_19_code
def yDB_requireRouter : MethodName := ⟨RDB, "requireRouter", "(I)V"⟩
abbrev wsDB_requireRouter : List Cond := .code yDB_requireRouter cDB_requireRouter 1 (none) :: bigW
abbrev cDB_requireNumber : ByteArray := prog_1_method_21_code
def yDB_requireNumber : MethodName := ⟨RDB, "requireNumber", "(I)V"⟩
abbrev wsDB_requireNumber : List Cond := .code yDB_requireNumber cDB_requireNumber 1 (none) :: bigW
abbrev cNB_friendPlace : ByteArray := prog_4_method_3_code
def yNB_friendPlace : MethodName := ⟨RNB, "friendPlace", "(II)I"⟩
abbrev wsNB_friendPlace : List Cond := .code yNB_friendPlace cNB_friendPlace 4 (some .int) :: bigW
abbrev cTQ_add : ByteArray := prog_5_method_3_code
def yTQ_add : MethodName := ⟨RTQ, "add", "(IIII)V"⟩
abbrev wsTQ_add : List Cond := .code yTQ_add cTQ_add 6 (none) :: bigW
abbrev cNB_settle : ByteArray := prog_4_method_13_code
def yNB_settle : MethodName := ⟨RNB, "settle", "(II)Z"⟩
abbrev wsNB_settle : List Cond := .code yNB_settle cNB_settle 6 (some .boolean) :: bigW
abbrev cDB_takeOwnBack : ByteArray := prog_1_method_26_code
def yDB_takeOwnBack : MethodName := ⟨RDB, "takeOwnBack", "(II)I"⟩
abbrev wsDB_takeOwnBack : List Cond := .code yDB_takeOwnBack cDB_takeOwnBack 3 (some .int) :: bigW
abbrev cDB_takeAdvert : ByteArray := prog_1_method_27_code
def yDB_takeAdvert : MethodName := ⟨RDB, "takeAdvert", "(IIII)I"⟩
abbrev wsDB_takeAdvert : List Cond := .code yDB_takeAdvert cDB_takeAdvert 6 (some .int) :: bigW
abbrev cLW_thanks : ByteArray := method_6_code
def yLW_thanks : MethodName := ⟨RLW, "thanks", "(LDeskBench;IIII[J)I"⟩
abbrev wsLW_thanks : List Cond := .codeWith yLW_thanks cLW_thanks 7 (some .int) [((0 : Nat), (21 : Nat), (24 : Nat), (13 : Nat)), ((0 : Nat), (21 : Nat), (28 : Nat), (19 : Nat))] :: bigW
abbrev cDB_thanks : ByteArray := prog_1_method_5_code
def yDB_thanks : MethodName := ⟨RDB, "thanks", "(IIII)Z"⟩
abbrev wsDB_thanks : List Cond := .code yDB_thanks cDB_thanks 6 (some .boolean) :: bigW
abbrev cLW_forget : ByteArray := method_7_code
def yLW_forget : MethodName := ⟨RLW, "forget", "(LDeskBench;I[J)I"⟩
abbrev wsLW_forget : List Cond := .codeWith yLW_forget cLW_forget 4 (some .int) [((0 : Nat), (16 : Nat), (19 : Nat), (13 : Nat))] :: bigW
abbrev cDB_forget : ByteArray := prog_1_method_7_code
def yDB_forget : MethodName := ⟨RDB, "forget", "(I)Z"⟩
abbrev wsDB_forget : List Cond := .code yDB_forget cDB_forget 2 (some .boolean) :: bigW
abbrev cAD_has : ByteArray := prog_2_method_2_code
def yAD_has : MethodName := ⟨RAD, "has", "(I)Z"⟩
abbrev wsAD_has : List Cond := .code yAD_has cAD_has 2 (some .boolean) :: bigW
abbrev cAD_remove : ByteArray := prog_2_method_6_code
def yAD_remove : MethodName := ⟨RAD, "remove", "(I)V"⟩
abbrev wsAD_remove : List Cond := .code yAD_remove cAD_remove 2 (none) :: bigW
abbrev cNB_settleAll : ByteArray := prog_4_method_14_code
def yNB_settleAll : MethodName := ⟨RNB, "settleAll", "(I)V"⟩
abbrev wsNB_settleAll : List Cond := .code yNB_settleAll cNB_settleAll 3 (none) :: bigW
abbrev cLW_run : ByteArray := method_8_code
def yLW_run : MethodName := ⟨RLW, "run", "(LDeskBench;I[J)I"⟩
abbrev wsLW_run : List Cond := .codeWith yLW_run cLW_run 4 (some .int) [((0 : Nat), (9 : Nat), (12 : Nat), (13 : Nat)), ((0 : Nat), (9 : Nat), (15 : Nat), (19 : Nat))] :: bigW
abbrev cDB_run : ByteArray := prog_1_method_8_code
def yDB_run : MethodName := ⟨RDB, "run", "(I)I"⟩
abbrev wsDB_run : List Cond := .code yDB_run cDB_run 3 (some .int) :: bigW
abbrev cNB_dropSilent : ByteArray := prog_4_method_10_code
def yNB_dropSilent : MethodName := ⟨RNB, "dropSilent", "(I)V"⟩
abbrev wsNB_dropSilent : List Cond := .code yNB_dropSilent cNB_dropSilent 3 (none) :: bigW
abbrev cLW_message : ByteArray := method_9_code
def yLW_message : MethodName := ⟨RLW, "message", "(LDeskBench;I[J)I"⟩
abbrev wsLW_message : List Cond := .codeWith yLW_message cLW_message 4 (some .int) [((0 : Nat), (9 : Nat), (12 : Nat), (13 : Nat)), ((0 : Nat), (9 : Nat), (15 : Nat), (19 : Nat))] :: bigW
abbrev cDB_message : ByteArray := prog_1_method_10_code
def yDB_message : MethodName := ⟨RDB, "message", "(I)I"⟩
abbrev wsDB_message : List Cond := .code yDB_message cDB_message 2 (some .int) :: bigW
abbrev cMS_isMade : ByteArray := prog_3_method_2_code
def yMS_isMade : MethodName := ⟨RMS, "isMade", "()Z"⟩
abbrev wsMS_isMade : List Cond := .code yMS_isMade cMS_isMade 1 (some .boolean) :: bigW
abbrev cMS_part : ByteArray := prog_3_method_3_code
def yMS_part : MethodName := ⟨RMS, "part", "(I)I"⟩
abbrev wsMS_part : List Cond := .code yMS_part cMS_part 2 (some .int) :: bigW
abbrev cLW_state : ByteArray := method_10_code
def yLW_state : MethodName := ⟨RLW, "state", "(LDeskBench;II[J)I"⟩
abbrev wsLW_state : List Cond := .codeWith yLW_state cLW_state 5 (some .int) [((0 : Nat), (10 : Nat), (13 : Nat), (13 : Nat))] :: bigW
abbrev cDB_state : ByteArray := prog_1_method_12_code
def yDB_state : MethodName := ⟨RDB, "state", "(II)I"⟩
abbrev wsDB_state : List Cond := .code yDB_state cDB_state 3 (some .int) :: bigW
abbrev cNB_standingOf : ByteArray := prog_4_method_22_code
def yNB_standingOf : MethodName := ⟨RNB, "standingOf", "(II)I"⟩
abbrev wsNB_standingOf : List Cond := .code yNB_standingOf cNB_standingOf 4 (some .int) :: bigW
abbrev cLW_known : ByteArray := method_11_code
def yLW_known : MethodName := ⟨RLW, "known", "(LDeskBench;I[J)I"⟩
abbrev wsLW_known : List Cond := .codeWith yLW_known cLW_known 4 (some .int) [((0 : Nat), (9 : Nat), (12 : Nat), (13 : Nat))] :: bigW
abbrev cDB_known : ByteArray := prog_1_method_13_code
def yDB_known : MethodName := ⟨RDB, "known", "(I)I"⟩
abbrev wsDB_known : List Cond := .code yDB_known cDB_known 2 (some .int) :: bigW
abbrev cLW_body : ByteArray := method_12_code
def yLW_body : MethodName := ⟨RLW, "body", "(LDeskBench;I[J)I"⟩
abbrev wsLW_body : List Cond := .codeWith yLW_body cLW_body 4 (some .int) [((0 : Nat), (9 : Nat), (12 : Nat), (13 : Nat))] :: bigW
abbrev cDB_body : ByteArray := prog_1_method_14_code
def yDB_body : MethodName := ⟨RDB, "body", "(I)I"⟩
abbrev wsDB_body : List Cond := .code yDB_body cDB_body 2 (some .int) :: bigW
abbrev cLW_due : ByteArray := method_13_code
def yLW_due : MethodName := ⟨RLW, "due", "(LDeskBench;II[J)I"⟩
abbrev wsLW_due : List Cond := .codeWith yLW_due cLW_due 5 (some .int) [((0 : Nat), (10 : Nat), (13 : Nat), (13 : Nat))] :: bigW
abbrev cDB_due : ByteArray := prog_1_method_15_code
def yDB_due : MethodName := ⟨RDB, "due", "(II)I"⟩
abbrev wsDB_due : List Cond := .code yDB_due cDB_due 3 (some .int) :: bigW
abbrev cNB_owedTo : ByteArray := prog_4_method_23_code
def yNB_owedTo : MethodName := ⟨RNB, "owedTo", "(II)I"⟩
abbrev wsNB_owedTo : List Cond := .code yNB_owedTo cNB_owedTo 4 (some .int) :: bigW
abbrev cLG_bitCount : ByteArray := prog_11_method_50_code
def yLG_bitCount : MethodName := ⟨RLG, "bitCount", "(J)I"⟩
abbrev wsLG_bitCount : List Cond := .code yLG_bitCount cLG_bitCount 2 (some .int) :: bigW
abbrev cRM_init : ByteArray := prog_7_method_1_code
def yRM_init : MethodName := ⟨RRM, "<init>", "(I)V"⟩
abbrev wsRM_init : List Cond := .code yRM_init cRM_init 3 (none) :: bigW
abbrev cRM_thrown : ByteArray := prog_7_method_2_code
def yRM_thrown : MethodName := ⟨RRM, "thrown", "()I"⟩
abbrev wsRM_thrown : List Cond := .code yRM_thrown cRM_thrown 1 (some .int) :: bigW
abbrev cRM_port : ByteArray := prog_7_method_7_code
def yRM_port : MethodName := ⟨RRM, "port", "(IZ)Z"⟩
abbrev wsRM_port : List Cond := .code yRM_port cRM_port 5 (some .boolean) :: bigW
abbrev cRM_in : ByteArray := prog_7_method_3_code
def yRM_in : MethodName := ⟨RRM, "in", "(III)Z"⟩
abbrev wsRM_in : List Cond := .code yRM_in cRM_in 3 (some .boolean) :: bigW
abbrev cRM_remove : ByteArray := prog_7_method_6_code
def yRM_remove : MethodName := ⟨RRM, "remove", "(I)V"⟩
abbrev wsRM_remove : List Cond := .code yRM_remove cRM_remove 2 (none) :: bigW
abbrev cRM_settleAll : ByteArray := prog_7_method_5_code
def yRM_settleAll : MethodName := ⟨RRM, "settleAll", "(I)V"⟩
abbrev wsRM_settleAll : List Cond := .code yRM_settleAll cRM_settleAll 3 (none) :: bigW
abbrev cRM_greeting : ByteArray := prog_7_method_9_code
def yRM_greeting : MethodName := ⟨RRM, "greeting", "(IIZ)I"⟩
abbrev wsRM_greeting : List Cond := .code yRM_greeting cRM_greeting 7 (some .int) :: bigW
abbrev cRM_wrong : ByteArray := prog_7_method_8_code
def yRM_wrong : MethodName := ⟨RRM, "wrong", "(II)I"⟩
abbrev wsRM_wrong : List Cond := .code yRM_wrong cRM_wrong 3 (some .int) :: bigW
abbrev cRM_find : ByteArray := prog_7_method_4_code
def yRM_find : MethodName := ⟨RRM, "find", "(II)I"⟩
abbrev wsRM_find : List Cond := .code yRM_find cRM_find 5 (some .int) :: bigW
abbrev cRM_advert : ByteArray := prog_7_method_12_code
def yRM_advert : MethodName := ⟨RRM, "advert", "(IIIII)I"⟩
abbrev wsRM_advert : List Cond := .code yRM_advert cRM_advert 10 (some .int) :: bigW
abbrev cRM_thank : ByteArray := prog_7_method_10_code
def yRM_thank : MethodName := ⟨RRM, "thank", "(III)V"⟩
abbrev wsRM_thank : List Cond := .code yRM_thank cRM_thank 4 (none) :: bigW
abbrev cRM_learn : ByteArray := prog_7_method_11_code
def yRM_learn : MethodName := ⟨RRM, "learn", "(IIII)V"⟩
abbrev wsRM_learn : List Cond := .code yRM_learn cRM_learn 6 (none) :: bigW
abbrev cRM_thanks : ByteArray := prog_7_method_13_code
def yRM_thanks : MethodName := ⟨RRM, "thanks", "(IIII)Z"⟩
abbrev wsRM_thanks : List Cond := .code yRM_thanks cRM_thanks 7 (some .boolean) :: bigW
abbrev cRM_own : ByteArray := prog_7_method_14_code
def yRM_own : MethodName := ⟨RRM, "own", "(I)I"⟩
abbrev wsRM_own : List Cond := .code yRM_own cRM_own 2 (some .int) :: bigW
abbrev cRM_forget : ByteArray := prog_7_method_15_code
def yRM_forget : MethodName := ⟨RRM, "forget", "(I)Z"⟩
abbrev wsRM_forget : List Cond := .code yRM_forget cRM_forget 4 (some .boolean) :: bigW
abbrev cRM_run : ByteArray := prog_7_method_16_code
def yRM_run : MethodName := ⟨RRM, "run", "(I)I"⟩
abbrev wsRM_run : List Cond := .code yRM_run cRM_run 4 (some .int) :: bigW
abbrev cRM_next : ByteArray := prog_7_method_20_code
def yRM_next : MethodName := ⟨RRM, "next", "()Z"⟩
abbrev wsRM_next : List Cond := .code yRM_next cRM_next 4 (some .boolean) :: bigW
abbrev cRM_greet : ByteArray := prog_7_method_18_code
def yRM_greet : MethodName := ⟨RRM, "greet", "(I)V"⟩
abbrev wsRM_greet : List Cond := .code yRM_greet cRM_greet 3 (none) :: bigW
abbrev cRM_make : ByteArray := prog_7_method_17_code
def yRM_make : MethodName := ⟨RRM, "make", "(IIIIII)V"⟩
abbrev wsRM_make : List Cond := .code yRM_make cRM_make 7 (none) :: bigW
abbrev cRM_firstAdvert : ByteArray := prog_7_method_19_code
def yRM_firstAdvert : MethodName := ⟨RRM, "firstAdvert", "()I"⟩
abbrev wsRM_firstAdvert : List Cond := .code yRM_firstAdvert cRM_firstAdvert 6 (some .int) :: bigW
abbrev cRM_message : ByteArray := prog_7_method_21_code
def yRM_message : MethodName := ⟨RRM, "message", "(I)I"⟩
abbrev wsRM_message : List Cond := .code yRM_message cRM_message 2 (some .int) :: bigW
abbrev cRM_named : ByteArray := prog_7_method_22_code
def yRM_named : MethodName := ⟨RRM, "named", "()J"⟩
abbrev wsRM_named : List Cond := .code yRM_named cRM_named 1 (some .long) :: bigW
abbrev cRM_state : ByteArray := prog_7_method_23_code
def yRM_state : MethodName := ⟨RRM, "state", "(II)I"⟩
abbrev wsRM_state : List Cond := .code yRM_state cRM_state 4 (some .int) :: bigW
abbrev cRM_known : ByteArray := prog_7_method_24_code
def yRM_known : MethodName := ⟨RRM, "known", "(I)I"⟩
abbrev wsRM_known : List Cond := .code yRM_known cRM_known 2 (some .int) :: bigW
abbrev cRM_body : ByteArray := prog_7_method_25_code
def yRM_body : MethodName := ⟨RRM, "body", "(I)I"⟩
abbrev wsRM_body : List Cond := .code yRM_body cRM_body 2 (some .int) :: bigW
abbrev cRM_due : ByteArray := prog_7_method_26_code
def yRM_due : MethodName := ⟨RRM, "due", "(II)I"⟩
abbrev wsRM_due : List Cond := .code yRM_due cRM_due 6 (some .int) :: bigW
abbrev cRM_count : ByteArray := prog_7_method_27_code
def yRM_count : MethodName := ⟨RRM, "count", "(Z)I"⟩
abbrev wsRM_count : List Cond := .code yRM_count cRM_count 4 (some .int) :: bigW
abbrev cRM_time : ByteArray := prog_7_method_28_code
def yRM_time : MethodName := ⟨RRM, "time", "()I"⟩
abbrev wsRM_time : List Cond := .code yRM_time cRM_time 1 (some .int) :: bigW
abbrev vwCl : List vw_C := [(RAD, TAD, 2), (RMS, TMS, 2), (RNB, TNB, 7), (RTQ, TTQ, 6), (RDB, TDB, 9), (RRM, TRM, 16)]
end
section
/-! decode rows -/
theorem dDB_init_0 : decode cDB_init 0 = .ok (.aload_n 0, 1) := by decide +kernel
theorem dDB_init_1 : decode cDB_init 1 = .ok (.invokespecial 1, 3) := by decide +kernel
theorem dDB_init_4 : decode cDB_init 4 = .ok (.aload_n 0, 1) := by decide +kernel
theorem dDB_init_5 : decode cDB_init 5 = .ok (.iload_n 1, 1) := by decide +kernel
theorem dDB_init_6 : decode cDB_init 6 = .ok (.ifCond .lt 13, 3) := by decide +kernel
theorem dDB_init_9 : decode cDB_init 9 = .ok (.iload_n 1, 1) := by decide +kernel
theorem dDB_init_10 : decode cDB_init 10 = .ok (.bipush 64, 2) := by decide +kernel
theorem dDB_init_12 : decode cDB_init 12 = .ok (.if_icmp .ge 7, 3) := by decide +kernel
theorem dDB_init_15 : decode cDB_init 15 = .ok (.iload_n 1, 1) := by decide +kernel
theorem dDB_init_16 : decode cDB_init 16 = .ok (.goto 4, 3) := by decide +kernel
theorem dDB_init_19 : decode cDB_init 19 = .ok (.iconst 0, 1) := by decide +kernel
theorem dDB_init_20 : decode cDB_init 20 = .ok (.putfield 9, 3) := by decide +kernel
theorem dDB_init_23 : decode cDB_init 23 = .ok (.aload_n 0, 1) := by decide +kernel
theorem dDB_init_24 : decode cDB_init 24 = .ok (.new 13, 3) := by decide +kernel
theorem dDB_init_27 : decode cDB_init 27 = .ok (.dup, 1) := by decide +kernel
theorem dDB_init_28 : decode cDB_init 28 = .ok (.invokespecial 15, 3) := by decide +kernel
theorem dDB_init_31 : decode cDB_init 31 = .ok (.putfield 16, 3) := by decide +kernel
theorem dDB_init_34 : decode cDB_init 34 = .ok (.aload_n 0, 1) := by decide +kernel
theorem dDB_init_35 : decode cDB_init 35 = .ok (.new 20, 3) := by decide +kernel
theorem dDB_init_38 : decode cDB_init 38 = .ok (.dup, 1) := by decide +kernel
theorem dDB_init_39 : decode cDB_init 39 = .ok (.invokespecial 22, 3) := by decide +kernel
theorem dDB_init_42 : decode cDB_init 42 = .ok (.putfield 23, 3) := by decide +kernel
theorem dDB_init_45 : decode cDB_init 45 = .ok (.aload_n 0, 1) := by decide +kernel
theorem dDB_init_46 : decode cDB_init 46 = .ok (.new 27, 3) := by decide +kernel
theorem dDB_init_49 : decode cDB_init 49 = .ok (.dup, 1) := by decide +kernel
theorem dDB_init_50 : decode cDB_init 50 = .ok (.invokespecial 29, 3) := by decide +kernel
theorem dDB_init_53 : decode cDB_init 53 = .ok (.putfield 30, 3) := by decide +kernel
theorem dDB_init_56 : decode cDB_init 56 = .ok (.aload_n 0, 1) := by decide +kernel
theorem dDB_init_57 : decode cDB_init 57 = .ok (.new 34, 3) := by decide +kernel
theorem dDB_init_60 : decode cDB_init 60 = .ok (.dup, 1) := by decide +kernel
theorem dDB_init_61 : decode cDB_init 61 = .ok (.invokespecial 36, 3) := by decide +kernel
theorem dDB_init_64 : decode cDB_init 64 = .ok (.putfield 37, 3) := by decide +kernel
theorem dDB_init_67 : decode cDB_init 67 = .ok (.return_, 1) := by decide +kernel
theorem dAD_init_0 : decode cAD_init 0 = .ok (.aload_n 0, 1) := by decide +kernel
theorem dAD_init_1 : decode cAD_init 1 = .ok (.invokespecial 3, 3) := by decide +kernel
theorem dAD_init_4 : decode cAD_init 4 = .ok (.aload_n 0, 1) := by decide +kernel
theorem dAD_init_5 : decode cAD_init 5 = .ok (.bipush 64, 2) := by decide +kernel
theorem dAD_init_7 : decode cAD_init 7 = .ok (.newarray .int, 2) := by decide +kernel
theorem dAD_init_9 : decode cAD_init 9 = .ok (.putfield 9, 3) := by decide +kernel
theorem dAD_init_12 : decode cAD_init 12 = .ok (.aload_n 0, 1) := by decide +kernel
theorem dAD_init_13 : decode cAD_init 13 = .ok (.bipush 64, 2) := by decide +kernel
theorem dAD_init_15 : decode cAD_init 15 = .ok (.newarray .int, 2) := by decide +kernel
theorem dAD_init_17 : decode cAD_init 17 = .ok (.putfield 15, 3) := by decide +kernel
theorem dAD_init_20 : decode cAD_init 20 = .ok (.return_, 1) := by decide +kernel
theorem dNB_init_0 : decode cNB_init 0 = .ok (.aload_n 0, 1) := by decide +kernel
theorem dNB_init_1 : decode cNB_init 1 = .ok (.invokespecial 3, 3) := by decide +kernel
theorem dNB_init_4 : decode cNB_init 4 = .ok (.aload_n 0, 1) := by decide +kernel
theorem dNB_init_5 : decode cNB_init 5 = .ok (.bipush 16, 2) := by decide +kernel
theorem dNB_init_7 : decode cNB_init 7 = .ok (.newarray .int, 2) := by decide +kernel
theorem dNB_init_9 : decode cNB_init 9 = .ok (.putfield 9, 3) := by decide +kernel
theorem dNB_init_12 : decode cNB_init 12 = .ok (.aload_n 0, 1) := by decide +kernel
theorem dNB_init_13 : decode cNB_init 13 = .ok (.bipush 16, 2) := by decide +kernel
theorem dNB_init_15 : decode cNB_init 15 = .ok (.newarray .int, 2) := by decide +kernel
theorem dNB_init_17 : decode cNB_init 17 = .ok (.putfield 15, 3) := by decide +kernel
theorem dNB_init_20 : decode cNB_init 20 = .ok (.aload_n 0, 1) := by decide +kernel
theorem dNB_init_21 : decode cNB_init 21 = .ok (.bipush 16, 2) := by decide +kernel
theorem dNB_init_23 : decode cNB_init 23 = .ok (.newarray .int, 2) := by decide +kernel
theorem dNB_init_25 : decode cNB_init 25 = .ok (.putfield 18, 3) := by decide +kernel
theorem dNB_init_28 : decode cNB_init 28 = .ok (.aload_n 0, 1) := by decide +kernel
theorem dNB_init_29 : decode cNB_init 29 = .ok (.bipush 16, 2) := by decide +kernel
theorem dNB_init_31 : decode cNB_init 31 = .ok (.newarray .int, 2) := by decide +kernel
theorem dNB_init_33 : decode cNB_init 33 = .ok (.putfield 21, 3) := by decide +kernel
theorem dNB_init_36 : decode cNB_init 36 = .ok (.aload_n 0, 1) := by decide +kernel
theorem dNB_init_37 : decode cNB_init 37 = .ok (.bipush 16, 2) := by decide +kernel
theorem dNB_init_39 : decode cNB_init 39 = .ok (.newarray .long, 2) := by decide +kernel
theorem dNB_init_41 : decode cNB_init 41 = .ok (.putfield 24, 3) := by decide +kernel
theorem dNB_init_44 : decode cNB_init 44 = .ok (.aload_n 0, 1) := by decide +kernel
theorem dNB_init_45 : decode cNB_init 45 = .ok (.bipush 16, 2) := by decide +kernel
theorem dNB_init_47 : decode cNB_init 47 = .ok (.newarray .long, 2) := by decide +kernel
theorem dNB_init_49 : decode cNB_init 49 = .ok (.putfield 28, 3) := by decide +kernel
theorem dNB_init_52 : decode cNB_init 52 = .ok (.aload_n 0, 1) := by decide +kernel
theorem dNB_init_53 : decode cNB_init 53 = .ok (.sipush 1024, 3) := by decide +kernel
theorem dNB_init_56 : decode cNB_init 56 = .ok (.newarray .int, 2) := by decide +kernel
theorem dNB_init_58 : decode cNB_init 58 = .ok (.putfield 31, 3) := by decide +kernel
theorem dNB_init_61 : decode cNB_init 61 = .ok (.return_, 1) := by decide +kernel
theorem dTQ_init_0 : decode cTQ_init 0 = .ok (.aload_n 0, 1) := by decide +kernel
theorem dTQ_init_1 : decode cTQ_init 1 = .ok (.invokespecial 3, 3) := by decide +kernel
theorem dTQ_init_4 : decode cTQ_init 4 = .ok (.aload_n 0, 1) := by decide +kernel
theorem dTQ_init_5 : decode cTQ_init 5 = .ok (.bipush 64, 2) := by decide +kernel
theorem dTQ_init_7 : decode cTQ_init 7 = .ok (.newarray .int, 2) := by decide +kernel
theorem dTQ_init_9 : decode cTQ_init 9 = .ok (.putfield 9, 3) := by decide +kernel
theorem dTQ_init_12 : decode cTQ_init 12 = .ok (.aload_n 0, 1) := by decide +kernel
theorem dTQ_init_13 : decode cTQ_init 13 = .ok (.bipush 64, 2) := by decide +kernel
theorem dTQ_init_15 : decode cTQ_init 15 = .ok (.newarray .int, 2) := by decide +kernel
theorem dTQ_init_17 : decode cTQ_init 17 = .ok (.putfield 15, 3) := by decide +kernel
theorem dTQ_init_20 : decode cTQ_init 20 = .ok (.aload_n 0, 1) := by decide +kernel
theorem dTQ_init_21 : decode cTQ_init 21 = .ok (.bipush 64, 2) := by decide +kernel
theorem dTQ_init_23 : decode cTQ_init 23 = .ok (.newarray .int, 2) := by decide +kernel
theorem dTQ_init_25 : decode cTQ_init 25 = .ok (.putfield 18, 3) := by decide +kernel
theorem dTQ_init_28 : decode cTQ_init 28 = .ok (.aload_n 0, 1) := by decide +kernel
theorem dTQ_init_29 : decode cTQ_init 29 = .ok (.bipush 64, 2) := by decide +kernel
theorem dTQ_init_31 : decode cTQ_init 31 = .ok (.newarray .int, 2) := by decide +kernel
theorem dTQ_init_33 : decode cTQ_init 33 = .ok (.putfield 21, 3) := by decide +kernel
theorem dTQ_init_36 : decode cTQ_init 36 = .ok (.return_, 1) := by decide +kernel
theorem dMS_init_0 : decode cMS_init 0 = .ok (.aload_n 0, 1) := by decide +kernel
theorem dMS_init_1 : decode cMS_init 1 = .ok (.invokespecial 3, 3) := by decide +kernel
theorem dMS_init_4 : decode cMS_init 4 = .ok (.aload_n 0, 1) := by decide +kernel
theorem dMS_init_5 : decode cMS_init 5 = .ok (.bipush 6, 2) := by decide +kernel
theorem dMS_init_7 : decode cMS_init 7 = .ok (.newarray .int, 2) := by decide +kernel
theorem dMS_init_9 : decode cMS_init 9 = .ok (.putfield 11, 3) := by decide +kernel
theorem dMS_init_12 : decode cMS_init 12 = .ok (.return_, 1) := by decide +kernel
theorem dDB_own_0 : decode cDB_own 0 = .ok (.aload_n 0, 1) := by decide +kernel
theorem dDB_own_1 : decode cDB_own 1 = .ok (.dup, 1) := by decide +kernel
theorem dDB_own_2 : decode cDB_own 2 = .ok (.getfield 104, 3) := by decide +kernel
theorem dDB_own_5 : decode cDB_own 5 = .ok (.iconst 1, 1) := by decide +kernel
theorem dDB_own_6 : decode cDB_own 6 = .ok (.iadd, 1) := by decide +kernel
theorem dDB_own_7 : decode cDB_own 7 = .ok (.putfield 104, 3) := by decide +kernel
theorem dDB_own_10 : decode cDB_own 10 = .ok (.aload_n 0, 1) := by decide +kernel
theorem dDB_own_11 : decode cDB_own 11 = .ok (.getfield 16, 3) := by decide +kernel
theorem dDB_own_14 : decode cDB_own 14 = .ok (.aload_n 0, 1) := by decide +kernel
theorem dDB_own_15 : decode cDB_own 15 = .ok (.getfield 9, 3) := by decide +kernel
theorem dDB_own_18 : decode cDB_own 18 = .ok (.aload_n 0, 1) := by decide +kernel
theorem dDB_own_19 : decode cDB_own 19 = .ok (.getfield 104, 3) := by decide +kernel
theorem dDB_own_22 : decode cDB_own 22 = .ok (.iload_n 1, 1) := by decide +kernel
theorem dDB_own_23 : decode cDB_own 23 = .ok (.invokevirtual 107, 3) := by decide +kernel
theorem dDB_own_26 : decode cDB_own 26 = .ok (.aload_n 0, 1) := by decide +kernel
theorem dDB_own_27 : decode cDB_own 27 = .ok (.getfield 23, 3) := by decide +kernel
theorem dDB_own_30 : decode cDB_own 30 = .ok (.iconst (-1), 1) := by decide +kernel
theorem dDB_own_31 : decode cDB_own 31 = .ok (.aload_n 0, 1) := by decide +kernel
theorem dDB_own_32 : decode cDB_own 32 = .ok (.getfield 9, 3) := by decide +kernel
theorem dDB_own_35 : decode cDB_own 35 = .ok (.invokevirtual 111, 3) := by decide +kernel
theorem dDB_own_38 : decode cDB_own 38 = .ok (.aload_n 0, 1) := by decide +kernel
theorem dDB_own_39 : decode cDB_own 39 = .ok (.getfield 104, 3) := by decide +kernel
theorem dDB_own_42 : decode cDB_own 42 = .ok (.ireturn, 1) := by decide +kernel
theorem dAD_put_0 : decode cAD_put 0 = .ok (.aload_n 0, 1) := by decide +kernel
theorem dAD_put_1 : decode cAD_put 1 = .ok (.getfield 9, 3) := by decide +kernel
theorem dAD_put_4 : decode cAD_put 4 = .ok (.iload_n 1, 1) := by decide +kernel
theorem dAD_put_5 : decode cAD_put 5 = .ok (.iload_n 2, 1) := by decide +kernel
theorem dAD_put_6 : decode cAD_put 6 = .ok (.iastore, 1) := by decide +kernel
theorem dAD_put_7 : decode cAD_put 7 = .ok (.aload_n 0, 1) := by decide +kernel
theorem dAD_put_8 : decode cAD_put 8 = .ok (.getfield 15, 3) := by decide +kernel
theorem dAD_put_11 : decode cAD_put 11 = .ok (.iload_n 1, 1) := by decide +kernel
theorem dAD_put_12 : decode cAD_put 12 = .ok (.iload_n 3, 1) := by decide +kernel
theorem dAD_put_13 : decode cAD_put 13 = .ok (.iastore, 1) := by decide +kernel
theorem dAD_put_14 : decode cAD_put 14 = .ok (.return_, 1) := by decide +kernel
theorem dNB_oweToFriendsBut_0 : decode cNB_oweToFriendsBut 0 = .ok (.iconst 0, 1) := by decide +kernel
theorem dNB_oweToFriendsBut_1 : decode cNB_oweToFriendsBut 1 = .ok (.istore_n 3, 1) := by decide +kernel
theorem dNB_oweToFriendsBut_2 : decode cNB_oweToFriendsBut 2 = .ok (.iload_n 3, 1) := by decide +kernel
theorem dNB_oweToFriendsBut_3 : decode cNB_oweToFriendsBut 3 = .ok (.bipush 16, 2) := by decide +kernel
theorem dNB_oweToFriendsBut_5 : decode cNB_oweToFriendsBut 5 = .ok (.if_icmp .ge 30, 3) := by decide +kernel
theorem dNB_oweToFriendsBut_8 : decode cNB_oweToFriendsBut 8 = .ok (.aload_n 0, 1) := by decide +kernel
theorem dNB_oweToFriendsBut_9 : decode cNB_oweToFriendsBut 9 = .ok (.getfield 9, 3) := by decide +kernel
theorem dNB_oweToFriendsBut_12 : decode cNB_oweToFriendsBut 12 = .ok (.iload_n 3, 1) := by decide +kernel
theorem dNB_oweToFriendsBut_13 : decode cNB_oweToFriendsBut 13 = .ok (.iaload, 1) := by decide +kernel
theorem dNB_oweToFriendsBut_14 : decode cNB_oweToFriendsBut 14 = .ok (.iconst 2, 1) := by decide +kernel
theorem dNB_oweToFriendsBut_15 : decode cNB_oweToFriendsBut 15 = .ok (.if_icmp .ne 14, 3) := by decide +kernel
theorem dNB_oweToFriendsBut_18 : decode cNB_oweToFriendsBut 18 = .ok (.iload_n 3, 1) := by decide +kernel
theorem dNB_oweToFriendsBut_19 : decode cNB_oweToFriendsBut 19 = .ok (.iload_n 1, 1) := by decide +kernel
theorem dNB_oweToFriendsBut_20 : decode cNB_oweToFriendsBut 20 = .ok (.if_icmp .eq 9, 3) := by decide +kernel
theorem dNB_oweToFriendsBut_23 : decode cNB_oweToFriendsBut 23 = .ok (.aload_n 0, 1) := by decide +kernel
theorem dNB_oweToFriendsBut_24 : decode cNB_oweToFriendsBut 24 = .ok (.iload_n 3, 1) := by decide +kernel
theorem dNB_oweToFriendsBut_25 : decode cNB_oweToFriendsBut 25 = .ok (.iload_n 2, 1) := by decide +kernel
theorem dNB_oweToFriendsBut_26 : decode cNB_oweToFriendsBut 26 = .ok (.invokevirtual 49, 3) := by decide +kernel
theorem dNB_oweToFriendsBut_29 : decode cNB_oweToFriendsBut 29 = .ok (.iinc 3 1, 3) := by decide +kernel
theorem dNB_oweToFriendsBut_32 : decode cNB_oweToFriendsBut 32 = .ok (.goto (-30), 3) := by decide +kernel
theorem dNB_oweToFriendsBut_35 : decode cNB_oweToFriendsBut 35 = .ok (.return_, 1) := by decide +kernel
theorem dNB_owe_0 : decode cNB_owe 0 = .ok (.aload_n 0, 1) := by decide +kernel
theorem dNB_owe_1 : decode cNB_owe 1 = .ok (.getfield 24, 3) := by decide +kernel
theorem dNB_owe_4 : decode cNB_owe 4 = .ok (.iload_n 1, 1) := by decide +kernel
theorem dNB_owe_5 : decode cNB_owe 5 = .ok (.dup2, 1) := by decide +kernel
theorem dNB_owe_6 : decode cNB_owe 6 = .ok (.laload, 1) := by decide +kernel
theorem dNB_owe_7 : decode cNB_owe 7 = .ok (.lconst 1, 1) := by decide +kernel
theorem dNB_owe_8 : decode cNB_owe 8 = .ok (.iload_n 2, 1) := by decide +kernel
theorem dNB_owe_9 : decode cNB_owe 9 = .ok (.lshl, 1) := by decide +kernel
theorem dNB_owe_10 : decode cNB_owe 10 = .ok (.lor, 1) := by decide +kernel
theorem dNB_owe_11 : decode cNB_owe 11 = .ok (.lastore, 1) := by decide +kernel
theorem dNB_owe_12 : decode cNB_owe 12 = .ok (.aload_n 0, 1) := by decide +kernel
theorem dNB_owe_13 : decode cNB_owe 13 = .ok (.getfield 28, 3) := by decide +kernel
theorem dNB_owe_16 : decode cNB_owe 16 = .ok (.iload_n 1, 1) := by decide +kernel
theorem dNB_owe_17 : decode cNB_owe 17 = .ok (.dup2, 1) := by decide +kernel
theorem dNB_owe_18 : decode cNB_owe 18 = .ok (.laload, 1) := by decide +kernel
theorem dNB_owe_19 : decode cNB_owe 19 = .ok (.lconst 1, 1) := by decide +kernel
theorem dNB_owe_20 : decode cNB_owe 20 = .ok (.iload_n 2, 1) := by decide +kernel
theorem dNB_owe_21 : decode cNB_owe 21 = .ok (.lshl, 1) := by decide +kernel
theorem dNB_owe_22 : decode cNB_owe 22 = .ok (.lor, 1) := by decide +kernel
theorem dNB_owe_23 : decode cNB_owe 23 = .ok (.lastore, 1) := by decide +kernel
theorem dNB_owe_24 : decode cNB_owe 24 = .ok (.return_, 1) := by decide +kernel
theorem dDB_next_0 : decode cDB_next 0 = .ok (.aload_n 0, 1) := by decide +kernel
theorem dDB_next_1 : decode cDB_next 1 = .ok (.invokevirtual 143, 3) := by decide +kernel
theorem dDB_next_4 : decode cDB_next 4 = .ok (.ifCond .ne 17, 3) := by decide +kernel
theorem dDB_next_7 : decode cDB_next 7 = .ok (.aload_n 0, 1) := by decide +kernel
theorem dDB_next_8 : decode cDB_next 8 = .ok (.invokevirtual 147, 3) := by decide +kernel
theorem dDB_next_11 : decode cDB_next 11 = .ok (.ifCond .ne 10, 3) := by decide +kernel
theorem dDB_next_14 : decode cDB_next 14 = .ok (.aload_n 0, 1) := by decide +kernel
theorem dDB_next_15 : decode cDB_next 15 = .ok (.invokevirtual 150, 3) := by decide +kernel
theorem dDB_next_18 : decode cDB_next 18 = .ok (.ifCond .eq 7, 3) := by decide +kernel
theorem dDB_next_21 : decode cDB_next 21 = .ok (.iconst 1, 1) := by decide +kernel
theorem dDB_next_22 : decode cDB_next 22 = .ok (.goto 4, 3) := by decide +kernel
theorem dDB_next_25 : decode cDB_next 25 = .ok (.iconst 0, 1) := by decide +kernel
theorem dDB_next_26 : decode cDB_next 26 = .ok (.ireturn, 1) := by decide +kernel
theorem dDB_makeGreeting_0 : decode cDB_makeGreeting 0 = .ok (.iconst 0, 1) := by decide +kernel
theorem dDB_makeGreeting_1 : decode cDB_makeGreeting 1 = .ok (.istore_n 1, 1) := by decide +kernel
theorem dDB_makeGreeting_2 : decode cDB_makeGreeting 2 = .ok (.iload_n 1, 1) := by decide +kernel
theorem dDB_makeGreeting_3 : decode cDB_makeGreeting 3 = .ok (.bipush 8, 2) := by decide +kernel
theorem dDB_makeGreeting_5 : decode cDB_makeGreeting 5 = .ok (.if_icmp .ge 52, 3) := by decide +kernel
theorem dDB_makeGreeting_8 : decode cDB_makeGreeting 8 = .ok (.iconst 1, 1) := by decide +kernel
theorem dDB_makeGreeting_9 : decode cDB_makeGreeting 9 = .ok (.iload_n 1, 1) := by decide +kernel
theorem dDB_makeGreeting_10 : decode cDB_makeGreeting 10 = .ok (.ishl, 1) := by decide +kernel
theorem dDB_makeGreeting_11 : decode cDB_makeGreeting 11 = .ok (.istore_n 2, 1) := by decide +kernel
theorem dDB_makeGreeting_12 : decode cDB_makeGreeting 12 = .ok (.aload_n 0, 1) := by decide +kernel
theorem dDB_makeGreeting_13 : decode cDB_makeGreeting 13 = .ok (.getfield 52, 3) := by decide +kernel
theorem dDB_makeGreeting_16 : decode cDB_makeGreeting 16 = .ok (.iload_n 2, 1) := by decide +kernel
theorem dDB_makeGreeting_17 : decode cDB_makeGreeting 17 = .ok (.iand, 1) := by decide +kernel
theorem dDB_makeGreeting_18 : decode cDB_makeGreeting 18 = .ok (.ifCond .eq 33, 3) := by decide +kernel
theorem dDB_makeGreeting_21 : decode cDB_makeGreeting 21 = .ok (.aload_n 0, 1) := by decide +kernel
theorem dDB_makeGreeting_22 : decode cDB_makeGreeting 22 = .ok (.dup, 1) := by decide +kernel
theorem dDB_makeGreeting_23 : decode cDB_makeGreeting 23 = .ok (.getfield 52, 3) := by decide +kernel
theorem dDB_makeGreeting_26 : decode cDB_makeGreeting 26 = .ok (.iload_n 2, 1) := by decide +kernel
theorem dDB_makeGreeting_27 : decode cDB_makeGreeting 27 = .ok (.iconst (-1), 1) := by decide +kernel
theorem dDB_makeGreeting_28 : decode cDB_makeGreeting 28 = .ok (.ixor, 1) := by decide +kernel
theorem dDB_makeGreeting_29 : decode cDB_makeGreeting 29 = .ok (.iand, 1) := by decide +kernel
theorem dDB_makeGreeting_30 : decode cDB_makeGreeting 30 = .ok (.putfield 52, 3) := by decide +kernel
theorem dDB_makeGreeting_33 : decode cDB_makeGreeting 33 = .ok (.aload_n 0, 1) := by decide +kernel
theorem dDB_makeGreeting_34 : decode cDB_makeGreeting 34 = .ok (.getfield 37, 3) := by decide +kernel
theorem dDB_makeGreeting_37 : decode cDB_makeGreeting 37 = .ok (.iload_n 1, 1) := by decide +kernel
theorem dDB_makeGreeting_38 : decode cDB_makeGreeting 38 = .ok (.aload_n 0, 1) := by decide +kernel
theorem dDB_makeGreeting_39 : decode cDB_makeGreeting 39 = .ok (.getfield 23, 3) := by decide +kernel
theorem dDB_makeGreeting_42 : decode cDB_makeGreeting 42 = .ok (.iload_n 1, 1) := by decide +kernel
theorem dDB_makeGreeting_43 : decode cDB_makeGreeting 43 = .ok (.invokevirtual 198, 3) := by decide +kernel
theorem dDB_makeGreeting_46 : decode cDB_makeGreeting 46 = .ok (.invokevirtual 202, 3) := by decide +kernel
theorem dDB_makeGreeting_49 : decode cDB_makeGreeting 49 = .ok (.iconst 1, 1) := by decide +kernel
theorem dDB_makeGreeting_50 : decode cDB_makeGreeting 50 = .ok (.ireturn, 1) := by decide +kernel
theorem dDB_makeGreeting_51 : decode cDB_makeGreeting 51 = .ok (.iinc 1 1, 3) := by decide +kernel
theorem dDB_makeGreeting_54 : decode cDB_makeGreeting 54 = .ok (.goto (-52), 3) := by decide +kernel
theorem dDB_makeGreeting_57 : decode cDB_makeGreeting 57 = .ok (.iconst 0, 1) := by decide +kernel
theorem dDB_makeGreeting_58 : decode cDB_makeGreeting 58 = .ok (.ireturn, 1) := by decide +kernel
theorem dNB_heardOn_0 : decode cNB_heardOn 0 = .ok (.lconst 0, 1) := by decide +kernel
theorem dNB_heardOn_1 : decode cNB_heardOn 1 = .ok (.lstore_n 2, 1) := by decide +kernel
theorem dNB_heardOn_2 : decode cNB_heardOn 2 = .ok (.iconst 0, 1) := by decide +kernel
theorem dNB_heardOn_3 : decode cNB_heardOn 3 = .ok (.istore 4, 2) := by decide +kernel
theorem dNB_heardOn_5 : decode cNB_heardOn 5 = .ok (.iload 4, 2) := by decide +kernel
theorem dNB_heardOn_7 : decode cNB_heardOn 7 = .ok (.bipush 16, 2) := by decide +kernel
theorem dNB_heardOn_9 : decode cNB_heardOn 9 = .ok (.if_icmp .ge 42, 3) := by decide +kernel
theorem dNB_heardOn_12 : decode cNB_heardOn 12 = .ok (.aload_n 0, 1) := by decide +kernel
theorem dNB_heardOn_13 : decode cNB_heardOn 13 = .ok (.getfield 9, 3) := by decide +kernel
theorem dNB_heardOn_16 : decode cNB_heardOn 16 = .ok (.iload 4, 2) := by decide +kernel
theorem dNB_heardOn_18 : decode cNB_heardOn 18 = .ok (.iaload, 1) := by decide +kernel
theorem dNB_heardOn_19 : decode cNB_heardOn 19 = .ok (.ifCond .eq 26, 3) := by decide +kernel
theorem dNB_heardOn_22 : decode cNB_heardOn 22 = .ok (.aload_n 0, 1) := by decide +kernel
theorem dNB_heardOn_23 : decode cNB_heardOn 23 = .ok (.getfield 15, 3) := by decide +kernel
theorem dNB_heardOn_26 : decode cNB_heardOn 26 = .ok (.iload 4, 2) := by decide +kernel
theorem dNB_heardOn_28 : decode cNB_heardOn 28 = .ok (.iaload, 1) := by decide +kernel
theorem dNB_heardOn_29 : decode cNB_heardOn 29 = .ok (.iload_n 1, 1) := by decide +kernel
theorem dNB_heardOn_30 : decode cNB_heardOn 30 = .ok (.if_icmp .ne 15, 3) := by decide +kernel
theorem dNB_heardOn_33 : decode cNB_heardOn 33 = .ok (.lload_n 2, 1) := by decide +kernel
theorem dNB_heardOn_34 : decode cNB_heardOn 34 = .ok (.lconst 1, 1) := by decide +kernel
theorem dNB_heardOn_35 : decode cNB_heardOn 35 = .ok (.aload_n 0, 1) := by decide +kernel
theorem dNB_heardOn_36 : decode cNB_heardOn 36 = .ok (.getfield 18, 3) := by decide +kernel
theorem dNB_heardOn_39 : decode cNB_heardOn 39 = .ok (.iload 4, 2) := by decide +kernel
theorem dNB_heardOn_41 : decode cNB_heardOn 41 = .ok (.iaload, 1) := by decide +kernel
theorem dNB_heardOn_42 : decode cNB_heardOn 42 = .ok (.lshl, 1) := by decide +kernel
theorem dNB_heardOn_43 : decode cNB_heardOn 43 = .ok (.lor, 1) := by decide +kernel
theorem dNB_heardOn_44 : decode cNB_heardOn 44 = .ok (.lstore_n 2, 1) := by decide +kernel
theorem dNB_heardOn_45 : decode cNB_heardOn 45 = .ok (.iinc 4 1, 3) := by decide +kernel
theorem dNB_heardOn_48 : decode cNB_heardOn 48 = .ok (.goto (-43), 3) := by decide +kernel
theorem dNB_heardOn_51 : decode cNB_heardOn 51 = .ok (.lload_n 2, 1) := by decide +kernel
theorem dNB_heardOn_52 : decode cNB_heardOn 52 = .ok (.lreturn, 1) := by decide +kernel
theorem dMS_makeGreeting_0 : decode cMS_makeGreeting 0 = .ok (.aload_n 0, 1) := by decide +kernel
theorem dMS_makeGreeting_1 : decode cMS_makeGreeting 1 = .ok (.iconst 1, 1) := by decide +kernel
theorem dMS_makeGreeting_2 : decode cMS_makeGreeting 2 = .ok (.iload_n 1, 1) := by decide +kernel
theorem dMS_makeGreeting_3 : decode cMS_makeGreeting 3 = .ok (.iconst (-1), 1) := by decide +kernel
theorem dMS_makeGreeting_4 : decode cMS_makeGreeting 4 = .ok (.invokevirtual 19, 3) := by decide +kernel
theorem dMS_makeGreeting_7 : decode cMS_makeGreeting 7 = .ok (.aload_n 0, 1) := by decide +kernel
theorem dMS_makeGreeting_8 : decode cMS_makeGreeting 8 = .ok (.iconst (-1), 1) := by decide +kernel
theorem dMS_makeGreeting_9 : decode cMS_makeGreeting 9 = .ok (.iconst 0, 1) := by decide +kernel
theorem dMS_makeGreeting_10 : decode cMS_makeGreeting 10 = .ok (.iconst 0, 1) := by decide +kernel
theorem dMS_makeGreeting_11 : decode cMS_makeGreeting 11 = .ok (.invokevirtual 23, 3) := by decide +kernel
theorem dMS_makeGreeting_14 : decode cMS_makeGreeting 14 = .ok (.aload_n 0, 1) := by decide +kernel
theorem dMS_makeGreeting_15 : decode cMS_makeGreeting 15 = .ok (.lload_n 2, 1) := by decide +kernel
theorem dMS_makeGreeting_16 : decode cMS_makeGreeting 16 = .ok (.putfield 15, 3) := by decide +kernel
theorem dMS_makeGreeting_19 : decode cMS_makeGreeting 19 = .ok (.return_, 1) := by decide +kernel
theorem dMS_address_0 : decode cMS_address 0 = .ok (.aload_n 0, 1) := by decide +kernel
theorem dMS_address_1 : decode cMS_address 1 = .ok (.getfield 11, 3) := by decide +kernel
theorem dMS_address_4 : decode cMS_address 4 = .ok (.iconst 0, 1) := by decide +kernel
theorem dMS_address_5 : decode cMS_address 5 = .ok (.iload_n 1, 1) := by decide +kernel
theorem dMS_address_6 : decode cMS_address 6 = .ok (.iastore, 1) := by decide +kernel
theorem dMS_address_7 : decode cMS_address 7 = .ok (.aload_n 0, 1) := by decide +kernel
theorem dMS_address_8 : decode cMS_address 8 = .ok (.getfield 11, 3) := by decide +kernel
theorem dMS_address_11 : decode cMS_address 11 = .ok (.iconst 1, 1) := by decide +kernel
theorem dMS_address_12 : decode cMS_address 12 = .ok (.iload_n 2, 1) := by decide +kernel
theorem dMS_address_13 : decode cMS_address 13 = .ok (.iastore, 1) := by decide +kernel
theorem dMS_address_14 : decode cMS_address 14 = .ok (.aload_n 0, 1) := by decide +kernel
theorem dMS_address_15 : decode cMS_address 15 = .ok (.getfield 11, 3) := by decide +kernel
theorem dMS_address_18 : decode cMS_address 18 = .ok (.iconst 2, 1) := by decide +kernel
theorem dMS_address_19 : decode cMS_address 19 = .ok (.iload_n 3, 1) := by decide +kernel
theorem dMS_address_20 : decode cMS_address 20 = .ok (.iastore, 1) := by decide +kernel
theorem dMS_address_21 : decode cMS_address 21 = .ok (.return_, 1) := by decide +kernel
theorem dMS_fill_0 : decode cMS_fill 0 = .ok (.aload_n 0, 1) := by decide +kernel
theorem dMS_fill_1 : decode cMS_fill 1 = .ok (.getfield 11, 3) := by decide +kernel
theorem dMS_fill_4 : decode cMS_fill 4 = .ok (.iconst 3, 1) := by decide +kernel
theorem dMS_fill_5 : decode cMS_fill 5 = .ok (.iload_n 1, 1) := by decide +kernel
theorem dMS_fill_6 : decode cMS_fill 6 = .ok (.iastore, 1) := by decide +kernel
theorem dMS_fill_7 : decode cMS_fill 7 = .ok (.aload_n 0, 1) := by decide +kernel
theorem dMS_fill_8 : decode cMS_fill 8 = .ok (.getfield 11, 3) := by decide +kernel
theorem dMS_fill_11 : decode cMS_fill 11 = .ok (.iconst 4, 1) := by decide +kernel
theorem dMS_fill_12 : decode cMS_fill 12 = .ok (.iload_n 2, 1) := by decide +kernel
theorem dMS_fill_13 : decode cMS_fill 13 = .ok (.iastore, 1) := by decide +kernel
theorem dMS_fill_14 : decode cMS_fill 14 = .ok (.aload_n 0, 1) := by decide +kernel
theorem dMS_fill_15 : decode cMS_fill 15 = .ok (.getfield 11, 3) := by decide +kernel
theorem dMS_fill_18 : decode cMS_fill 18 = .ok (.iconst 5, 1) := by decide +kernel
theorem dMS_fill_19 : decode cMS_fill 19 = .ok (.iload_n 3, 1) := by decide +kernel
theorem dMS_fill_20 : decode cMS_fill 20 = .ok (.iastore, 1) := by decide +kernel
theorem dMS_fill_21 : decode cMS_fill 21 = .ok (.return_, 1) := by decide +kernel
theorem dDB_makeThanks_0 : decode cDB_makeThanks 0 = .ok (.aload_n 0, 1) := by decide +kernel
theorem dDB_makeThanks_1 : decode cDB_makeThanks 1 = .ok (.getfield 30, 3) := by decide +kernel
theorem dDB_makeThanks_4 : decode cDB_makeThanks 4 = .ok (.invokevirtual 205, 3) := by decide +kernel
theorem dDB_makeThanks_7 : decode cDB_makeThanks 7 = .ok (.ifCond .eq 5, 3) := by decide +kernel
theorem dDB_makeThanks_10 : decode cDB_makeThanks 10 = .ok (.iconst 0, 1) := by decide +kernel
theorem dDB_makeThanks_11 : decode cDB_makeThanks 11 = .ok (.ireturn, 1) := by decide +kernel
theorem dDB_makeThanks_12 : decode cDB_makeThanks 12 = .ok (.aload_n 0, 1) := by decide +kernel
theorem dDB_makeThanks_13 : decode cDB_makeThanks 13 = .ok (.getfield 30, 3) := by decide +kernel
theorem dDB_makeThanks_16 : decode cDB_makeThanks 16 = .ok (.aload_n 0, 1) := by decide +kernel
theorem dDB_makeThanks_17 : decode cDB_makeThanks 17 = .ok (.getfield 37, 3) := by decide +kernel
theorem dDB_makeThanks_20 : decode cDB_makeThanks 20 = .ok (.invokevirtual 208, 3) := by decide +kernel
theorem dDB_makeThanks_23 : decode cDB_makeThanks 23 = .ok (.iconst 1, 1) := by decide +kernel
theorem dDB_makeThanks_24 : decode cDB_makeThanks 24 = .ok (.ireturn, 1) := by decide +kernel
theorem dTQ_isEmpty_0 : decode cTQ_isEmpty 0 = .ok (.aload_n 0, 1) := by decide +kernel
theorem dTQ_isEmpty_1 : decode cTQ_isEmpty 1 = .ok (.getfield 24, 3) := by decide +kernel
theorem dTQ_isEmpty_4 : decode cTQ_isEmpty 4 = .ok (.ifCond .ne 7, 3) := by decide +kernel
theorem dTQ_isEmpty_7 : decode cTQ_isEmpty 7 = .ok (.iconst 1, 1) := by decide +kernel
theorem dTQ_isEmpty_8 : decode cTQ_isEmpty 8 = .ok (.goto 4, 3) := by decide +kernel
theorem dTQ_isEmpty_11 : decode cTQ_isEmpty 11 = .ok (.iconst 0, 1) := by decide +kernel
theorem dTQ_isEmpty_12 : decode cTQ_isEmpty 12 = .ok (.ireturn, 1) := by decide +kernel
theorem dTQ_moveFirstTo_0 : decode cTQ_moveFirstTo 0 = .ok (.aload_n 1, 1) := by decide +kernel
theorem dTQ_moveFirstTo_1 : decode cTQ_moveFirstTo 1 = .ok (.aload_n 0, 1) := by decide +kernel
theorem dTQ_moveFirstTo_2 : decode cTQ_moveFirstTo 2 = .ok (.getfield 9, 3) := by decide +kernel
theorem dTQ_moveFirstTo_5 : decode cTQ_moveFirstTo 5 = .ok (.aload_n 0, 1) := by decide +kernel
theorem dTQ_moveFirstTo_6 : decode cTQ_moveFirstTo 6 = .ok (.getfield 28, 3) := by decide +kernel
theorem dTQ_moveFirstTo_9 : decode cTQ_moveFirstTo 9 = .ok (.iaload, 1) := by decide +kernel
theorem dTQ_moveFirstTo_10 : decode cTQ_moveFirstTo 10 = .ok (.aload_n 0, 1) := by decide +kernel
theorem dTQ_moveFirstTo_11 : decode cTQ_moveFirstTo 11 = .ok (.getfield 15, 3) := by decide +kernel
theorem dTQ_moveFirstTo_14 : decode cTQ_moveFirstTo 14 = .ok (.aload_n 0, 1) := by decide +kernel
theorem dTQ_moveFirstTo_15 : decode cTQ_moveFirstTo 15 = .ok (.getfield 28, 3) := by decide +kernel
theorem dTQ_moveFirstTo_18 : decode cTQ_moveFirstTo 18 = .ok (.iaload, 1) := by decide +kernel
theorem dTQ_moveFirstTo_19 : decode cTQ_moveFirstTo 19 = .ok (.aload_n 0, 1) := by decide +kernel
theorem dTQ_moveFirstTo_20 : decode cTQ_moveFirstTo 20 = .ok (.getfield 18, 3) := by decide +kernel
theorem dTQ_moveFirstTo_23 : decode cTQ_moveFirstTo 23 = .ok (.aload_n 0, 1) := by decide +kernel
theorem dTQ_moveFirstTo_24 : decode cTQ_moveFirstTo 24 = .ok (.getfield 28, 3) := by decide +kernel
theorem dTQ_moveFirstTo_27 : decode cTQ_moveFirstTo 27 = .ok (.iaload, 1) := by decide +kernel
theorem dTQ_moveFirstTo_28 : decode cTQ_moveFirstTo 28 = .ok (.aload_n 0, 1) := by decide +kernel
theorem dTQ_moveFirstTo_29 : decode cTQ_moveFirstTo 29 = .ok (.getfield 21, 3) := by decide +kernel
theorem dTQ_moveFirstTo_32 : decode cTQ_moveFirstTo 32 = .ok (.aload_n 0, 1) := by decide +kernel
theorem dTQ_moveFirstTo_33 : decode cTQ_moveFirstTo 33 = .ok (.getfield 28, 3) := by decide +kernel
theorem dTQ_moveFirstTo_36 : decode cTQ_moveFirstTo 36 = .ok (.iaload, 1) := by decide +kernel
theorem dTQ_moveFirstTo_37 : decode cTQ_moveFirstTo 37 = .ok (.invokevirtual 31, 3) := by decide +kernel
theorem dTQ_moveFirstTo_40 : decode cTQ_moveFirstTo 40 = .ok (.aload_n 0, 1) := by decide +kernel
theorem dTQ_moveFirstTo_41 : decode cTQ_moveFirstTo 41 = .ok (.aload_n 0, 1) := by decide +kernel
theorem dTQ_moveFirstTo_42 : decode cTQ_moveFirstTo 42 = .ok (.getfield 28, 3) := by decide +kernel
theorem dTQ_moveFirstTo_45 : decode cTQ_moveFirstTo 45 = .ok (.iconst 1, 1) := by decide +kernel
theorem dTQ_moveFirstTo_46 : decode cTQ_moveFirstTo 46 = .ok (.iadd, 1) := by decide +kernel
theorem dTQ_moveFirstTo_47 : decode cTQ_moveFirstTo 47 = .ok (.bipush 64, 2) := by decide +kernel
theorem dTQ_moveFirstTo_49 : decode cTQ_moveFirstTo 49 = .ok (.irem, 1) := by decide +kernel
theorem dTQ_moveFirstTo_50 : decode cTQ_moveFirstTo 50 = .ok (.putfield 28, 3) := by decide +kernel
theorem dTQ_moveFirstTo_53 : decode cTQ_moveFirstTo 53 = .ok (.aload_n 0, 1) := by decide +kernel
theorem dTQ_moveFirstTo_54 : decode cTQ_moveFirstTo 54 = .ok (.dup, 1) := by decide +kernel
theorem dTQ_moveFirstTo_55 : decode cTQ_moveFirstTo 55 = .ok (.getfield 24, 3) := by decide +kernel
theorem dTQ_moveFirstTo_58 : decode cTQ_moveFirstTo 58 = .ok (.iconst 1, 1) := by decide +kernel
theorem dTQ_moveFirstTo_59 : decode cTQ_moveFirstTo 59 = .ok (.isub, 1) := by decide +kernel
theorem dTQ_moveFirstTo_60 : decode cTQ_moveFirstTo 60 = .ok (.putfield 24, 3) := by decide +kernel
theorem dTQ_moveFirstTo_63 : decode cTQ_moveFirstTo 63 = .ok (.return_, 1) := by decide +kernel
theorem dMS_makeThanks_0 : decode cMS_makeThanks 0 = .ok (.aload_n 0, 1) := by decide +kernel
theorem dMS_makeThanks_1 : decode cMS_makeThanks 1 = .ok (.iconst 2, 1) := by decide +kernel
theorem dMS_makeThanks_2 : decode cMS_makeThanks 2 = .ok (.iload_n 1, 1) := by decide +kernel
theorem dMS_makeThanks_3 : decode cMS_makeThanks 3 = .ok (.iload_n 2, 1) := by decide +kernel
theorem dMS_makeThanks_4 : decode cMS_makeThanks 4 = .ok (.invokevirtual 19, 3) := by decide +kernel
theorem dMS_makeThanks_7 : decode cMS_makeThanks 7 = .ok (.aload_n 0, 1) := by decide +kernel
theorem dMS_makeThanks_8 : decode cMS_makeThanks 8 = .ok (.iload_n 3, 1) := by decide +kernel
theorem dMS_makeThanks_9 : decode cMS_makeThanks 9 = .ok (.iload 4, 2) := by decide +kernel
theorem dMS_makeThanks_11 : decode cMS_makeThanks 11 = .ok (.iconst 0, 1) := by decide +kernel
theorem dMS_makeThanks_12 : decode cMS_makeThanks 12 = .ok (.invokevirtual 23, 3) := by decide +kernel
theorem dMS_makeThanks_15 : decode cMS_makeThanks 15 = .ok (.aload_n 0, 1) := by decide +kernel
theorem dMS_makeThanks_16 : decode cMS_makeThanks 16 = .ok (.lconst 0, 1) := by decide +kernel
theorem dMS_makeThanks_17 : decode cMS_makeThanks 17 = .ok (.putfield 15, 3) := by decide +kernel
theorem dMS_makeThanks_20 : decode cMS_makeThanks 20 = .ok (.return_, 1) := by decide +kernel
theorem dDB_makeAdvert_0 : decode cDB_makeAdvert 0 = .ok (.aload_n 0, 1) := by decide +kernel
theorem dDB_makeAdvert_1 : decode cDB_makeAdvert 1 = .ok (.getfield 23, 3) := by decide +kernel
theorem dDB_makeAdvert_4 : decode cDB_makeAdvert 4 = .ok (.aload_n 0, 1) := by decide +kernel
theorem dDB_makeAdvert_5 : decode cDB_makeAdvert 5 = .ok (.getfield 68, 3) := by decide +kernel
theorem dDB_makeAdvert_8 : decode cDB_makeAdvert 8 = .ok (.invokevirtual 212, 3) := by decide +kernel
theorem dDB_makeAdvert_11 : decode cDB_makeAdvert 11 = .ok (.istore_n 1, 1) := by decide +kernel
theorem dDB_makeAdvert_12 : decode cDB_makeAdvert 12 = .ok (.iload_n 1, 1) := by decide +kernel
theorem dDB_makeAdvert_13 : decode cDB_makeAdvert 13 = .ok (.iconst (-1), 1) := by decide +kernel
theorem dDB_makeAdvert_14 : decode cDB_makeAdvert 14 = .ok (.if_icmp .ne 5, 3) := by decide +kernel
theorem dDB_makeAdvert_17 : decode cDB_makeAdvert 17 = .ok (.iconst 0, 1) := by decide +kernel
theorem dDB_makeAdvert_18 : decode cDB_makeAdvert 18 = .ok (.ireturn, 1) := by decide +kernel
theorem dDB_makeAdvert_19 : decode cDB_makeAdvert 19 = .ok (.aload_n 0, 1) := by decide +kernel
theorem dDB_makeAdvert_20 : decode cDB_makeAdvert 20 = .ok (.getfield 23, 3) := by decide +kernel
theorem dDB_makeAdvert_23 : decode cDB_makeAdvert 23 = .ok (.iload_n 1, 1) := by decide +kernel
theorem dDB_makeAdvert_24 : decode cDB_makeAdvert 24 = .ok (.aload_n 0, 1) := by decide +kernel
theorem dDB_makeAdvert_25 : decode cDB_makeAdvert 25 = .ok (.getfield 68, 3) := by decide +kernel
theorem dDB_makeAdvert_28 : decode cDB_makeAdvert 28 = .ok (.invokevirtual 215, 3) := by decide +kernel
theorem dDB_makeAdvert_31 : decode cDB_makeAdvert 31 = .ok (.istore_n 2, 1) := by decide +kernel
theorem dDB_makeAdvert_32 : decode cDB_makeAdvert 32 = .ok (.iload_n 2, 1) := by decide +kernel
theorem dDB_makeAdvert_33 : decode cDB_makeAdvert 33 = .ok (.iconst (-1), 1) := by decide +kernel
theorem dDB_makeAdvert_34 : decode cDB_makeAdvert 34 = .ok (.if_icmp .ne 5, 3) := by decide +kernel
theorem dDB_makeAdvert_37 : decode cDB_makeAdvert 37 = .ok (.iconst 0, 1) := by decide +kernel
theorem dDB_makeAdvert_38 : decode cDB_makeAdvert 38 = .ok (.ireturn, 1) := by decide +kernel
theorem dDB_makeAdvert_39 : decode cDB_makeAdvert 39 = .ok (.aload_n 0, 1) := by decide +kernel
theorem dDB_makeAdvert_40 : decode cDB_makeAdvert 40 = .ok (.getfield 23, 3) := by decide +kernel
theorem dDB_makeAdvert_43 : decode cDB_makeAdvert 43 = .ok (.iload_n 1, 1) := by decide +kernel
theorem dDB_makeAdvert_44 : decode cDB_makeAdvert 44 = .ok (.iload_n 2, 1) := by decide +kernel
theorem dDB_makeAdvert_45 : decode cDB_makeAdvert 45 = .ok (.aload_n 0, 1) := by decide +kernel
theorem dDB_makeAdvert_46 : decode cDB_makeAdvert 46 = .ok (.getfield 68, 3) := by decide +kernel
theorem dDB_makeAdvert_49 : decode cDB_makeAdvert 49 = .ok (.invokevirtual 218, 3) := by decide +kernel
theorem dDB_makeAdvert_52 : decode cDB_makeAdvert 52 = .ok (.aload_n 0, 1) := by decide +kernel
theorem dDB_makeAdvert_53 : decode cDB_makeAdvert 53 = .ok (.getfield 37, 3) := by decide +kernel
theorem dDB_makeAdvert_56 : decode cDB_makeAdvert 56 = .ok (.aload_n 0, 1) := by decide +kernel
theorem dDB_makeAdvert_57 : decode cDB_makeAdvert 57 = .ok (.getfield 23, 3) := by decide +kernel
theorem dDB_makeAdvert_60 : decode cDB_makeAdvert 60 = .ok (.iload_n 1, 1) := by decide +kernel
theorem dDB_makeAdvert_61 : decode cDB_makeAdvert 61 = .ok (.invokevirtual 221, 3) := by decide +kernel
theorem dDB_makeAdvert_64 : decode cDB_makeAdvert 64 = .ok (.aload_n 0, 1) := by decide +kernel
theorem dDB_makeAdvert_65 : decode cDB_makeAdvert 65 = .ok (.getfield 23, 3) := by decide +kernel
theorem dDB_makeAdvert_68 : decode cDB_makeAdvert 68 = .ok (.iload_n 1, 1) := by decide +kernel
theorem dDB_makeAdvert_69 : decode cDB_makeAdvert 69 = .ok (.invokevirtual 224, 3) := by decide +kernel
theorem dDB_makeAdvert_72 : decode cDB_makeAdvert 72 = .ok (.iload_n 2, 1) := by decide +kernel
theorem dDB_makeAdvert_73 : decode cDB_makeAdvert 73 = .ok (.aload_n 0, 1) := by decide +kernel
theorem dDB_makeAdvert_74 : decode cDB_makeAdvert 74 = .ok (.getfield 16, 3) := by decide +kernel
theorem dDB_makeAdvert_77 : decode cDB_makeAdvert 77 = .ok (.iload_n 2, 1) := by decide +kernel
theorem dDB_makeAdvert_78 : decode cDB_makeAdvert 78 = .ok (.invokevirtual 89, 3) := by decide +kernel
theorem dDB_makeAdvert_81 : decode cDB_makeAdvert 81 = .ok (.aload_n 0, 1) := by decide +kernel
theorem dDB_makeAdvert_82 : decode cDB_makeAdvert 82 = .ok (.getfield 16, 3) := by decide +kernel
theorem dDB_makeAdvert_85 : decode cDB_makeAdvert 85 = .ok (.iload_n 2, 1) := by decide +kernel
theorem dDB_makeAdvert_86 : decode cDB_makeAdvert 86 = .ok (.invokevirtual 169, 3) := by decide +kernel
theorem dDB_makeAdvert_89 : decode cDB_makeAdvert 89 = .ok (.invokevirtual 227, 3) := by decide +kernel
theorem dDB_makeAdvert_92 : decode cDB_makeAdvert 92 = .ok (.iconst 1, 1) := by decide +kernel
theorem dDB_makeAdvert_93 : decode cDB_makeAdvert 93 = .ok (.ireturn, 1) := by decide +kernel
theorem dNB_firstToServe_0 : decode cNB_firstToServe 0 = .ok (.iconst (-1), 1) := by decide +kernel
theorem dNB_firstToServe_1 : decode cNB_firstToServe 1 = .ok (.istore_n 2, 1) := by decide +kernel
theorem dNB_firstToServe_2 : decode cNB_firstToServe 2 = .ok (.sipush 512, 3) := by decide +kernel
theorem dNB_firstToServe_5 : decode cNB_firstToServe 5 = .ok (.istore_n 3, 1) := by decide +kernel
theorem dNB_firstToServe_6 : decode cNB_firstToServe 6 = .ok (.iconst 0, 1) := by decide +kernel
theorem dNB_firstToServe_7 : decode cNB_firstToServe 7 = .ok (.istore 4, 2) := by decide +kernel
theorem dNB_firstToServe_9 : decode cNB_firstToServe 9 = .ok (.iload 4, 2) := by decide +kernel
theorem dNB_firstToServe_11 : decode cNB_firstToServe 11 = .ok (.bipush 16, 2) := by decide +kernel
theorem dNB_firstToServe_13 : decode cNB_firstToServe 13 = .ok (.if_icmp .ge 64, 3) := by decide +kernel
theorem dNB_firstToServe_16 : decode cNB_firstToServe 16 = .ok (.aload_n 0, 1) := by decide +kernel
theorem dNB_firstToServe_17 : decode cNB_firstToServe 17 = .ok (.getfield 15, 3) := by decide +kernel
theorem dNB_firstToServe_20 : decode cNB_firstToServe 20 = .ok (.iload 4, 2) := by decide +kernel
theorem dNB_firstToServe_22 : decode cNB_firstToServe 22 = .ok (.iaload, 1) := by decide +kernel
theorem dNB_firstToServe_23 : decode cNB_firstToServe 23 = .ok (.bipush 64, 2) := by decide +kernel
theorem dNB_firstToServe_25 : decode cNB_firstToServe 25 = .ok (.imul, 1) := by decide +kernel
theorem dNB_firstToServe_26 : decode cNB_firstToServe 26 = .ok (.aload_n 0, 1) := by decide +kernel
theorem dNB_firstToServe_27 : decode cNB_firstToServe 27 = .ok (.getfield 18, 3) := by decide +kernel
theorem dNB_firstToServe_30 : decode cNB_firstToServe 30 = .ok (.iload 4, 2) := by decide +kernel
theorem dNB_firstToServe_32 : decode cNB_firstToServe 32 = .ok (.iaload, 1) := by decide +kernel
theorem dNB_firstToServe_33 : decode cNB_firstToServe 33 = .ok (.iadd, 1) := by decide +kernel
theorem dNB_firstToServe_34 : decode cNB_firstToServe 34 = .ok (.istore 5, 2) := by decide +kernel
theorem dNB_firstToServe_36 : decode cNB_firstToServe 36 = .ok (.aload_n 0, 1) := by decide +kernel
theorem dNB_firstToServe_37 : decode cNB_firstToServe 37 = .ok (.getfield 24, 3) := by decide +kernel
theorem dNB_firstToServe_40 : decode cNB_firstToServe 40 = .ok (.iload 4, 2) := by decide +kernel
theorem dNB_firstToServe_42 : decode cNB_firstToServe 42 = .ok (.laload, 1) := by decide +kernel
theorem dNB_firstToServe_43 : decode cNB_firstToServe 43 = .ok (.lconst 0, 1) := by decide +kernel
theorem dNB_firstToServe_44 : decode cNB_firstToServe 44 = .ok (.lcmp, 1) := by decide +kernel
theorem dNB_firstToServe_45 : decode cNB_firstToServe 45 = .ok (.ifCond .eq 26, 3) := by decide +kernel
theorem dNB_firstToServe_48 : decode cNB_firstToServe 48 = .ok (.iload 5, 2) := by decide +kernel
theorem dNB_firstToServe_50 : decode cNB_firstToServe 50 = .ok (.iload_n 3, 1) := by decide +kernel
theorem dNB_firstToServe_51 : decode cNB_firstToServe 51 = .ok (.if_icmp .ge 20, 3) := by decide +kernel
theorem dNB_firstToServe_54 : decode cNB_firstToServe 54 = .ok (.aload_n 0, 1) := by decide +kernel
theorem dNB_firstToServe_55 : decode cNB_firstToServe 55 = .ok (.iload 4, 2) := by decide +kernel
theorem dNB_firstToServe_57 : decode cNB_firstToServe 57 = .ok (.iload_n 1, 1) := by decide +kernel
theorem dNB_firstToServe_58 : decode cNB_firstToServe 58 = .ok (.invokevirtual 63, 3) := by decide +kernel
theorem dNB_firstToServe_61 : decode cNB_firstToServe 61 = .ok (.iconst (-1), 1) := by decide +kernel
theorem dNB_firstToServe_62 : decode cNB_firstToServe 62 = .ok (.if_icmp .eq 9, 3) := by decide +kernel
theorem dNB_firstToServe_65 : decode cNB_firstToServe 65 = .ok (.iload 4, 2) := by decide +kernel
theorem dNB_firstToServe_67 : decode cNB_firstToServe 67 = .ok (.istore_n 2, 1) := by decide +kernel
theorem dNB_firstToServe_68 : decode cNB_firstToServe 68 = .ok (.iload 5, 2) := by decide +kernel
theorem dNB_firstToServe_70 : decode cNB_firstToServe 70 = .ok (.istore_n 3, 1) := by decide +kernel
theorem dNB_firstToServe_71 : decode cNB_firstToServe 71 = .ok (.iinc 4 1, 3) := by decide +kernel
theorem dNB_firstToServe_74 : decode cNB_firstToServe 74 = .ok (.goto (-65), 3) := by decide +kernel
theorem dNB_firstToServe_77 : decode cNB_firstToServe 77 = .ok (.iload_n 2, 1) := by decide +kernel
theorem dNB_firstToServe_78 : decode cNB_firstToServe 78 = .ok (.ireturn, 1) := by decide +kernel
theorem dNB_firstToSend_0 : decode cNB_firstToSend 0 = .ok (.iconst 0, 1) := by decide +kernel
theorem dNB_firstToSend_1 : decode cNB_firstToSend 1 = .ok (.istore_n 3, 1) := by decide +kernel
theorem dNB_firstToSend_2 : decode cNB_firstToSend 2 = .ok (.iload_n 3, 1) := by decide +kernel
theorem dNB_firstToSend_3 : decode cNB_firstToSend 3 = .ok (.bipush 64, 2) := by decide +kernel
theorem dNB_firstToSend_5 : decode cNB_firstToSend 5 = .ok (.if_icmp .ge 21, 3) := by decide +kernel
theorem dNB_firstToSend_8 : decode cNB_firstToSend 8 = .ok (.aload_n 0, 1) := by decide +kernel
theorem dNB_firstToSend_9 : decode cNB_firstToSend 9 = .ok (.iload_n 1, 1) := by decide +kernel
theorem dNB_firstToSend_10 : decode cNB_firstToSend 10 = .ok (.iload_n 3, 1) := by decide +kernel
theorem dNB_firstToSend_11 : decode cNB_firstToSend 11 = .ok (.iload_n 2, 1) := by decide +kernel
theorem dNB_firstToSend_12 : decode cNB_firstToSend 12 = .ok (.invokevirtual 59, 3) := by decide +kernel
theorem dNB_firstToSend_15 : decode cNB_firstToSend 15 = .ok (.ifCond .eq 5, 3) := by decide +kernel
theorem dNB_firstToSend_18 : decode cNB_firstToSend 18 = .ok (.iload_n 3, 1) := by decide +kernel
theorem dNB_firstToSend_19 : decode cNB_firstToSend 19 = .ok (.ireturn, 1) := by decide +kernel
theorem dNB_firstToSend_20 : decode cNB_firstToSend 20 = .ok (.iinc 3 1, 3) := by decide +kernel
theorem dNB_firstToSend_23 : decode cNB_firstToSend 23 = .ok (.goto (-21), 3) := by decide +kernel
theorem dNB_firstToSend_26 : decode cNB_firstToSend 26 = .ok (.iconst (-1), 1) := by decide +kernel
theorem dNB_firstToSend_27 : decode cNB_firstToSend 27 = .ok (.ireturn, 1) := by decide +kernel
theorem dNB_isToBeSent_0 : decode cNB_isToBeSent 0 = .ok (.lconst 1, 1) := by decide +kernel
theorem dNB_isToBeSent_1 : decode cNB_isToBeSent 1 = .ok (.iload_n 2, 1) := by decide +kernel
theorem dNB_isToBeSent_2 : decode cNB_isToBeSent 2 = .ok (.lshl, 1) := by decide +kernel
theorem dNB_isToBeSent_3 : decode cNB_isToBeSent 3 = .ok (.lstore 4, 2) := by decide +kernel
theorem dNB_isToBeSent_5 : decode cNB_isToBeSent 5 = .ok (.aload_n 0, 1) := by decide +kernel
theorem dNB_isToBeSent_6 : decode cNB_isToBeSent 6 = .ok (.getfield 24, 3) := by decide +kernel
theorem dNB_isToBeSent_9 : decode cNB_isToBeSent 9 = .ok (.iload_n 1, 1) := by decide +kernel
theorem dNB_isToBeSent_10 : decode cNB_isToBeSent 10 = .ok (.laload, 1) := by decide +kernel
theorem dNB_isToBeSent_11 : decode cNB_isToBeSent 11 = .ok (.lload 4, 2) := by decide +kernel
theorem dNB_isToBeSent_13 : decode cNB_isToBeSent 13 = .ok (.land, 1) := by decide +kernel
theorem dNB_isToBeSent_14 : decode cNB_isToBeSent 14 = .ok (.lconst 0, 1) := by decide +kernel
theorem dNB_isToBeSent_15 : decode cNB_isToBeSent 15 = .ok (.lcmp, 1) := by decide +kernel
theorem dNB_isToBeSent_16 : decode cNB_isToBeSent 16 = .ok (.ifCond .ne 5, 3) := by decide +kernel
theorem dNB_isToBeSent_19 : decode cNB_isToBeSent 19 = .ok (.iconst 0, 1) := by decide +kernel
theorem dNB_isToBeSent_20 : decode cNB_isToBeSent 20 = .ok (.ireturn, 1) := by decide +kernel
theorem dNB_isToBeSent_21 : decode cNB_isToBeSent 21 = .ok (.aload_n 0, 1) := by decide +kernel
theorem dNB_isToBeSent_22 : decode cNB_isToBeSent 22 = .ok (.getfield 28, 3) := by decide +kernel
theorem dNB_isToBeSent_25 : decode cNB_isToBeSent 25 = .ok (.iload_n 1, 1) := by decide +kernel
theorem dNB_isToBeSent_26 : decode cNB_isToBeSent 26 = .ok (.laload, 1) := by decide +kernel
theorem dNB_isToBeSent_27 : decode cNB_isToBeSent 27 = .ok (.lload 4, 2) := by decide +kernel
theorem dNB_isToBeSent_29 : decode cNB_isToBeSent 29 = .ok (.land, 1) := by decide +kernel
theorem dNB_isToBeSent_30 : decode cNB_isToBeSent 30 = .ok (.lconst 0, 1) := by decide +kernel
theorem dNB_isToBeSent_31 : decode cNB_isToBeSent 31 = .ok (.lcmp, 1) := by decide +kernel
theorem dNB_isToBeSent_32 : decode cNB_isToBeSent 32 = .ok (.ifCond .ne 21, 3) := by decide +kernel
theorem dNB_isToBeSent_35 : decode cNB_isToBeSent 35 = .ok (.iload_n 3, 1) := by decide +kernel
theorem dNB_isToBeSent_36 : decode cNB_isToBeSent 36 = .ok (.aload_n 0, 1) := by decide +kernel
theorem dNB_isToBeSent_37 : decode cNB_isToBeSent 37 = .ok (.getfield 31, 3) := by decide +kernel
theorem dNB_isToBeSent_40 : decode cNB_isToBeSent 40 = .ok (.iload_n 1, 1) := by decide +kernel
theorem dNB_isToBeSent_41 : decode cNB_isToBeSent 41 = .ok (.bipush 64, 2) := by decide +kernel
theorem dNB_isToBeSent_43 : decode cNB_isToBeSent 43 = .ok (.imul, 1) := by decide +kernel
theorem dNB_isToBeSent_44 : decode cNB_isToBeSent 44 = .ok (.iload_n 2, 1) := by decide +kernel
theorem dNB_isToBeSent_45 : decode cNB_isToBeSent 45 = .ok (.iadd, 1) := by decide +kernel
theorem dNB_isToBeSent_46 : decode cNB_isToBeSent 46 = .ok (.iaload, 1) := by decide +kernel
theorem dNB_isToBeSent_47 : decode cNB_isToBeSent 47 = .ok (.isub, 1) := by decide +kernel
theorem dNB_isToBeSent_48 : decode cNB_isToBeSent 48 = .ok (.bipush 15, 2) := by decide +kernel
theorem dNB_isToBeSent_50 : decode cNB_isToBeSent 50 = .ok (.if_icmp .lt 7, 3) := by decide +kernel
theorem dNB_isToBeSent_53 : decode cNB_isToBeSent 53 = .ok (.iconst 1, 1) := by decide +kernel
theorem dNB_isToBeSent_54 : decode cNB_isToBeSent 54 = .ok (.goto 4, 3) := by decide +kernel
theorem dNB_isToBeSent_57 : decode cNB_isToBeSent 57 = .ok (.iconst 0, 1) := by decide +kernel
theorem dNB_isToBeSent_58 : decode cNB_isToBeSent 58 = .ok (.ireturn, 1) := by decide +kernel
theorem dNB_sent_0 : decode cNB_sent 0 = .ok (.aload_n 0, 1) := by decide +kernel
theorem dNB_sent_1 : decode cNB_sent 1 = .ok (.getfield 28, 3) := by decide +kernel
theorem dNB_sent_4 : decode cNB_sent 4 = .ok (.iload_n 1, 1) := by decide +kernel
theorem dNB_sent_5 : decode cNB_sent 5 = .ok (.dup2, 1) := by decide +kernel
theorem dNB_sent_6 : decode cNB_sent 6 = .ok (.laload, 1) := by decide +kernel
theorem dNB_sent_7 : decode cNB_sent 7 = .ok (.lconst 1, 1) := by decide +kernel
theorem dNB_sent_8 : decode cNB_sent 8 = .ok (.iload_n 2, 1) := by decide +kernel
theorem dNB_sent_9 : decode cNB_sent 9 = .ok (.lshl, 1) := by decide +kernel
theorem dNB_sent_10 : decode cNB_sent 10 = .ok (.ldc2_w 53, 3) := by decide +kernel
theorem dNB_sent_13 : decode cNB_sent 13 = .ok (.lxor, 1) := by decide +kernel
theorem dNB_sent_14 : decode cNB_sent 14 = .ok (.land, 1) := by decide +kernel
theorem dNB_sent_15 : decode cNB_sent 15 = .ok (.lastore, 1) := by decide +kernel
theorem dNB_sent_16 : decode cNB_sent 16 = .ok (.aload_n 0, 1) := by decide +kernel
theorem dNB_sent_17 : decode cNB_sent 17 = .ok (.getfield 31, 3) := by decide +kernel
theorem dNB_sent_20 : decode cNB_sent 20 = .ok (.iload_n 1, 1) := by decide +kernel
theorem dNB_sent_21 : decode cNB_sent 21 = .ok (.bipush 64, 2) := by decide +kernel
theorem dNB_sent_23 : decode cNB_sent 23 = .ok (.imul, 1) := by decide +kernel
theorem dNB_sent_24 : decode cNB_sent 24 = .ok (.iload_n 2, 1) := by decide +kernel
theorem dNB_sent_25 : decode cNB_sent 25 = .ok (.iadd, 1) := by decide +kernel
theorem dNB_sent_26 : decode cNB_sent 26 = .ok (.iload_n 3, 1) := by decide +kernel
theorem dNB_sent_27 : decode cNB_sent 27 = .ok (.iastore, 1) := by decide +kernel
theorem dNB_sent_28 : decode cNB_sent 28 = .ok (.return_, 1) := by decide +kernel
theorem dNB_portAt_0 : decode cNB_portAt 0 = .ok (.aload_n 0, 1) := by decide +kernel
theorem dNB_portAt_1 : decode cNB_portAt 1 = .ok (.getfield 15, 3) := by decide +kernel
theorem dNB_portAt_4 : decode cNB_portAt 4 = .ok (.iload_n 1, 1) := by decide +kernel
theorem dNB_portAt_5 : decode cNB_portAt 5 = .ok (.iaload, 1) := by decide +kernel
theorem dNB_portAt_6 : decode cNB_portAt 6 = .ok (.ireturn, 1) := by decide +kernel
theorem dNB_routerAt_0 : decode cNB_routerAt 0 = .ok (.aload_n 0, 1) := by decide +kernel
theorem dNB_routerAt_1 : decode cNB_routerAt 1 = .ok (.getfield 18, 3) := by decide +kernel
theorem dNB_routerAt_4 : decode cNB_routerAt 4 = .ok (.iload_n 1, 1) := by decide +kernel
theorem dNB_routerAt_5 : decode cNB_routerAt 5 = .ok (.iaload, 1) := by decide +kernel
theorem dNB_routerAt_6 : decode cNB_routerAt 6 = .ok (.ireturn, 1) := by decide +kernel
theorem dAD_numberOf_0 : decode cAD_numberOf 0 = .ok (.aload_n 0, 1) := by decide +kernel
theorem dAD_numberOf_1 : decode cAD_numberOf 1 = .ok (.getfield 9, 3) := by decide +kernel
theorem dAD_numberOf_4 : decode cAD_numberOf 4 = .ok (.iload_n 1, 1) := by decide +kernel
theorem dAD_numberOf_5 : decode cAD_numberOf 5 = .ok (.iaload, 1) := by decide +kernel
theorem dAD_numberOf_6 : decode cAD_numberOf 6 = .ok (.ireturn, 1) := by decide +kernel
theorem dAD_bodyOf_0 : decode cAD_bodyOf 0 = .ok (.aload_n 0, 1) := by decide +kernel
theorem dAD_bodyOf_1 : decode cAD_bodyOf 1 = .ok (.getfield 15, 3) := by decide +kernel
theorem dAD_bodyOf_4 : decode cAD_bodyOf 4 = .ok (.iload_n 1, 1) := by decide +kernel
theorem dAD_bodyOf_5 : decode cAD_bodyOf 5 = .ok (.iaload, 1) := by decide +kernel
theorem dAD_bodyOf_6 : decode cAD_bodyOf 6 = .ok (.ireturn, 1) := by decide +kernel
theorem dMS_makeAdvert_0 : decode cMS_makeAdvert 0 = .ok (.aload_n 0, 1) := by decide +kernel
theorem dMS_makeAdvert_1 : decode cMS_makeAdvert 1 = .ok (.iconst 3, 1) := by decide +kernel
theorem dMS_makeAdvert_2 : decode cMS_makeAdvert 2 = .ok (.iload_n 1, 1) := by decide +kernel
theorem dMS_makeAdvert_3 : decode cMS_makeAdvert 3 = .ok (.iload_n 2, 1) := by decide +kernel
theorem dMS_makeAdvert_4 : decode cMS_makeAdvert 4 = .ok (.invokevirtual 19, 3) := by decide +kernel
theorem dMS_makeAdvert_7 : decode cMS_makeAdvert 7 = .ok (.aload_n 0, 1) := by decide +kernel
theorem dMS_makeAdvert_8 : decode cMS_makeAdvert 8 = .ok (.iload_n 3, 1) := by decide +kernel
theorem dMS_makeAdvert_9 : decode cMS_makeAdvert 9 = .ok (.iload 4, 2) := by decide +kernel
theorem dMS_makeAdvert_11 : decode cMS_makeAdvert 11 = .ok (.iload 5, 2) := by decide +kernel
theorem dMS_makeAdvert_13 : decode cMS_makeAdvert 13 = .ok (.invokevirtual 23, 3) := by decide +kernel
theorem dMS_makeAdvert_16 : decode cMS_makeAdvert 16 = .ok (.aload_n 0, 1) := by decide +kernel
theorem dMS_makeAdvert_17 : decode cMS_makeAdvert 17 = .ok (.lconst 0, 1) := by decide +kernel
theorem dMS_makeAdvert_18 : decode cMS_makeAdvert 18 = .ok (.putfield 15, 3) := by decide +kernel
theorem dMS_makeAdvert_21 : decode cMS_makeAdvert 21 = .ok (.return_, 1) := by decide +kernel
theorem dDB_named_0 : decode cDB_named 0 = .ok (.aload_n 0, 1) := by decide +kernel
theorem dDB_named_1 : decode cDB_named 1 = .ok (.getfield 37, 3) := by decide +kernel
theorem dDB_named_4 : decode cDB_named 4 = .ok (.invokevirtual 163, 3) := by decide +kernel
theorem dDB_named_7 : decode cDB_named 7 = .ok (.lreturn, 1) := by decide +kernel
theorem dMS_namedRouters_0 : decode cMS_namedRouters 0 = .ok (.aload_n 0, 1) := by decide +kernel
theorem dMS_namedRouters_1 : decode cMS_namedRouters 1 = .ok (.getfield 15, 3) := by decide +kernel
theorem dMS_namedRouters_4 : decode cMS_namedRouters 4 = .ok (.lreturn, 1) := by decide +kernel
theorem dDB_count_0 : decode cDB_count 0 = .ok (.aload_n 0, 1) := by decide +kernel
theorem dDB_count_1 : decode cDB_count 1 = .ok (.getfield 23, 3) := by decide +kernel
theorem dDB_count_4 : decode cDB_count 4 = .ok (.iload_n 1, 1) := by decide +kernel
theorem dDB_count_5 : decode cDB_count 5 = .ok (.ifCond .eq 7, 3) := by decide +kernel
theorem dDB_count_8 : decode cDB_count 8 = .ok (.iconst 2, 1) := by decide +kernel
theorem dDB_count_9 : decode cDB_count 9 = .ok (.goto 4, 3) := by decide +kernel
theorem dDB_count_12 : decode cDB_count 12 = .ok (.iconst 1, 1) := by decide +kernel
theorem dDB_count_13 : decode cDB_count 13 = .ok (.invokevirtual 175, 3) := by decide +kernel
theorem dDB_count_16 : decode cDB_count 16 = .ok (.ireturn, 1) := by decide +kernel
theorem dNB_atLeast_0 : decode cNB_atLeast 0 = .ok (.iconst 0, 1) := by decide +kernel
theorem dNB_atLeast_1 : decode cNB_atLeast 1 = .ok (.istore_n 2, 1) := by decide +kernel
theorem dNB_atLeast_2 : decode cNB_atLeast 2 = .ok (.iconst 0, 1) := by decide +kernel
theorem dNB_atLeast_3 : decode cNB_atLeast 3 = .ok (.istore_n 3, 1) := by decide +kernel
theorem dNB_atLeast_4 : decode cNB_atLeast 4 = .ok (.iload_n 3, 1) := by decide +kernel
theorem dNB_atLeast_5 : decode cNB_atLeast 5 = .ok (.bipush 16, 2) := by decide +kernel
theorem dNB_atLeast_7 : decode cNB_atLeast 7 = .ok (.if_icmp .ge 22, 3) := by decide +kernel
theorem dNB_atLeast_10 : decode cNB_atLeast 10 = .ok (.aload_n 0, 1) := by decide +kernel
theorem dNB_atLeast_11 : decode cNB_atLeast 11 = .ok (.getfield 9, 3) := by decide +kernel
theorem dNB_atLeast_14 : decode cNB_atLeast 14 = .ok (.iload_n 3, 1) := by decide +kernel
theorem dNB_atLeast_15 : decode cNB_atLeast 15 = .ok (.iaload, 1) := by decide +kernel
theorem dNB_atLeast_16 : decode cNB_atLeast 16 = .ok (.iload_n 1, 1) := by decide +kernel
theorem dNB_atLeast_17 : decode cNB_atLeast 17 = .ok (.if_icmp .lt 6, 3) := by decide +kernel
theorem dNB_atLeast_20 : decode cNB_atLeast 20 = .ok (.iinc 2 1, 3) := by decide +kernel
theorem dNB_atLeast_23 : decode cNB_atLeast 23 = .ok (.iinc 3 1, 3) := by decide +kernel
theorem dNB_atLeast_26 : decode cNB_atLeast 26 = .ok (.goto (-22), 3) := by decide +kernel
theorem dNB_atLeast_29 : decode cNB_atLeast 29 = .ok (.iload_n 2, 1) := by decide +kernel
theorem dNB_atLeast_30 : decode cNB_atLeast 30 = .ok (.ireturn, 1) := by decide +kernel
theorem dDB_time_0 : decode cDB_time 0 = .ok (.aload_n 0, 1) := by decide +kernel
theorem dDB_time_1 : decode cDB_time 1 = .ok (.getfield 68, 3) := by decide +kernel
theorem dDB_time_4 : decode cDB_time 4 = .ok (.ireturn, 1) := by decide +kernel
theorem dDB_port_0 : decode cDB_port 0 = .ok (.iload_n 1, 1) := by decide +kernel
theorem dDB_port_1 : decode cDB_port 1 = .ok (.invokestatic 41, 3) := by decide +kernel
theorem dDB_port_4 : decode cDB_port 4 = .ok (.aload_n 0, 1) := by decide +kernel
theorem dDB_port_5 : decode cDB_port 5 = .ok (.iload_n 1, 1) := by decide +kernel
theorem dDB_port_6 : decode cDB_port 6 = .ok (.invokevirtual 45, 3) := by decide +kernel
theorem dDB_port_9 : decode cDB_port 9 = .ok (.iload_n 2, 1) := by decide +kernel
theorem dDB_port_10 : decode cDB_port 10 = .ok (.if_icmp .ne 5, 3) := by decide +kernel
theorem dDB_port_13 : decode cDB_port 13 = .ok (.iconst 0, 1) := by decide +kernel
theorem dDB_port_14 : decode cDB_port 14 = .ok (.ireturn, 1) := by decide +kernel
theorem dDB_port_15 : decode cDB_port 15 = .ok (.iload_n 2, 1) := by decide +kernel
theorem dDB_port_16 : decode cDB_port 16 = .ok (.ifCond .eq 18, 3) := by decide +kernel
theorem dDB_port_19 : decode cDB_port 19 = .ok (.aload_n 0, 1) := by decide +kernel
theorem dDB_port_20 : decode cDB_port 20 = .ok (.dup, 1) := by decide +kernel
theorem dDB_port_21 : decode cDB_port 21 = .ok (.getfield 49, 3) := by decide +kernel
theorem dDB_port_24 : decode cDB_port 24 = .ok (.iconst 1, 1) := by decide +kernel
theorem dDB_port_25 : decode cDB_port 25 = .ok (.iload_n 1, 1) := by decide +kernel
theorem dDB_port_26 : decode cDB_port 26 = .ok (.ishl, 1) := by decide +kernel
theorem dDB_port_27 : decode cDB_port 27 = .ok (.ior, 1) := by decide +kernel
theorem dDB_port_28 : decode cDB_port 28 = .ok (.putfield 49, 3) := by decide +kernel
theorem dDB_port_31 : decode cDB_port 31 = .ok (.goto 39, 3) := by decide +kernel
theorem dDB_port_34 : decode cDB_port 34 = .ok (.aload_n 0, 1) := by decide +kernel
theorem dDB_port_35 : decode cDB_port 35 = .ok (.dup, 1) := by decide +kernel
theorem dDB_port_36 : decode cDB_port 36 = .ok (.getfield 49, 3) := by decide +kernel
theorem dDB_port_39 : decode cDB_port 39 = .ok (.iconst 1, 1) := by decide +kernel
theorem dDB_port_40 : decode cDB_port 40 = .ok (.iload_n 1, 1) := by decide +kernel
theorem dDB_port_41 : decode cDB_port 41 = .ok (.ishl, 1) := by decide +kernel
theorem dDB_port_42 : decode cDB_port 42 = .ok (.iconst (-1), 1) := by decide +kernel
theorem dDB_port_43 : decode cDB_port 43 = .ok (.ixor, 1) := by decide +kernel
theorem dDB_port_44 : decode cDB_port 44 = .ok (.iand, 1) := by decide +kernel
theorem dDB_port_45 : decode cDB_port 45 = .ok (.putfield 49, 3) := by decide +kernel
theorem dDB_port_48 : decode cDB_port 48 = .ok (.aload_n 0, 1) := by decide +kernel
theorem dDB_port_49 : decode cDB_port 49 = .ok (.dup, 1) := by decide +kernel
theorem dDB_port_50 : decode cDB_port 50 = .ok (.getfield 52, 3) := by decide +kernel
theorem dDB_port_53 : decode cDB_port 53 = .ok (.iconst 1, 1) := by decide +kernel
theorem dDB_port_54 : decode cDB_port 54 = .ok (.iload_n 1, 1) := by decide +kernel
theorem dDB_port_55 : decode cDB_port 55 = .ok (.ishl, 1) := by decide +kernel
theorem dDB_port_56 : decode cDB_port 56 = .ok (.iconst (-1), 1) := by decide +kernel
theorem dDB_port_57 : decode cDB_port 57 = .ok (.ixor, 1) := by decide +kernel
theorem dDB_port_58 : decode cDB_port 58 = .ok (.iand, 1) := by decide +kernel
theorem dDB_port_59 : decode cDB_port 59 = .ok (.putfield 52, 3) := by decide +kernel
theorem dDB_port_62 : decode cDB_port 62 = .ok (.aload_n 0, 1) := by decide +kernel
theorem dDB_port_63 : decode cDB_port 63 = .ok (.getfield 23, 3) := by decide +kernel
theorem dDB_port_66 : decode cDB_port 66 = .ok (.iload_n 1, 1) := by decide +kernel
theorem dDB_port_67 : decode cDB_port 67 = .ok (.invokevirtual 55, 3) := by decide +kernel
theorem dDB_port_70 : decode cDB_port 70 = .ok (.iconst 1, 1) := by decide +kernel
theorem dDB_port_71 : decode cDB_port 71 = .ok (.ireturn, 1) := by decide +kernel
theorem dDB_requirePort_0 : decode cDB_requirePort 0 = .ok (.iload_n 0, 1) := by decide +kernel
theorem dDB_requirePort_1 : decode cDB_requirePort 1 = .ok (.ifCond .lt 9, 3) := by decide +kernel
theorem dDB_requirePort_4 : decode cDB_requirePort 4 = .ok (.iload_n 0, 1) := by decide +kernel
theorem dDB_requirePort_5 : decode cDB_requirePort 5 = .ok (.bipush 8, 2) := by decide +kernel
theorem dDB_requirePort_7 : decode cDB_requirePort 7 = .ok (.if_icmp .lt 13, 3) := by decide +kernel
theorem dDB_requirePort_10 : decode cDB_requirePort 10 = .ok (.new 127, 3) := by decide +kernel
theorem dDB_requirePort_13 : decode cDB_requirePort 13 = .ok (.dup, 1) := by decide +kernel
theorem dDB_requirePort_14 : decode cDB_requirePort 14 = .ok (.ldc 183, 2) := by decide +kernel
theorem dDB_requirePort_16 : decode cDB_requirePort 16 = .ok (.invokespecial 131, 3) := by decide +kernel
theorem dDB_requirePort_19 : decode cDB_requirePort 19 = .ok (.athrow, 1) := by decide +kernel
theorem dDB_requirePort_20 : decode cDB_requirePort 20 = .ok (.return_, 1) := by decide +kernel
theorem dDB_isOn_0 : decode cDB_isOn 0 = .ok (.aload_n 0, 1) := by decide +kernel
theorem dDB_isOn_1 : decode cDB_isOn 1 = .ok (.getfield 49, 3) := by decide +kernel
theorem dDB_isOn_4 : decode cDB_isOn 4 = .ok (.iconst 1, 1) := by decide +kernel
theorem dDB_isOn_5 : decode cDB_isOn 5 = .ok (.iload_n 1, 1) := by decide +kernel
theorem dDB_isOn_6 : decode cDB_isOn 6 = .ok (.ishl, 1) := by decide +kernel
theorem dDB_isOn_7 : decode cDB_isOn 7 = .ok (.iand, 1) := by decide +kernel
theorem dDB_isOn_8 : decode cDB_isOn 8 = .ok (.ifCond .eq 7, 3) := by decide +kernel
theorem dDB_isOn_11 : decode cDB_isOn 11 = .ok (.iconst 1, 1) := by decide +kernel
theorem dDB_isOn_12 : decode cDB_isOn 12 = .ok (.goto 4, 3) := by decide +kernel
theorem dDB_isOn_15 : decode cDB_isOn 15 = .ok (.iconst 0, 1) := by decide +kernel
theorem dDB_isOn_16 : decode cDB_isOn 16 = .ok (.ireturn, 1) := by decide +kernel
theorem dNB_dropPort_0 : decode cNB_dropPort 0 = .ok (.iconst 0, 1) := by decide +kernel
theorem dNB_dropPort_1 : decode cNB_dropPort 1 = .ok (.istore_n 2, 1) := by decide +kernel
theorem dNB_dropPort_2 : decode cNB_dropPort 2 = .ok (.iload_n 2, 1) := by decide +kernel
theorem dNB_dropPort_3 : decode cNB_dropPort 3 = .ok (.bipush 16, 2) := by decide +kernel
theorem dNB_dropPort_5 : decode cNB_dropPort 5 = .ok (.if_icmp .ge 33, 3) := by decide +kernel
theorem dNB_dropPort_8 : decode cNB_dropPort 8 = .ok (.aload_n 0, 1) := by decide +kernel
theorem dNB_dropPort_9 : decode cNB_dropPort 9 = .ok (.getfield 9, 3) := by decide +kernel
theorem dNB_dropPort_12 : decode cNB_dropPort 12 = .ok (.iload_n 2, 1) := by decide +kernel
theorem dNB_dropPort_13 : decode cNB_dropPort 13 = .ok (.iaload, 1) := by decide +kernel
theorem dNB_dropPort_14 : decode cNB_dropPort 14 = .ok (.ifCond .eq 18, 3) := by decide +kernel
theorem dNB_dropPort_17 : decode cNB_dropPort 17 = .ok (.aload_n 0, 1) := by decide +kernel
theorem dNB_dropPort_18 : decode cNB_dropPort 18 = .ok (.getfield 15, 3) := by decide +kernel
theorem dNB_dropPort_21 : decode cNB_dropPort 21 = .ok (.iload_n 2, 1) := by decide +kernel
theorem dNB_dropPort_22 : decode cNB_dropPort 22 = .ok (.iaload, 1) := by decide +kernel
theorem dNB_dropPort_23 : decode cNB_dropPort 23 = .ok (.iload_n 1, 1) := by decide +kernel
theorem dNB_dropPort_24 : decode cNB_dropPort 24 = .ok (.if_icmp .ne 8, 3) := by decide +kernel
theorem dNB_dropPort_27 : decode cNB_dropPort 27 = .ok (.aload_n 0, 1) := by decide +kernel
theorem dNB_dropPort_28 : decode cNB_dropPort 28 = .ok (.iload_n 2, 1) := by decide +kernel
theorem dNB_dropPort_29 : decode cNB_dropPort 29 = .ok (.invokevirtual 45, 3) := by decide +kernel
theorem dNB_dropPort_32 : decode cNB_dropPort 32 = .ok (.iinc 2 1, 3) := by decide +kernel
theorem dNB_dropPort_35 : decode cNB_dropPort 35 = .ok (.goto (-33), 3) := by decide +kernel
theorem dNB_dropPort_38 : decode cNB_dropPort 38 = .ok (.return_, 1) := by decide +kernel
theorem dNB_drop_0 : decode cNB_drop 0 = .ok (.aload_n 0, 1) := by decide +kernel
theorem dNB_drop_1 : decode cNB_drop 1 = .ok (.getfield 9, 3) := by decide +kernel
theorem dNB_drop_4 : decode cNB_drop 4 = .ok (.iload_n 1, 1) := by decide +kernel
theorem dNB_drop_5 : decode cNB_drop 5 = .ok (.iconst 0, 1) := by decide +kernel
theorem dNB_drop_6 : decode cNB_drop 6 = .ok (.iastore, 1) := by decide +kernel
theorem dNB_drop_7 : decode cNB_drop 7 = .ok (.aload_n 0, 1) := by decide +kernel
theorem dNB_drop_8 : decode cNB_drop 8 = .ok (.iload_n 1, 1) := by decide +kernel
theorem dNB_drop_9 : decode cNB_drop 9 = .ok (.lconst 0, 1) := by decide +kernel
theorem dNB_drop_10 : decode cNB_drop 10 = .ok (.invokevirtual 41, 3) := by decide +kernel
theorem dNB_drop_13 : decode cNB_drop 13 = .ok (.return_, 1) := by decide +kernel
theorem dNB_oweExactly_0 : decode cNB_oweExactly 0 = .ok (.aload_n 0, 1) := by decide +kernel
theorem dNB_oweExactly_1 : decode cNB_oweExactly 1 = .ok (.getfield 24, 3) := by decide +kernel
theorem dNB_oweExactly_4 : decode cNB_oweExactly 4 = .ok (.iload_n 1, 1) := by decide +kernel
theorem dNB_oweExactly_5 : decode cNB_oweExactly 5 = .ok (.lload_n 2, 1) := by decide +kernel
theorem dNB_oweExactly_6 : decode cNB_oweExactly 6 = .ok (.lastore, 1) := by decide +kernel
theorem dNB_oweExactly_7 : decode cNB_oweExactly 7 = .ok (.aload_n 0, 1) := by decide +kernel
theorem dNB_oweExactly_8 : decode cNB_oweExactly 8 = .ok (.getfield 28, 3) := by decide +kernel
theorem dNB_oweExactly_11 : decode cNB_oweExactly 11 = .ok (.iload_n 1, 1) := by decide +kernel
theorem dNB_oweExactly_12 : decode cNB_oweExactly 12 = .ok (.lload_n 2, 1) := by decide +kernel
theorem dNB_oweExactly_13 : decode cNB_oweExactly 13 = .ok (.lastore, 1) := by decide +kernel
theorem dNB_oweExactly_14 : decode cNB_oweExactly 14 = .ok (.return_, 1) := by decide +kernel
theorem dDB_greeting_0 : decode cDB_greeting 0 = .ok (.iload_n 1, 1) := by decide +kernel
theorem dDB_greeting_1 : decode cDB_greeting 1 = .ok (.invokestatic 41, 3) := by decide +kernel
theorem dDB_greeting_4 : decode cDB_greeting 4 = .ok (.aload_n 0, 1) := by decide +kernel
theorem dDB_greeting_5 : decode cDB_greeting 5 = .ok (.iload_n 2, 1) := by decide +kernel
theorem dDB_greeting_6 : decode cDB_greeting 6 = .ok (.invokevirtual 58, 3) := by decide +kernel
theorem dDB_greeting_9 : decode cDB_greeting 9 = .ok (.aload_n 0, 1) := by decide +kernel
theorem dDB_greeting_10 : decode cDB_greeting 10 = .ok (.iload_n 1, 1) := by decide +kernel
theorem dDB_greeting_11 : decode cDB_greeting 11 = .ok (.invokevirtual 61, 3) := by decide +kernel
theorem dDB_greeting_14 : decode cDB_greeting 14 = .ok (.aload_n 0, 1) := by decide +kernel
theorem dDB_greeting_15 : decode cDB_greeting 15 = .ok (.getfield 23, 3) := by decide +kernel
theorem dDB_greeting_18 : decode cDB_greeting 18 = .ok (.iload_n 1, 1) := by decide +kernel
theorem dDB_greeting_19 : decode cDB_greeting 19 = .ok (.iload_n 2, 1) := by decide +kernel
theorem dDB_greeting_20 : decode cDB_greeting 20 = .ok (.invokevirtual 64, 3) := by decide +kernel
theorem dDB_greeting_23 : decode cDB_greeting 23 = .ok (.istore 4, 2) := by decide +kernel
theorem dDB_greeting_25 : decode cDB_greeting 25 = .ok (.iload 4, 2) := by decide +kernel
theorem dDB_greeting_27 : decode cDB_greeting 27 = .ok (.iconst (-1), 1) := by decide +kernel
theorem dDB_greeting_28 : decode cDB_greeting 28 = .ok (.if_icmp .ne 5, 3) := by decide +kernel
theorem dDB_greeting_31 : decode cDB_greeting 31 = .ok (.iconst 0, 1) := by decide +kernel
theorem dDB_greeting_32 : decode cDB_greeting 32 = .ok (.ireturn, 1) := by decide +kernel
theorem dDB_greeting_33 : decode cDB_greeting 33 = .ok (.aload_n 0, 1) := by decide +kernel
theorem dDB_greeting_34 : decode cDB_greeting 34 = .ok (.getfield 23, 3) := by decide +kernel
theorem dDB_greeting_37 : decode cDB_greeting 37 = .ok (.iload 4, 2) := by decide +kernel
theorem dDB_greeting_39 : decode cDB_greeting 39 = .ok (.aload_n 0, 1) := by decide +kernel
theorem dDB_greeting_40 : decode cDB_greeting 40 = .ok (.getfield 68, 3) := by decide +kernel
theorem dDB_greeting_43 : decode cDB_greeting 43 = .ok (.iload_n 3, 1) := by decide +kernel
theorem dDB_greeting_44 : decode cDB_greeting 44 = .ok (.aload_n 0, 1) := by decide +kernel
theorem dDB_greeting_45 : decode cDB_greeting 45 = .ok (.getfield 16, 3) := by decide +kernel
theorem dDB_greeting_48 : decode cDB_greeting 48 = .ok (.invokevirtual 71, 3) := by decide +kernel
theorem dDB_greeting_51 : decode cDB_greeting 51 = .ok (.invokevirtual 75, 3) := by decide +kernel
theorem dDB_greeting_54 : decode cDB_greeting 54 = .ok (.ireturn, 1) := by decide +kernel
theorem dDB_requireSender_0 : decode cDB_requireSender 0 = .ok (.iload_n 1, 1) := by decide +kernel
theorem dDB_requireSender_1 : decode cDB_requireSender 1 = .ok (.invokestatic 178, 3) := by decide +kernel
theorem dDB_requireSender_4 : decode cDB_requireSender 4 = .ok (.ifCond .eq 11, 3) := by decide +kernel
theorem dDB_requireSender_7 : decode cDB_requireSender 7 = .ok (.iload_n 1, 1) := by decide +kernel
theorem dDB_requireSender_8 : decode cDB_requireSender 8 = .ok (.aload_n 0, 1) := by decide +kernel
theorem dDB_requireSender_9 : decode cDB_requireSender 9 = .ok (.getfield 9, 3) := by decide +kernel
theorem dDB_requireSender_12 : decode cDB_requireSender 12 = .ok (.if_icmp .ne 13, 3) := by decide +kernel
theorem dDB_requireSender_15 : decode cDB_requireSender 15 = .ok (.new 127, 3) := by decide +kernel
theorem dDB_requireSender_18 : decode cDB_requireSender 18 = .ok (.dup, 1) := by decide +kernel
theorem dDB_requireSender_19 : decode cDB_requireSender 19 = .ok (.ldc 188, 2) := by decide +kernel
theorem dDB_requireSender_21 : decode cDB_requireSender 21 = .ok (.invokespecial 131, 3) := by decide +kernel
theorem dDB_requireSender_24 : decode cDB_requireSender 24 = .ok (.athrow, 1) := by decide +kernel
theorem dDB_requireSender_25 : decode cDB_requireSender 25 = .ok (.return_, 1) := by decide +kernel
theorem dDB_isRouter_0 : decode cDB_isRouter 0 = .ok (.iload_n 0, 1) := by decide +kernel
theorem dDB_isRouter_1 : decode cDB_isRouter 1 = .ok (.ifCond .lt 13, 3) := by decide +kernel
theorem dDB_isRouter_4 : decode cDB_isRouter 4 = .ok (.iload_n 0, 1) := by decide +kernel
theorem dDB_isRouter_5 : decode cDB_isRouter 5 = .ok (.bipush 64, 2) := by decide +kernel
theorem dDB_isRouter_7 : decode cDB_isRouter 7 = .ok (.if_icmp .ge 7, 3) := by decide +kernel
theorem dDB_isRouter_10 : decode cDB_isRouter 10 = .ok (.iconst 1, 1) := by decide +kernel
theorem dDB_isRouter_11 : decode cDB_isRouter 11 = .ok (.goto 4, 3) := by decide +kernel
theorem dDB_isRouter_14 : decode cDB_isRouter 14 = .ok (.iconst 0, 1) := by decide +kernel
theorem dDB_isRouter_15 : decode cDB_isRouter 15 = .ok (.ireturn, 1) := by decide +kernel
theorem dDB_requireOn_0 : decode cDB_requireOn 0 = .ok (.aload_n 0, 1) := by decide +kernel
theorem dDB_requireOn_1 : decode cDB_requireOn 1 = .ok (.iload_n 1, 1) := by decide +kernel
theorem dDB_requireOn_2 : decode cDB_requireOn 2 = .ok (.invokevirtual 45, 3) := by decide +kernel
theorem dDB_requireOn_5 : decode cDB_requireOn 5 = .ok (.ifCond .ne 13, 3) := by decide +kernel
theorem dDB_requireOn_8 : decode cDB_requireOn 8 = .ok (.new 135, 3) := by decide +kernel
theorem dDB_requireOn_11 : decode cDB_requireOn 11 = .ok (.dup, 1) := by decide +kernel
theorem dDB_requireOn_12 : decode cDB_requireOn 12 = .ok (.ldc 190, 2) := by decide +kernel
theorem dDB_requireOn_14 : decode cDB_requireOn 14 = .ok (.invokespecial 139, 3) := by decide +kernel
theorem dDB_requireOn_17 : decode cDB_requireOn 17 = .ok (.athrow, 1) := by decide +kernel
theorem dDB_requireOn_18 : decode cDB_requireOn 18 = .ok (.return_, 1) := by decide +kernel
theorem dNB_placeFor_0 : decode cNB_placeFor 0 = .ok (.aload_n 0, 1) := by decide +kernel
theorem dNB_placeFor_1 : decode cNB_placeFor 1 = .ok (.iload_n 1, 1) := by decide +kernel
theorem dNB_placeFor_2 : decode cNB_placeFor 2 = .ok (.iload_n 2, 1) := by decide +kernel
theorem dNB_placeFor_3 : decode cNB_placeFor 3 = .ok (.invokevirtual 34, 3) := by decide +kernel
theorem dNB_placeFor_6 : decode cNB_placeFor 6 = .ok (.istore_n 3, 1) := by decide +kernel
theorem dNB_placeFor_7 : decode cNB_placeFor 7 = .ok (.iload_n 3, 1) := by decide +kernel
theorem dNB_placeFor_8 : decode cNB_placeFor 8 = .ok (.iconst (-1), 1) := by decide +kernel
theorem dNB_placeFor_9 : decode cNB_placeFor 9 = .ok (.if_icmp .eq 7, 3) := by decide +kernel
theorem dNB_placeFor_12 : decode cNB_placeFor 12 = .ok (.iload_n 3, 1) := by decide +kernel
theorem dNB_placeFor_13 : decode cNB_placeFor 13 = .ok (.goto 9, 3) := by decide +kernel
theorem dNB_placeFor_16 : decode cNB_placeFor 16 = .ok (.aload_n 0, 1) := by decide +kernel
theorem dNB_placeFor_17 : decode cNB_placeFor 17 = .ok (.iload_n 1, 1) := by decide +kernel
theorem dNB_placeFor_18 : decode cNB_placeFor 18 = .ok (.iload_n 2, 1) := by decide +kernel
theorem dNB_placeFor_19 : decode cNB_placeFor 19 = .ok (.invokevirtual 38, 3) := by decide +kernel
theorem dNB_placeFor_22 : decode cNB_placeFor 22 = .ok (.ireturn, 1) := by decide +kernel
theorem dNB_heardPlace_0 : decode cNB_heardPlace 0 = .ok (.iconst 0, 1) := by decide +kernel
theorem dNB_heardPlace_1 : decode cNB_heardPlace 1 = .ok (.istore_n 3, 1) := by decide +kernel
theorem dNB_heardPlace_2 : decode cNB_heardPlace 2 = .ok (.iload_n 3, 1) := by decide +kernel
theorem dNB_heardPlace_3 : decode cNB_heardPlace 3 = .ok (.bipush 16, 2) := by decide +kernel
theorem dNB_heardPlace_5 : decode cNB_heardPlace 5 = .ok (.if_icmp .ge 40, 3) := by decide +kernel
theorem dNB_heardPlace_8 : decode cNB_heardPlace 8 = .ok (.aload_n 0, 1) := by decide +kernel
theorem dNB_heardPlace_9 : decode cNB_heardPlace 9 = .ok (.getfield 9, 3) := by decide +kernel
theorem dNB_heardPlace_12 : decode cNB_heardPlace 12 = .ok (.iload_n 3, 1) := by decide +kernel
theorem dNB_heardPlace_13 : decode cNB_heardPlace 13 = .ok (.iaload, 1) := by decide +kernel
theorem dNB_heardPlace_14 : decode cNB_heardPlace 14 = .ok (.ifCond .eq 25, 3) := by decide +kernel
theorem dNB_heardPlace_17 : decode cNB_heardPlace 17 = .ok (.aload_n 0, 1) := by decide +kernel
theorem dNB_heardPlace_18 : decode cNB_heardPlace 18 = .ok (.getfield 15, 3) := by decide +kernel
theorem dNB_heardPlace_21 : decode cNB_heardPlace 21 = .ok (.iload_n 3, 1) := by decide +kernel
theorem dNB_heardPlace_22 : decode cNB_heardPlace 22 = .ok (.iaload, 1) := by decide +kernel
theorem dNB_heardPlace_23 : decode cNB_heardPlace 23 = .ok (.iload_n 1, 1) := by decide +kernel
theorem dNB_heardPlace_24 : decode cNB_heardPlace 24 = .ok (.if_icmp .ne 15, 3) := by decide +kernel
theorem dNB_heardPlace_27 : decode cNB_heardPlace 27 = .ok (.aload_n 0, 1) := by decide +kernel
theorem dNB_heardPlace_28 : decode cNB_heardPlace 28 = .ok (.getfield 18, 3) := by decide +kernel
theorem dNB_heardPlace_31 : decode cNB_heardPlace 31 = .ok (.iload_n 3, 1) := by decide +kernel
theorem dNB_heardPlace_32 : decode cNB_heardPlace 32 = .ok (.iaload, 1) := by decide +kernel
theorem dNB_heardPlace_33 : decode cNB_heardPlace 33 = .ok (.iload_n 2, 1) := by decide +kernel
theorem dNB_heardPlace_34 : decode cNB_heardPlace 34 = .ok (.if_icmp .ne 5, 3) := by decide +kernel
theorem dNB_heardPlace_37 : decode cNB_heardPlace 37 = .ok (.iload_n 3, 1) := by decide +kernel
theorem dNB_heardPlace_38 : decode cNB_heardPlace 38 = .ok (.ireturn, 1) := by decide +kernel
theorem dNB_heardPlace_39 : decode cNB_heardPlace 39 = .ok (.iinc 3 1, 3) := by decide +kernel
theorem dNB_heardPlace_42 : decode cNB_heardPlace 42 = .ok (.goto (-40), 3) := by decide +kernel
theorem dNB_heardPlace_45 : decode cNB_heardPlace 45 = .ok (.iconst (-1), 1) := by decide +kernel
theorem dNB_heardPlace_46 : decode cNB_heardPlace 46 = .ok (.ireturn, 1) := by decide +kernel
theorem dNB_takeFreePlace_0 : decode cNB_takeFreePlace 0 = .ok (.iconst 0, 1) := by decide +kernel
theorem dNB_takeFreePlace_1 : decode cNB_takeFreePlace 1 = .ok (.istore_n 3, 1) := by decide +kernel
theorem dNB_takeFreePlace_2 : decode cNB_takeFreePlace 2 = .ok (.iload_n 3, 1) := by decide +kernel
theorem dNB_takeFreePlace_3 : decode cNB_takeFreePlace 3 = .ok (.bipush 16, 2) := by decide +kernel
theorem dNB_takeFreePlace_5 : decode cNB_takeFreePlace 5 = .ok (.if_icmp .ge 41, 3) := by decide +kernel
theorem dNB_takeFreePlace_8 : decode cNB_takeFreePlace 8 = .ok (.aload_n 0, 1) := by decide +kernel
theorem dNB_takeFreePlace_9 : decode cNB_takeFreePlace 9 = .ok (.getfield 9, 3) := by decide +kernel
theorem dNB_takeFreePlace_12 : decode cNB_takeFreePlace 12 = .ok (.iload_n 3, 1) := by decide +kernel
theorem dNB_takeFreePlace_13 : decode cNB_takeFreePlace 13 = .ok (.iaload, 1) := by decide +kernel
theorem dNB_takeFreePlace_14 : decode cNB_takeFreePlace 14 = .ok (.ifCond .ne 26, 3) := by decide +kernel
theorem dNB_takeFreePlace_17 : decode cNB_takeFreePlace 17 = .ok (.aload_n 0, 1) := by decide +kernel
theorem dNB_takeFreePlace_18 : decode cNB_takeFreePlace 18 = .ok (.getfield 9, 3) := by decide +kernel
theorem dNB_takeFreePlace_21 : decode cNB_takeFreePlace 21 = .ok (.iload_n 3, 1) := by decide +kernel
theorem dNB_takeFreePlace_22 : decode cNB_takeFreePlace 22 = .ok (.iconst 1, 1) := by decide +kernel
theorem dNB_takeFreePlace_23 : decode cNB_takeFreePlace 23 = .ok (.iastore, 1) := by decide +kernel
theorem dNB_takeFreePlace_24 : decode cNB_takeFreePlace 24 = .ok (.aload_n 0, 1) := by decide +kernel
theorem dNB_takeFreePlace_25 : decode cNB_takeFreePlace 25 = .ok (.getfield 15, 3) := by decide +kernel
theorem dNB_takeFreePlace_28 : decode cNB_takeFreePlace 28 = .ok (.iload_n 3, 1) := by decide +kernel
theorem dNB_takeFreePlace_29 : decode cNB_takeFreePlace 29 = .ok (.iload_n 1, 1) := by decide +kernel
theorem dNB_takeFreePlace_30 : decode cNB_takeFreePlace 30 = .ok (.iastore, 1) := by decide +kernel
theorem dNB_takeFreePlace_31 : decode cNB_takeFreePlace 31 = .ok (.aload_n 0, 1) := by decide +kernel
theorem dNB_takeFreePlace_32 : decode cNB_takeFreePlace 32 = .ok (.getfield 18, 3) := by decide +kernel
theorem dNB_takeFreePlace_35 : decode cNB_takeFreePlace 35 = .ok (.iload_n 3, 1) := by decide +kernel
theorem dNB_takeFreePlace_36 : decode cNB_takeFreePlace 36 = .ok (.iload_n 2, 1) := by decide +kernel
theorem dNB_takeFreePlace_37 : decode cNB_takeFreePlace 37 = .ok (.iastore, 1) := by decide +kernel
theorem dNB_takeFreePlace_38 : decode cNB_takeFreePlace 38 = .ok (.iload_n 3, 1) := by decide +kernel
theorem dNB_takeFreePlace_39 : decode cNB_takeFreePlace 39 = .ok (.ireturn, 1) := by decide +kernel
theorem dNB_takeFreePlace_40 : decode cNB_takeFreePlace 40 = .ok (.iinc 3 1, 3) := by decide +kernel
theorem dNB_takeFreePlace_43 : decode cNB_takeFreePlace 43 = .ok (.goto (-41), 3) := by decide +kernel
theorem dNB_takeFreePlace_46 : decode cNB_takeFreePlace 46 = .ok (.iconst (-1), 1) := by decide +kernel
theorem dNB_takeFreePlace_47 : decode cNB_takeFreePlace 47 = .ok (.ireturn, 1) := by decide +kernel
theorem dAD_allOrigins_0 : decode cAD_allOrigins 0 = .ok (.lconst 0, 1) := by decide +kernel
theorem dAD_allOrigins_1 : decode cAD_allOrigins 1 = .ok (.lstore_n 1, 1) := by decide +kernel
theorem dAD_allOrigins_2 : decode cAD_allOrigins 2 = .ok (.iconst 0, 1) := by decide +kernel
theorem dAD_allOrigins_3 : decode cAD_allOrigins 3 = .ok (.istore_n 3, 1) := by decide +kernel
theorem dAD_allOrigins_4 : decode cAD_allOrigins 4 = .ok (.iload_n 3, 1) := by decide +kernel
theorem dAD_allOrigins_5 : decode cAD_allOrigins 5 = .ok (.bipush 64, 2) := by decide +kernel
theorem dAD_allOrigins_7 : decode cAD_allOrigins 7 = .ok (.if_icmp .ge 24, 3) := by decide +kernel
theorem dAD_allOrigins_10 : decode cAD_allOrigins 10 = .ok (.aload_n 0, 1) := by decide +kernel
theorem dAD_allOrigins_11 : decode cAD_allOrigins 11 = .ok (.getfield 9, 3) := by decide +kernel
theorem dAD_allOrigins_14 : decode cAD_allOrigins 14 = .ok (.iload_n 3, 1) := by decide +kernel
theorem dAD_allOrigins_15 : decode cAD_allOrigins 15 = .ok (.iaload, 1) := by decide +kernel
theorem dAD_allOrigins_16 : decode cAD_allOrigins 16 = .ok (.ifCond .eq 9, 3) := by decide +kernel
theorem dAD_allOrigins_19 : decode cAD_allOrigins 19 = .ok (.lload_n 1, 1) := by decide +kernel
theorem dAD_allOrigins_20 : decode cAD_allOrigins 20 = .ok (.lconst 1, 1) := by decide +kernel
theorem dAD_allOrigins_21 : decode cAD_allOrigins 21 = .ok (.iload_n 3, 1) := by decide +kernel
theorem dAD_allOrigins_22 : decode cAD_allOrigins 22 = .ok (.lshl, 1) := by decide +kernel
theorem dAD_allOrigins_23 : decode cAD_allOrigins 23 = .ok (.lor, 1) := by decide +kernel
theorem dAD_allOrigins_24 : decode cAD_allOrigins 24 = .ok (.lstore_n 1, 1) := by decide +kernel
theorem dAD_allOrigins_25 : decode cAD_allOrigins 25 = .ok (.iinc 3 1, 3) := by decide +kernel
theorem dAD_allOrigins_28 : decode cAD_allOrigins 28 = .ok (.goto (-24), 3) := by decide +kernel
theorem dAD_allOrigins_31 : decode cAD_allOrigins 31 = .ok (.lload_n 1, 1) := by decide +kernel
theorem dAD_allOrigins_32 : decode cAD_allOrigins 32 = .ok (.lreturn, 1) := by decide +kernel
theorem dNB_greeted_0 : decode cNB_greeted 0 = .ok (.aload_n 0, 1) := by decide +kernel
theorem dNB_greeted_1 : decode cNB_greeted 1 = .ok (.getfield 21, 3) := by decide +kernel
theorem dNB_greeted_4 : decode cNB_greeted 4 = .ok (.iload_n 1, 1) := by decide +kernel
theorem dNB_greeted_5 : decode cNB_greeted 5 = .ok (.iload_n 2, 1) := by decide +kernel
theorem dNB_greeted_6 : decode cNB_greeted 6 = .ok (.iastore, 1) := by decide +kernel
theorem dNB_greeted_7 : decode cNB_greeted 7 = .ok (.iload_n 3, 1) := by decide +kernel
theorem dNB_greeted_8 : decode cNB_greeted 8 = .ok (.ifCond .ne 19, 3) := by decide +kernel
theorem dNB_greeted_11 : decode cNB_greeted 11 = .ok (.aload_n 0, 1) := by decide +kernel
theorem dNB_greeted_12 : decode cNB_greeted 12 = .ok (.getfield 9, 3) := by decide +kernel
theorem dNB_greeted_15 : decode cNB_greeted 15 = .ok (.iload_n 1, 1) := by decide +kernel
theorem dNB_greeted_16 : decode cNB_greeted 16 = .ok (.iconst 1, 1) := by decide +kernel
theorem dNB_greeted_17 : decode cNB_greeted 17 = .ok (.iastore, 1) := by decide +kernel
theorem dNB_greeted_18 : decode cNB_greeted 18 = .ok (.aload_n 0, 1) := by decide +kernel
theorem dNB_greeted_19 : decode cNB_greeted 19 = .ok (.iload_n 1, 1) := by decide +kernel
theorem dNB_greeted_20 : decode cNB_greeted 20 = .ok (.lconst 0, 1) := by decide +kernel
theorem dNB_greeted_21 : decode cNB_greeted 21 = .ok (.invokevirtual 41, 3) := by decide +kernel
theorem dNB_greeted_24 : decode cNB_greeted 24 = .ok (.goto 27, 3) := by decide +kernel
theorem dNB_greeted_27 : decode cNB_greeted 27 = .ok (.aload_n 0, 1) := by decide +kernel
theorem dNB_greeted_28 : decode cNB_greeted 28 = .ok (.getfield 9, 3) := by decide +kernel
theorem dNB_greeted_31 : decode cNB_greeted 31 = .ok (.iload_n 1, 1) := by decide +kernel
theorem dNB_greeted_32 : decode cNB_greeted 32 = .ok (.iaload, 1) := by decide +kernel
theorem dNB_greeted_33 : decode cNB_greeted 33 = .ok (.iconst 2, 1) := by decide +kernel
theorem dNB_greeted_34 : decode cNB_greeted 34 = .ok (.if_icmp .eq 17, 3) := by decide +kernel
theorem dNB_greeted_37 : decode cNB_greeted 37 = .ok (.aload_n 0, 1) := by decide +kernel
theorem dNB_greeted_38 : decode cNB_greeted 38 = .ok (.getfield 9, 3) := by decide +kernel
theorem dNB_greeted_41 : decode cNB_greeted 41 = .ok (.iload_n 1, 1) := by decide +kernel
theorem dNB_greeted_42 : decode cNB_greeted 42 = .ok (.iconst 2, 1) := by decide +kernel
theorem dNB_greeted_43 : decode cNB_greeted 43 = .ok (.iastore, 1) := by decide +kernel
theorem dNB_greeted_44 : decode cNB_greeted 44 = .ok (.aload_n 0, 1) := by decide +kernel
theorem dNB_greeted_45 : decode cNB_greeted 45 = .ok (.iload_n 1, 1) := by decide +kernel
theorem dNB_greeted_46 : decode cNB_greeted 46 = .ok (.lload 4, 2) := by decide +kernel
theorem dNB_greeted_48 : decode cNB_greeted 48 = .ok (.invokevirtual 41, 3) := by decide +kernel
theorem dNB_greeted_51 : decode cNB_greeted 51 = .ok (.aload_n 0, 1) := by decide +kernel
theorem dNB_greeted_52 : decode cNB_greeted 52 = .ok (.getfield 9, 3) := by decide +kernel
theorem dNB_greeted_55 : decode cNB_greeted 55 = .ok (.iload_n 1, 1) := by decide +kernel
theorem dNB_greeted_56 : decode cNB_greeted 56 = .ok (.iaload, 1) := by decide +kernel
theorem dNB_greeted_57 : decode cNB_greeted 57 = .ok (.ireturn, 1) := by decide +kernel
theorem dDB_advert_0 : decode cDB_advert 0 = .ok (.aload_n 0, 1) := by decide +kernel
theorem dDB_advert_1 : decode cDB_advert 1 = .ok (.iload_n 1, 1) := by decide +kernel
theorem dDB_advert_2 : decode cDB_advert 2 = .ok (.iload_n 2, 1) := by decide +kernel
theorem dDB_advert_3 : decode cDB_advert 3 = .ok (.iload_n 3, 1) := by decide +kernel
theorem dDB_advert_4 : decode cDB_advert 4 = .ok (.iload 4, 2) := by decide +kernel
theorem dDB_advert_6 : decode cDB_advert 6 = .ok (.invokevirtual 79, 3) := by decide +kernel
theorem dDB_advert_9 : decode cDB_advert 9 = .ok (.aload_n 0, 1) := by decide +kernel
theorem dDB_advert_10 : decode cDB_advert 10 = .ok (.getfield 23, 3) := by decide +kernel
theorem dDB_advert_13 : decode cDB_advert 13 = .ok (.iload_n 1, 1) := by decide +kernel
theorem dDB_advert_14 : decode cDB_advert 14 = .ok (.iload_n 2, 1) := by decide +kernel
theorem dDB_advert_15 : decode cDB_advert 15 = .ok (.invokevirtual 83, 3) := by decide +kernel
theorem dDB_advert_18 : decode cDB_advert 18 = .ok (.istore 6, 2) := by decide +kernel
theorem dDB_advert_20 : decode cDB_advert 20 = .ok (.iload 6, 2) := by decide +kernel
theorem dDB_advert_22 : decode cDB_advert 22 = .ok (.iconst (-1), 1) := by decide +kernel
theorem dDB_advert_23 : decode cDB_advert 23 = .ok (.if_icmp .ne 5, 3) := by decide +kernel
theorem dDB_advert_26 : decode cDB_advert 26 = .ok (.iconst (-1), 1) := by decide +kernel
theorem dDB_advert_27 : decode cDB_advert 27 = .ok (.ireturn, 1) := by decide +kernel
theorem dDB_advert_28 : decode cDB_advert 28 = .ok (.aload_n 0, 1) := by decide +kernel
theorem dDB_advert_29 : decode cDB_advert 29 = .ok (.getfield 30, 3) := by decide +kernel
theorem dDB_advert_32 : decode cDB_advert 32 = .ok (.iload_n 1, 1) := by decide +kernel
theorem dDB_advert_33 : decode cDB_advert 33 = .ok (.iload_n 2, 1) := by decide +kernel
theorem dDB_advert_34 : decode cDB_advert 34 = .ok (.iload_n 3, 1) := by decide +kernel
theorem dDB_advert_35 : decode cDB_advert 35 = .ok (.iload 4, 2) := by decide +kernel
theorem dDB_advert_37 : decode cDB_advert 37 = .ok (.invokevirtual 86, 3) := by decide +kernel
theorem dDB_advert_40 : decode cDB_advert 40 = .ok (.iload 4, 2) := by decide +kernel
theorem dDB_advert_42 : decode cDB_advert 42 = .ok (.aload_n 0, 1) := by decide +kernel
theorem dDB_advert_43 : decode cDB_advert 43 = .ok (.getfield 16, 3) := by decide +kernel
theorem dDB_advert_46 : decode cDB_advert 46 = .ok (.iload_n 3, 1) := by decide +kernel
theorem dDB_advert_47 : decode cDB_advert 47 = .ok (.invokevirtual 89, 3) := by decide +kernel
theorem dDB_advert_50 : decode cDB_advert 50 = .ok (.if_icmp .lt 14, 3) := by decide +kernel
theorem dDB_advert_53 : decode cDB_advert 53 = .ok (.aload_n 0, 1) := by decide +kernel
theorem dDB_advert_54 : decode cDB_advert 54 = .ok (.getfield 23, 3) := by decide +kernel
theorem dDB_advert_57 : decode cDB_advert 57 = .ok (.iload 6, 2) := by decide +kernel
theorem dDB_advert_59 : decode cDB_advert 59 = .ok (.iload_n 3, 1) := by decide +kernel
theorem dDB_advert_60 : decode cDB_advert 60 = .ok (.invokevirtual 93, 3) := by decide +kernel
theorem dDB_advert_63 : decode cDB_advert 63 = .ok (.pop, 1) := by decide +kernel
theorem dDB_advert_64 : decode cDB_advert 64 = .ok (.iload_n 3, 1) := by decide +kernel
theorem dDB_advert_65 : decode cDB_advert 65 = .ok (.aload_n 0, 1) := by decide +kernel
theorem dDB_advert_66 : decode cDB_advert 66 = .ok (.getfield 9, 3) := by decide +kernel
theorem dDB_advert_69 : decode cDB_advert 69 = .ok (.if_icmp .ne 12, 3) := by decide +kernel
theorem dDB_advert_72 : decode cDB_advert 72 = .ok (.aload_n 0, 1) := by decide +kernel
theorem dDB_advert_73 : decode cDB_advert 73 = .ok (.iload 6, 2) := by decide +kernel
theorem dDB_advert_75 : decode cDB_advert 75 = .ok (.iload 4, 2) := by decide +kernel
theorem dDB_advert_77 : decode cDB_advert 77 = .ok (.invokevirtual 97, 3) := by decide +kernel
theorem dDB_advert_80 : decode cDB_advert 80 = .ok (.ireturn, 1) := by decide +kernel
theorem dDB_advert_81 : decode cDB_advert 81 = .ok (.aload_n 0, 1) := by decide +kernel
theorem dDB_advert_82 : decode cDB_advert 82 = .ok (.iload 6, 2) := by decide +kernel
theorem dDB_advert_84 : decode cDB_advert 84 = .ok (.iload_n 3, 1) := by decide +kernel
theorem dDB_advert_85 : decode cDB_advert 85 = .ok (.iload 4, 2) := by decide +kernel
theorem dDB_advert_87 : decode cDB_advert 87 = .ok (.iload 5, 2) := by decide +kernel
theorem dDB_advert_89 : decode cDB_advert 89 = .ok (.invokevirtual 100, 3) := by decide +kernel
theorem dDB_advert_92 : decode cDB_advert 92 = .ok (.ireturn, 1) := by decide +kernel
theorem dDB_requireLegal_0 : decode cDB_requireLegal 0 = .ok (.iload_n 1, 1) := by decide +kernel
theorem dDB_requireLegal_1 : decode cDB_requireLegal 1 = .ok (.invokestatic 41, 3) := by decide +kernel
theorem dDB_requireLegal_4 : decode cDB_requireLegal 4 = .ok (.aload_n 0, 1) := by decide +kernel
theorem dDB_requireLegal_5 : decode cDB_requireLegal 5 = .ok (.iload_n 2, 1) := by decide +kernel
theorem dDB_requireLegal_6 : decode cDB_requireLegal 6 = .ok (.invokevirtual 58, 3) := by decide +kernel
theorem dDB_requireLegal_9 : decode cDB_requireLegal 9 = .ok (.iload_n 3, 1) := by decide +kernel
theorem dDB_requireLegal_10 : decode cDB_requireLegal 10 = .ok (.invokestatic 115, 3) := by decide +kernel
theorem dDB_requireLegal_13 : decode cDB_requireLegal 13 = .ok (.iload 4, 2) := by decide +kernel
theorem dDB_requireLegal_15 : decode cDB_requireLegal 15 = .ok (.invokestatic 192, 3) := by decide +kernel
theorem dDB_requireLegal_18 : decode cDB_requireLegal 18 = .ok (.aload_n 0, 1) := by decide +kernel
theorem dDB_requireLegal_19 : decode cDB_requireLegal 19 = .ok (.iload_n 1, 1) := by decide +kernel
theorem dDB_requireLegal_20 : decode cDB_requireLegal 20 = .ok (.invokevirtual 61, 3) := by decide +kernel
theorem dDB_requireLegal_23 : decode cDB_requireLegal 23 = .ok (.return_, 1) := by decide +kernel
theorem dDB_requireRouter_0 : decode cDB_requireRouter 0 = .ok (.iload_n 0, 1) := by decide +kernel
theorem dDB_requireRouter_1 : decode cDB_requireRouter 1 = .ok (.invokestatic 178, 3) := by decide +kernel
theorem dDB_requireRouter_4 : decode cDB_requireRouter 4 = .ok (.ifCond .ne 13, 3) := by decide +kernel
theorem dDB_requireRouter_7 : decode cDB_requireRouter 7 = .ok (.new 127, 3) := by decide +kernel
theorem dDB_requireRouter_10 : decode cDB_requireRouter 10 = .ok (.dup, 1) := by decide +kernel
theorem dDB_requireRouter_11 : decode cDB_requireRouter 11 = .ok (.ldc 181, 2) := by decide +kernel
theorem dDB_requireRouter_13 : decode cDB_requireRouter 13 = .ok (.invokespecial 131, 3) := by decide +kernel
theorem dDB_requireRouter_16 : decode cDB_requireRouter 16 = .ok (.athrow, 1) := by decide +kernel
theorem dDB_requireRouter_17 : decode cDB_requireRouter 17 = .ok (.return_, 1) := by decide +kernel
theorem dDB_requireNumber_0 : decode cDB_requireNumber 0 = .ok (.iload_n 0, 1) := by decide +kernel
theorem dDB_requireNumber_1 : decode cDB_requireNumber 1 = .ok (.iconst 1, 1) := by decide +kernel
theorem dDB_requireNumber_2 : decode cDB_requireNumber 2 = .ok (.if_icmp .lt 9, 3) := by decide +kernel
theorem dDB_requireNumber_5 : decode cDB_requireNumber 5 = .ok (.iload_n 0, 1) := by decide +kernel
theorem dDB_requireNumber_6 : decode cDB_requireNumber 6 = .ok (.ldc 185, 2) := by decide +kernel
theorem dDB_requireNumber_8 : decode cDB_requireNumber 8 = .ok (.if_icmp .le 13, 3) := by decide +kernel
theorem dDB_requireNumber_11 : decode cDB_requireNumber 11 = .ok (.new 127, 3) := by decide +kernel
theorem dDB_requireNumber_14 : decode cDB_requireNumber 14 = .ok (.dup, 1) := by decide +kernel
theorem dDB_requireNumber_15 : decode cDB_requireNumber 15 = .ok (.ldc 186, 2) := by decide +kernel
theorem dDB_requireNumber_17 : decode cDB_requireNumber 17 = .ok (.invokespecial 131, 3) := by decide +kernel
theorem dDB_requireNumber_20 : decode cDB_requireNumber 20 = .ok (.athrow, 1) := by decide +kernel
theorem dDB_requireNumber_21 : decode cDB_requireNumber 21 = .ok (.return_, 1) := by decide +kernel
theorem dNB_friendPlace_0 : decode cNB_friendPlace 0 = .ok (.aload_n 0, 1) := by decide +kernel
theorem dNB_friendPlace_1 : decode cNB_friendPlace 1 = .ok (.iload_n 1, 1) := by decide +kernel
theorem dNB_friendPlace_2 : decode cNB_friendPlace 2 = .ok (.iload_n 2, 1) := by decide +kernel
theorem dNB_friendPlace_3 : decode cNB_friendPlace 3 = .ok (.invokevirtual 34, 3) := by decide +kernel
theorem dNB_friendPlace_6 : decode cNB_friendPlace 6 = .ok (.istore_n 3, 1) := by decide +kernel
theorem dNB_friendPlace_7 : decode cNB_friendPlace 7 = .ok (.iload_n 3, 1) := by decide +kernel
theorem dNB_friendPlace_8 : decode cNB_friendPlace 8 = .ok (.iconst (-1), 1) := by decide +kernel
theorem dNB_friendPlace_9 : decode cNB_friendPlace 9 = .ok (.if_icmp .eq 17, 3) := by decide +kernel
theorem dNB_friendPlace_12 : decode cNB_friendPlace 12 = .ok (.aload_n 0, 1) := by decide +kernel
theorem dNB_friendPlace_13 : decode cNB_friendPlace 13 = .ok (.getfield 9, 3) := by decide +kernel
theorem dNB_friendPlace_16 : decode cNB_friendPlace 16 = .ok (.iload_n 3, 1) := by decide +kernel
theorem dNB_friendPlace_17 : decode cNB_friendPlace 17 = .ok (.iaload, 1) := by decide +kernel
theorem dNB_friendPlace_18 : decode cNB_friendPlace 18 = .ok (.iconst 2, 1) := by decide +kernel
theorem dNB_friendPlace_19 : decode cNB_friendPlace 19 = .ok (.if_icmp .ne 7, 3) := by decide +kernel
theorem dNB_friendPlace_22 : decode cNB_friendPlace 22 = .ok (.iload_n 3, 1) := by decide +kernel
theorem dNB_friendPlace_23 : decode cNB_friendPlace 23 = .ok (.goto 4, 3) := by decide +kernel
theorem dNB_friendPlace_26 : decode cNB_friendPlace 26 = .ok (.iconst (-1), 1) := by decide +kernel
theorem dNB_friendPlace_27 : decode cNB_friendPlace 27 = .ok (.ireturn, 1) := by decide +kernel
theorem dTQ_add_0 : decode cTQ_add 0 = .ok (.aload_n 0, 1) := by decide +kernel
theorem dTQ_add_1 : decode cTQ_add 1 = .ok (.getfield 24, 3) := by decide +kernel
theorem dTQ_add_4 : decode cTQ_add 4 = .ok (.bipush 64, 2) := by decide +kernel
theorem dTQ_add_6 : decode cTQ_add 6 = .ok (.if_icmp .lt 4, 3) := by decide +kernel
theorem dTQ_add_9 : decode cTQ_add 9 = .ok (.return_, 1) := by decide +kernel
theorem dTQ_add_10 : decode cTQ_add 10 = .ok (.aload_n 0, 1) := by decide +kernel
theorem dTQ_add_11 : decode cTQ_add 11 = .ok (.getfield 28, 3) := by decide +kernel
theorem dTQ_add_14 : decode cTQ_add 14 = .ok (.aload_n 0, 1) := by decide +kernel
theorem dTQ_add_15 : decode cTQ_add 15 = .ok (.getfield 24, 3) := by decide +kernel
theorem dTQ_add_18 : decode cTQ_add 18 = .ok (.iadd, 1) := by decide +kernel
theorem dTQ_add_19 : decode cTQ_add 19 = .ok (.bipush 64, 2) := by decide +kernel
theorem dTQ_add_21 : decode cTQ_add 21 = .ok (.irem, 1) := by decide +kernel
theorem dTQ_add_22 : decode cTQ_add 22 = .ok (.istore 5, 2) := by decide +kernel
theorem dTQ_add_24 : decode cTQ_add 24 = .ok (.aload_n 0, 1) := by decide +kernel
theorem dTQ_add_25 : decode cTQ_add 25 = .ok (.getfield 9, 3) := by decide +kernel
theorem dTQ_add_28 : decode cTQ_add 28 = .ok (.iload 5, 2) := by decide +kernel
theorem dTQ_add_30 : decode cTQ_add 30 = .ok (.iload_n 1, 1) := by decide +kernel
theorem dTQ_add_31 : decode cTQ_add 31 = .ok (.iastore, 1) := by decide +kernel
theorem dTQ_add_32 : decode cTQ_add 32 = .ok (.aload_n 0, 1) := by decide +kernel
theorem dTQ_add_33 : decode cTQ_add 33 = .ok (.getfield 15, 3) := by decide +kernel
theorem dTQ_add_36 : decode cTQ_add 36 = .ok (.iload 5, 2) := by decide +kernel
theorem dTQ_add_38 : decode cTQ_add 38 = .ok (.iload_n 2, 1) := by decide +kernel
theorem dTQ_add_39 : decode cTQ_add 39 = .ok (.iastore, 1) := by decide +kernel
theorem dTQ_add_40 : decode cTQ_add 40 = .ok (.aload_n 0, 1) := by decide +kernel
theorem dTQ_add_41 : decode cTQ_add 41 = .ok (.getfield 18, 3) := by decide +kernel
theorem dTQ_add_44 : decode cTQ_add 44 = .ok (.iload 5, 2) := by decide +kernel
theorem dTQ_add_46 : decode cTQ_add 46 = .ok (.iload_n 3, 1) := by decide +kernel
theorem dTQ_add_47 : decode cTQ_add 47 = .ok (.iastore, 1) := by decide +kernel
theorem dTQ_add_48 : decode cTQ_add 48 = .ok (.aload_n 0, 1) := by decide +kernel
theorem dTQ_add_49 : decode cTQ_add 49 = .ok (.getfield 21, 3) := by decide +kernel
theorem dTQ_add_52 : decode cTQ_add 52 = .ok (.iload 5, 2) := by decide +kernel
theorem dTQ_add_54 : decode cTQ_add 54 = .ok (.iload 4, 2) := by decide +kernel
theorem dTQ_add_56 : decode cTQ_add 56 = .ok (.iastore, 1) := by decide +kernel
theorem dTQ_add_57 : decode cTQ_add 57 = .ok (.aload_n 0, 1) := by decide +kernel
theorem dTQ_add_58 : decode cTQ_add 58 = .ok (.dup, 1) := by decide +kernel
theorem dTQ_add_59 : decode cTQ_add 59 = .ok (.getfield 24, 3) := by decide +kernel
theorem dTQ_add_62 : decode cTQ_add 62 = .ok (.iconst 1, 1) := by decide +kernel
theorem dTQ_add_63 : decode cTQ_add 63 = .ok (.iadd, 1) := by decide +kernel
theorem dTQ_add_64 : decode cTQ_add 64 = .ok (.putfield 24, 3) := by decide +kernel
theorem dTQ_add_67 : decode cTQ_add 67 = .ok (.return_, 1) := by decide +kernel
theorem dNB_settle_0 : decode cNB_settle 0 = .ok (.lconst 1, 1) := by decide +kernel
theorem dNB_settle_1 : decode cNB_settle 1 = .ok (.iload_n 2, 1) := by decide +kernel
theorem dNB_settle_2 : decode cNB_settle 2 = .ok (.lshl, 1) := by decide +kernel
theorem dNB_settle_3 : decode cNB_settle 3 = .ok (.lstore_n 3, 1) := by decide +kernel
theorem dNB_settle_4 : decode cNB_settle 4 = .ok (.aload_n 0, 1) := by decide +kernel
theorem dNB_settle_5 : decode cNB_settle 5 = .ok (.getfield 24, 3) := by decide +kernel
theorem dNB_settle_8 : decode cNB_settle 8 = .ok (.iload_n 1, 1) := by decide +kernel
theorem dNB_settle_9 : decode cNB_settle 9 = .ok (.laload, 1) := by decide +kernel
theorem dNB_settle_10 : decode cNB_settle 10 = .ok (.lload_n 3, 1) := by decide +kernel
theorem dNB_settle_11 : decode cNB_settle 11 = .ok (.land, 1) := by decide +kernel
theorem dNB_settle_12 : decode cNB_settle 12 = .ok (.lconst 0, 1) := by decide +kernel
theorem dNB_settle_13 : decode cNB_settle 13 = .ok (.lcmp, 1) := by decide +kernel
theorem dNB_settle_14 : decode cNB_settle 14 = .ok (.ifCond .eq 7, 3) := by decide +kernel
theorem dNB_settle_17 : decode cNB_settle 17 = .ok (.iconst 1, 1) := by decide +kernel
theorem dNB_settle_18 : decode cNB_settle 18 = .ok (.goto 4, 3) := by decide +kernel
theorem dNB_settle_21 : decode cNB_settle 21 = .ok (.iconst 0, 1) := by decide +kernel
theorem dNB_settle_22 : decode cNB_settle 22 = .ok (.istore 5, 2) := by decide +kernel
theorem dNB_settle_24 : decode cNB_settle 24 = .ok (.aload_n 0, 1) := by decide +kernel
theorem dNB_settle_25 : decode cNB_settle 25 = .ok (.getfield 24, 3) := by decide +kernel
theorem dNB_settle_28 : decode cNB_settle 28 = .ok (.iload_n 1, 1) := by decide +kernel
theorem dNB_settle_29 : decode cNB_settle 29 = .ok (.dup2, 1) := by decide +kernel
theorem dNB_settle_30 : decode cNB_settle 30 = .ok (.laload, 1) := by decide +kernel
theorem dNB_settle_31 : decode cNB_settle 31 = .ok (.lload_n 3, 1) := by decide +kernel
theorem dNB_settle_32 : decode cNB_settle 32 = .ok (.ldc2_w 53, 3) := by decide +kernel
theorem dNB_settle_35 : decode cNB_settle 35 = .ok (.lxor, 1) := by decide +kernel
theorem dNB_settle_36 : decode cNB_settle 36 = .ok (.land, 1) := by decide +kernel
theorem dNB_settle_37 : decode cNB_settle 37 = .ok (.lastore, 1) := by decide +kernel
theorem dNB_settle_38 : decode cNB_settle 38 = .ok (.aload_n 0, 1) := by decide +kernel
theorem dNB_settle_39 : decode cNB_settle 39 = .ok (.getfield 28, 3) := by decide +kernel
theorem dNB_settle_42 : decode cNB_settle 42 = .ok (.iload_n 1, 1) := by decide +kernel
theorem dNB_settle_43 : decode cNB_settle 43 = .ok (.dup2, 1) := by decide +kernel
theorem dNB_settle_44 : decode cNB_settle 44 = .ok (.laload, 1) := by decide +kernel
theorem dNB_settle_45 : decode cNB_settle 45 = .ok (.lload_n 3, 1) := by decide +kernel
theorem dNB_settle_46 : decode cNB_settle 46 = .ok (.ldc2_w 53, 3) := by decide +kernel
theorem dNB_settle_49 : decode cNB_settle 49 = .ok (.lxor, 1) := by decide +kernel
theorem dNB_settle_50 : decode cNB_settle 50 = .ok (.land, 1) := by decide +kernel
theorem dNB_settle_51 : decode cNB_settle 51 = .ok (.lastore, 1) := by decide +kernel
theorem dNB_settle_52 : decode cNB_settle 52 = .ok (.iload 5, 2) := by decide +kernel
theorem dNB_settle_54 : decode cNB_settle 54 = .ok (.ireturn, 1) := by decide +kernel
theorem dDB_takeOwnBack_0 : decode cDB_takeOwnBack 0 = .ok (.iload_n 2, 1) := by decide +kernel
theorem dDB_takeOwnBack_1 : decode cDB_takeOwnBack 1 = .ok (.aload_n 0, 1) := by decide +kernel
theorem dDB_takeOwnBack_2 : decode cDB_takeOwnBack 2 = .ok (.getfield 104, 3) := by decide +kernel
theorem dDB_takeOwnBack_5 : decode cDB_takeOwnBack 5 = .ok (.if_icmp .le 10, 3) := by decide +kernel
theorem dDB_takeOwnBack_8 : decode cDB_takeOwnBack 8 = .ok (.aload_n 0, 1) := by decide +kernel
theorem dDB_takeOwnBack_9 : decode cDB_takeOwnBack 9 = .ok (.iload_n 2, 1) := by decide +kernel
theorem dDB_takeOwnBack_10 : decode cDB_takeOwnBack 10 = .ok (.putfield 104, 3) := by decide +kernel
theorem dDB_takeOwnBack_13 : decode cDB_takeOwnBack 13 = .ok (.iconst 3, 1) := by decide +kernel
theorem dDB_takeOwnBack_14 : decode cDB_takeOwnBack 14 = .ok (.ireturn, 1) := by decide +kernel
theorem dDB_takeOwnBack_15 : decode cDB_takeOwnBack 15 = .ok (.aload_n 0, 1) := by decide +kernel
theorem dDB_takeOwnBack_16 : decode cDB_takeOwnBack 16 = .ok (.getfield 16, 3) := by decide +kernel
theorem dDB_takeOwnBack_19 : decode cDB_takeOwnBack 19 = .ok (.aload_n 0, 1) := by decide +kernel
theorem dDB_takeOwnBack_20 : decode cDB_takeOwnBack 20 = .ok (.getfield 9, 3) := by decide +kernel
theorem dDB_takeOwnBack_23 : decode cDB_takeOwnBack 23 = .ok (.invokevirtual 89, 3) := by decide +kernel
theorem dDB_takeOwnBack_26 : decode cDB_takeOwnBack 26 = .ok (.iload_n 2, 1) := by decide +kernel
theorem dDB_takeOwnBack_27 : decode cDB_takeOwnBack 27 = .ok (.if_icmp .le 17, 3) := by decide +kernel
theorem dDB_takeOwnBack_30 : decode cDB_takeOwnBack 30 = .ok (.aload_n 0, 1) := by decide +kernel
theorem dDB_takeOwnBack_31 : decode cDB_takeOwnBack 31 = .ok (.getfield 23, 3) := by decide +kernel
theorem dDB_takeOwnBack_34 : decode cDB_takeOwnBack 34 = .ok (.iload_n 1, 1) := by decide +kernel
theorem dDB_takeOwnBack_35 : decode cDB_takeOwnBack 35 = .ok (.aload_n 0, 1) := by decide +kernel
theorem dDB_takeOwnBack_36 : decode cDB_takeOwnBack 36 = .ok (.getfield 9, 3) := by decide +kernel
theorem dDB_takeOwnBack_39 : decode cDB_takeOwnBack 39 = .ok (.invokevirtual 195, 3) := by decide +kernel
theorem dDB_takeOwnBack_42 : decode cDB_takeOwnBack 42 = .ok (.iconst 2, 1) := by decide +kernel
theorem dDB_takeOwnBack_43 : decode cDB_takeOwnBack 43 = .ok (.ireturn, 1) := by decide +kernel
theorem dDB_takeOwnBack_44 : decode cDB_takeOwnBack 44 = .ok (.iconst 1, 1) := by decide +kernel
theorem dDB_takeOwnBack_45 : decode cDB_takeOwnBack 45 = .ok (.ireturn, 1) := by decide +kernel
theorem dDB_takeAdvert_0 : decode cDB_takeAdvert 0 = .ok (.aload_n 0, 1) := by decide +kernel
theorem dDB_takeAdvert_1 : decode cDB_takeAdvert 1 = .ok (.getfield 16, 3) := by decide +kernel
theorem dDB_takeAdvert_4 : decode cDB_takeAdvert 4 = .ok (.iload_n 2, 1) := by decide +kernel
theorem dDB_takeAdvert_5 : decode cDB_takeAdvert 5 = .ok (.invokevirtual 89, 3) := by decide +kernel
theorem dDB_takeAdvert_8 : decode cDB_takeAdvert 8 = .ok (.istore 5, 2) := by decide +kernel
theorem dDB_takeAdvert_10 : decode cDB_takeAdvert 10 = .ok (.iload_n 3, 1) := by decide +kernel
theorem dDB_takeAdvert_11 : decode cDB_takeAdvert 11 = .ok (.iload 5, 2) := by decide +kernel
theorem dDB_takeAdvert_13 : decode cDB_takeAdvert 13 = .ok (.if_icmp .le 25, 3) := by decide +kernel
theorem dDB_takeAdvert_16 : decode cDB_takeAdvert 16 = .ok (.aload_n 0, 1) := by decide +kernel
theorem dDB_takeAdvert_17 : decode cDB_takeAdvert 17 = .ok (.getfield 16, 3) := by decide +kernel
theorem dDB_takeAdvert_20 : decode cDB_takeAdvert 20 = .ok (.iload_n 2, 1) := by decide +kernel
theorem dDB_takeAdvert_21 : decode cDB_takeAdvert 21 = .ok (.iload_n 3, 1) := by decide +kernel
theorem dDB_takeAdvert_22 : decode cDB_takeAdvert 22 = .ok (.iload 4, 2) := by decide +kernel
theorem dDB_takeAdvert_24 : decode cDB_takeAdvert 24 = .ok (.invokevirtual 107, 3) := by decide +kernel
theorem dDB_takeAdvert_27 : decode cDB_takeAdvert 27 = .ok (.aload_n 0, 1) := by decide +kernel
theorem dDB_takeAdvert_28 : decode cDB_takeAdvert 28 = .ok (.getfield 23, 3) := by decide +kernel
theorem dDB_takeAdvert_31 : decode cDB_takeAdvert 31 = .ok (.iload_n 1, 1) := by decide +kernel
theorem dDB_takeAdvert_32 : decode cDB_takeAdvert 32 = .ok (.iload_n 2, 1) := by decide +kernel
theorem dDB_takeAdvert_33 : decode cDB_takeAdvert 33 = .ok (.invokevirtual 111, 3) := by decide +kernel
theorem dDB_takeAdvert_36 : decode cDB_takeAdvert 36 = .ok (.iconst 0, 1) := by decide +kernel
theorem dDB_takeAdvert_37 : decode cDB_takeAdvert 37 = .ok (.ireturn, 1) := by decide +kernel
theorem dDB_takeAdvert_38 : decode cDB_takeAdvert 38 = .ok (.iload_n 3, 1) := by decide +kernel
theorem dDB_takeAdvert_39 : decode cDB_takeAdvert 39 = .ok (.iload 5, 2) := by decide +kernel
theorem dDB_takeAdvert_41 : decode cDB_takeAdvert 41 = .ok (.if_icmp .ne 5, 3) := by decide +kernel
theorem dDB_takeAdvert_44 : decode cDB_takeAdvert 44 = .ok (.iconst 1, 1) := by decide +kernel
theorem dDB_takeAdvert_45 : decode cDB_takeAdvert 45 = .ok (.ireturn, 1) := by decide +kernel
theorem dDB_takeAdvert_46 : decode cDB_takeAdvert 46 = .ok (.aload_n 0, 1) := by decide +kernel
theorem dDB_takeAdvert_47 : decode cDB_takeAdvert 47 = .ok (.getfield 23, 3) := by decide +kernel
theorem dDB_takeAdvert_50 : decode cDB_takeAdvert 50 = .ok (.iload_n 1, 1) := by decide +kernel
theorem dDB_takeAdvert_51 : decode cDB_takeAdvert 51 = .ok (.iload_n 2, 1) := by decide +kernel
theorem dDB_takeAdvert_52 : decode cDB_takeAdvert 52 = .ok (.invokevirtual 195, 3) := by decide +kernel
theorem dDB_takeAdvert_55 : decode cDB_takeAdvert 55 = .ok (.iconst 2, 1) := by decide +kernel
theorem dDB_takeAdvert_56 : decode cDB_takeAdvert 56 = .ok (.ireturn, 1) := by decide +kernel
theorem dDB_thanks_0 : decode cDB_thanks 0 = .ok (.aload_n 0, 1) := by decide +kernel
theorem dDB_thanks_1 : decode cDB_thanks 1 = .ok (.iload_n 1, 1) := by decide +kernel
theorem dDB_thanks_2 : decode cDB_thanks 2 = .ok (.iload_n 2, 1) := by decide +kernel
theorem dDB_thanks_3 : decode cDB_thanks 3 = .ok (.iload_n 3, 1) := by decide +kernel
theorem dDB_thanks_4 : decode cDB_thanks 4 = .ok (.iload 4, 2) := by decide +kernel
theorem dDB_thanks_6 : decode cDB_thanks 6 = .ok (.invokevirtual 79, 3) := by decide +kernel
theorem dDB_thanks_9 : decode cDB_thanks 9 = .ok (.aload_n 0, 1) := by decide +kernel
theorem dDB_thanks_10 : decode cDB_thanks 10 = .ok (.getfield 23, 3) := by decide +kernel
theorem dDB_thanks_13 : decode cDB_thanks 13 = .ok (.iload_n 1, 1) := by decide +kernel
theorem dDB_thanks_14 : decode cDB_thanks 14 = .ok (.iload_n 2, 1) := by decide +kernel
theorem dDB_thanks_15 : decode cDB_thanks 15 = .ok (.invokevirtual 83, 3) := by decide +kernel
theorem dDB_thanks_18 : decode cDB_thanks 18 = .ok (.istore 5, 2) := by decide +kernel
theorem dDB_thanks_20 : decode cDB_thanks 20 = .ok (.iload 5, 2) := by decide +kernel
theorem dDB_thanks_22 : decode cDB_thanks 22 = .ok (.iconst (-1), 1) := by decide +kernel
theorem dDB_thanks_23 : decode cDB_thanks 23 = .ok (.if_icmp .eq 16, 3) := by decide +kernel
theorem dDB_thanks_26 : decode cDB_thanks 26 = .ok (.iload 4, 2) := by decide +kernel
theorem dDB_thanks_28 : decode cDB_thanks 28 = .ok (.aload_n 0, 1) := by decide +kernel
theorem dDB_thanks_29 : decode cDB_thanks 29 = .ok (.getfield 16, 3) := by decide +kernel
theorem dDB_thanks_32 : decode cDB_thanks 32 = .ok (.iload_n 3, 1) := by decide +kernel
theorem dDB_thanks_33 : decode cDB_thanks 33 = .ok (.invokevirtual 89, 3) := by decide +kernel
theorem dDB_thanks_36 : decode cDB_thanks 36 = .ok (.if_icmp .eq 5, 3) := by decide +kernel
theorem dDB_thanks_39 : decode cDB_thanks 39 = .ok (.iconst 0, 1) := by decide +kernel
theorem dDB_thanks_40 : decode cDB_thanks 40 = .ok (.ireturn, 1) := by decide +kernel
theorem dDB_thanks_41 : decode cDB_thanks 41 = .ok (.aload_n 0, 1) := by decide +kernel
theorem dDB_thanks_42 : decode cDB_thanks 42 = .ok (.getfield 23, 3) := by decide +kernel
theorem dDB_thanks_45 : decode cDB_thanks 45 = .ok (.iload 5, 2) := by decide +kernel
theorem dDB_thanks_47 : decode cDB_thanks 47 = .ok (.iload_n 3, 1) := by decide +kernel
theorem dDB_thanks_48 : decode cDB_thanks 48 = .ok (.invokevirtual 93, 3) := by decide +kernel
theorem dDB_thanks_51 : decode cDB_thanks 51 = .ok (.ireturn, 1) := by decide +kernel
theorem dDB_forget_0 : decode cDB_forget 0 = .ok (.iload_n 1, 1) := by decide +kernel
theorem dDB_forget_1 : decode cDB_forget 1 = .ok (.invokestatic 115, 3) := by decide +kernel
theorem dDB_forget_4 : decode cDB_forget 4 = .ok (.aload_n 0, 1) := by decide +kernel
theorem dDB_forget_5 : decode cDB_forget 5 = .ok (.getfield 16, 3) := by decide +kernel
theorem dDB_forget_8 : decode cDB_forget 8 = .ok (.iload_n 1, 1) := by decide +kernel
theorem dDB_forget_9 : decode cDB_forget 9 = .ok (.invokevirtual 118, 3) := by decide +kernel
theorem dDB_forget_12 : decode cDB_forget 12 = .ok (.ifCond .ne 5, 3) := by decide +kernel
theorem dDB_forget_15 : decode cDB_forget 15 = .ok (.iconst 0, 1) := by decide +kernel
theorem dDB_forget_16 : decode cDB_forget 16 = .ok (.ireturn, 1) := by decide +kernel
theorem dDB_forget_17 : decode cDB_forget 17 = .ok (.aload_n 0, 1) := by decide +kernel
theorem dDB_forget_18 : decode cDB_forget 18 = .ok (.getfield 16, 3) := by decide +kernel
theorem dDB_forget_21 : decode cDB_forget 21 = .ok (.iload_n 1, 1) := by decide +kernel
theorem dDB_forget_22 : decode cDB_forget 22 = .ok (.invokevirtual 121, 3) := by decide +kernel
theorem dDB_forget_25 : decode cDB_forget 25 = .ok (.aload_n 0, 1) := by decide +kernel
theorem dDB_forget_26 : decode cDB_forget 26 = .ok (.getfield 23, 3) := by decide +kernel
theorem dDB_forget_29 : decode cDB_forget 29 = .ok (.iload_n 1, 1) := by decide +kernel
theorem dDB_forget_30 : decode cDB_forget 30 = .ok (.invokevirtual 124, 3) := by decide +kernel
theorem dDB_forget_33 : decode cDB_forget 33 = .ok (.iconst 1, 1) := by decide +kernel
theorem dDB_forget_34 : decode cDB_forget 34 = .ok (.ireturn, 1) := by decide +kernel
theorem dAD_has_0 : decode cAD_has 0 = .ok (.aload_n 0, 1) := by decide +kernel
theorem dAD_has_1 : decode cAD_has 1 = .ok (.getfield 9, 3) := by decide +kernel
theorem dAD_has_4 : decode cAD_has 4 = .ok (.iload_n 1, 1) := by decide +kernel
theorem dAD_has_5 : decode cAD_has 5 = .ok (.iaload, 1) := by decide +kernel
theorem dAD_has_6 : decode cAD_has 6 = .ok (.ifCond .eq 7, 3) := by decide +kernel
theorem dAD_has_9 : decode cAD_has 9 = .ok (.iconst 1, 1) := by decide +kernel
theorem dAD_has_10 : decode cAD_has 10 = .ok (.goto 4, 3) := by decide +kernel
theorem dAD_has_13 : decode cAD_has 13 = .ok (.iconst 0, 1) := by decide +kernel
theorem dAD_has_14 : decode cAD_has 14 = .ok (.ireturn, 1) := by decide +kernel
theorem dAD_remove_0 : decode cAD_remove 0 = .ok (.aload_n 0, 1) := by decide +kernel
theorem dAD_remove_1 : decode cAD_remove 1 = .ok (.iload_n 1, 1) := by decide +kernel
theorem dAD_remove_2 : decode cAD_remove 2 = .ok (.iconst 0, 1) := by decide +kernel
theorem dAD_remove_3 : decode cAD_remove 3 = .ok (.iconst 0, 1) := by decide +kernel
theorem dAD_remove_4 : decode cAD_remove 4 = .ok (.invokevirtual 18, 3) := by decide +kernel
theorem dAD_remove_7 : decode cAD_remove 7 = .ok (.return_, 1) := by decide +kernel
theorem dNB_settleAll_0 : decode cNB_settleAll 0 = .ok (.iconst 0, 1) := by decide +kernel
theorem dNB_settleAll_1 : decode cNB_settleAll 1 = .ok (.istore_n 2, 1) := by decide +kernel
theorem dNB_settleAll_2 : decode cNB_settleAll 2 = .ok (.iload_n 2, 1) := by decide +kernel
theorem dNB_settleAll_3 : decode cNB_settleAll 3 = .ok (.bipush 16, 2) := by decide +kernel
theorem dNB_settleAll_5 : decode cNB_settleAll 5 = .ok (.if_icmp .ge 16, 3) := by decide +kernel
theorem dNB_settleAll_8 : decode cNB_settleAll 8 = .ok (.aload_n 0, 1) := by decide +kernel
theorem dNB_settleAll_9 : decode cNB_settleAll 9 = .ok (.iload_n 2, 1) := by decide +kernel
theorem dNB_settleAll_10 : decode cNB_settleAll 10 = .ok (.iload_n 1, 1) := by decide +kernel
theorem dNB_settleAll_11 : decode cNB_settleAll 11 = .ok (.invokevirtual 55, 3) := by decide +kernel
theorem dNB_settleAll_14 : decode cNB_settleAll 14 = .ok (.pop, 1) := by decide +kernel
theorem dNB_settleAll_15 : decode cNB_settleAll 15 = .ok (.iinc 2 1, 3) := by decide +kernel
theorem dNB_settleAll_18 : decode cNB_settleAll 18 = .ok (.goto (-16), 3) := by decide +kernel
theorem dNB_settleAll_21 : decode cNB_settleAll 21 = .ok (.return_, 1) := by decide +kernel
theorem dDB_run_0 : decode cDB_run 0 = .ok (.iload_n 1, 1) := by decide +kernel
theorem dDB_run_1 : decode cDB_run 1 = .ok (.iconst 1, 1) := by decide +kernel
theorem dDB_run_2 : decode cDB_run 2 = .ok (.if_icmp .lt 10, 3) := by decide +kernel
theorem dDB_run_5 : decode cDB_run 5 = .ok (.iload_n 1, 1) := by decide +kernel
theorem dDB_run_6 : decode cDB_run 6 = .ok (.sipush 2000, 3) := by decide +kernel
theorem dDB_run_9 : decode cDB_run 9 = .ok (.if_icmp .le 13, 3) := by decide +kernel
theorem dDB_run_12 : decode cDB_run 12 = .ok (.new 127, 3) := by decide +kernel
theorem dDB_run_15 : decode cDB_run 15 = .ok (.dup, 1) := by decide +kernel
theorem dDB_run_16 : decode cDB_run 16 = .ok (.ldc 129, 2) := by decide +kernel
theorem dDB_run_18 : decode cDB_run 18 = .ok (.invokespecial 131, 3) := by decide +kernel
theorem dDB_run_21 : decode cDB_run 21 = .ok (.athrow, 1) := by decide +kernel
theorem dDB_run_22 : decode cDB_run 22 = .ok (.iload_n 1, 1) := by decide +kernel
theorem dDB_run_23 : decode cDB_run 23 = .ok (.ldc 134, 2) := by decide +kernel
theorem dDB_run_25 : decode cDB_run 25 = .ok (.aload_n 0, 1) := by decide +kernel
theorem dDB_run_26 : decode cDB_run 26 = .ok (.getfield 68, 3) := by decide +kernel
theorem dDB_run_29 : decode cDB_run 29 = .ok (.isub, 1) := by decide +kernel
theorem dDB_run_30 : decode cDB_run 30 = .ok (.if_icmp .le 13, 3) := by decide +kernel
theorem dDB_run_33 : decode cDB_run 33 = .ok (.new 135, 3) := by decide +kernel
theorem dDB_run_36 : decode cDB_run 36 = .ok (.dup, 1) := by decide +kernel
theorem dDB_run_37 : decode cDB_run 37 = .ok (.ldc 137, 2) := by decide +kernel
theorem dDB_run_39 : decode cDB_run 39 = .ok (.invokespecial 139, 3) := by decide +kernel
theorem dDB_run_42 : decode cDB_run 42 = .ok (.athrow, 1) := by decide +kernel
theorem dDB_run_43 : decode cDB_run 43 = .ok (.aload_n 0, 1) := by decide +kernel
theorem dDB_run_44 : decode cDB_run 44 = .ok (.getfield 68, 3) := by decide +kernel
theorem dDB_run_47 : decode cDB_run 47 = .ok (.bipush 20, 2) := by decide +kernel
theorem dDB_run_49 : decode cDB_run 49 = .ok (.idiv, 1) := by decide +kernel
theorem dDB_run_50 : decode cDB_run 50 = .ok (.istore_n 2, 1) := by decide +kernel
theorem dDB_run_51 : decode cDB_run 51 = .ok (.aload_n 0, 1) := by decide +kernel
theorem dDB_run_52 : decode cDB_run 52 = .ok (.dup, 1) := by decide +kernel
theorem dDB_run_53 : decode cDB_run 53 = .ok (.getfield 68, 3) := by decide +kernel
theorem dDB_run_56 : decode cDB_run 56 = .ok (.iload_n 1, 1) := by decide +kernel
theorem dDB_run_57 : decode cDB_run 57 = .ok (.iadd, 1) := by decide +kernel
theorem dDB_run_58 : decode cDB_run 58 = .ok (.putfield 68, 3) := by decide +kernel
theorem dDB_run_61 : decode cDB_run 61 = .ok (.aload_n 0, 1) := by decide +kernel
theorem dDB_run_62 : decode cDB_run 62 = .ok (.getfield 68, 3) := by decide +kernel
theorem dDB_run_65 : decode cDB_run 65 = .ok (.bipush 20, 2) := by decide +kernel
theorem dDB_run_67 : decode cDB_run 67 = .ok (.idiv, 1) := by decide +kernel
theorem dDB_run_68 : decode cDB_run 68 = .ok (.iload_n 2, 1) := by decide +kernel
theorem dDB_run_69 : decode cDB_run 69 = .ok (.if_icmp .le 11, 3) := by decide +kernel
theorem dDB_run_72 : decode cDB_run 72 = .ok (.aload_n 0, 1) := by decide +kernel
theorem dDB_run_73 : decode cDB_run 73 = .ok (.aload_n 0, 1) := by decide +kernel
theorem dDB_run_74 : decode cDB_run 74 = .ok (.getfield 49, 3) := by decide +kernel
theorem dDB_run_77 : decode cDB_run 77 = .ok (.putfield 52, 3) := by decide +kernel
theorem dDB_run_80 : decode cDB_run 80 = .ok (.aload_n 0, 1) := by decide +kernel
theorem dDB_run_81 : decode cDB_run 81 = .ok (.getfield 23, 3) := by decide +kernel
theorem dDB_run_84 : decode cDB_run 84 = .ok (.aload_n 0, 1) := by decide +kernel
theorem dDB_run_85 : decode cDB_run 85 = .ok (.getfield 68, 3) := by decide +kernel
theorem dDB_run_88 : decode cDB_run 88 = .ok (.invokevirtual 140, 3) := by decide +kernel
theorem dDB_run_91 : decode cDB_run 91 = .ok (.aload_n 0, 1) := by decide +kernel
theorem dDB_run_92 : decode cDB_run 92 = .ok (.getfield 68, 3) := by decide +kernel
theorem dDB_run_95 : decode cDB_run 95 = .ok (.ireturn, 1) := by decide +kernel
theorem dNB_dropSilent_0 : decode cNB_dropSilent 0 = .ok (.iconst 0, 1) := by decide +kernel
theorem dNB_dropSilent_1 : decode cNB_dropSilent 1 = .ok (.istore_n 2, 1) := by decide +kernel
theorem dNB_dropSilent_2 : decode cNB_dropSilent 2 = .ok (.iload_n 2, 1) := by decide +kernel
theorem dNB_dropSilent_3 : decode cNB_dropSilent 3 = .ok (.bipush 16, 2) := by decide +kernel
theorem dNB_dropSilent_5 : decode cNB_dropSilent 5 = .ok (.if_icmp .ge 36, 3) := by decide +kernel
theorem dNB_dropSilent_8 : decode cNB_dropSilent 8 = .ok (.aload_n 0, 1) := by decide +kernel
theorem dNB_dropSilent_9 : decode cNB_dropSilent 9 = .ok (.getfield 9, 3) := by decide +kernel
theorem dNB_dropSilent_12 : decode cNB_dropSilent 12 = .ok (.iload_n 2, 1) := by decide +kernel
theorem dNB_dropSilent_13 : decode cNB_dropSilent 13 = .ok (.iaload, 1) := by decide +kernel
theorem dNB_dropSilent_14 : decode cNB_dropSilent 14 = .ok (.ifCond .eq 21, 3) := by decide +kernel
theorem dNB_dropSilent_17 : decode cNB_dropSilent 17 = .ok (.iload_n 1, 1) := by decide +kernel
theorem dNB_dropSilent_18 : decode cNB_dropSilent 18 = .ok (.aload_n 0, 1) := by decide +kernel
theorem dNB_dropSilent_19 : decode cNB_dropSilent 19 = .ok (.getfield 21, 3) := by decide +kernel
theorem dNB_dropSilent_22 : decode cNB_dropSilent 22 = .ok (.iload_n 2, 1) := by decide +kernel
theorem dNB_dropSilent_23 : decode cNB_dropSilent 23 = .ok (.iaload, 1) := by decide +kernel
theorem dNB_dropSilent_24 : decode cNB_dropSilent 24 = .ok (.isub, 1) := by decide +kernel
theorem dNB_dropSilent_25 : decode cNB_dropSilent 25 = .ok (.bipush 80, 2) := by decide +kernel
theorem dNB_dropSilent_27 : decode cNB_dropSilent 27 = .ok (.if_icmp .lt 8, 3) := by decide +kernel
theorem dNB_dropSilent_30 : decode cNB_dropSilent 30 = .ok (.aload_n 0, 1) := by decide +kernel
theorem dNB_dropSilent_31 : decode cNB_dropSilent 31 = .ok (.iload_n 2, 1) := by decide +kernel
theorem dNB_dropSilent_32 : decode cNB_dropSilent 32 = .ok (.invokevirtual 45, 3) := by decide +kernel
theorem dNB_dropSilent_35 : decode cNB_dropSilent 35 = .ok (.iinc 2 1, 3) := by decide +kernel
theorem dNB_dropSilent_38 : decode cNB_dropSilent 38 = .ok (.goto (-36), 3) := by decide +kernel
theorem dNB_dropSilent_41 : decode cNB_dropSilent 41 = .ok (.return_, 1) := by decide +kernel
theorem dDB_message_0 : decode cDB_message 0 = .ok (.iload_n 1, 1) := by decide +kernel
theorem dDB_message_1 : decode cDB_message 1 = .ok (.ifCond .lt 9, 3) := by decide +kernel
theorem dDB_message_4 : decode cDB_message 4 = .ok (.iload_n 1, 1) := by decide +kernel
theorem dDB_message_5 : decode cDB_message 5 = .ok (.bipush 6, 2) := by decide +kernel
theorem dDB_message_7 : decode cDB_message 7 = .ok (.if_icmp .lt 13, 3) := by decide +kernel
theorem dDB_message_10 : decode cDB_message 10 = .ok (.new 127, 3) := by decide +kernel
theorem dDB_message_13 : decode cDB_message 13 = .ok (.dup, 1) := by decide +kernel
theorem dDB_message_14 : decode cDB_message 14 = .ok (.ldc 153, 2) := by decide +kernel
theorem dDB_message_16 : decode cDB_message 16 = .ok (.invokespecial 131, 3) := by decide +kernel
theorem dDB_message_19 : decode cDB_message 19 = .ok (.athrow, 1) := by decide +kernel
theorem dDB_message_20 : decode cDB_message 20 = .ok (.aload_n 0, 1) := by decide +kernel
theorem dDB_message_21 : decode cDB_message 21 = .ok (.getfield 37, 3) := by decide +kernel
theorem dDB_message_24 : decode cDB_message 24 = .ok (.invokevirtual 155, 3) := by decide +kernel
theorem dDB_message_27 : decode cDB_message 27 = .ok (.ifCond .ne 13, 3) := by decide +kernel
theorem dDB_message_30 : decode cDB_message 30 = .ok (.new 135, 3) := by decide +kernel
theorem dDB_message_33 : decode cDB_message 33 = .ok (.dup, 1) := by decide +kernel
theorem dDB_message_34 : decode cDB_message 34 = .ok (.ldc 158, 2) := by decide +kernel
theorem dDB_message_36 : decode cDB_message 36 = .ok (.invokespecial 139, 3) := by decide +kernel
theorem dDB_message_39 : decode cDB_message 39 = .ok (.athrow, 1) := by decide +kernel
theorem dDB_message_40 : decode cDB_message 40 = .ok (.aload_n 0, 1) := by decide +kernel
theorem dDB_message_41 : decode cDB_message 41 = .ok (.getfield 37, 3) := by decide +kernel
theorem dDB_message_44 : decode cDB_message 44 = .ok (.iload_n 1, 1) := by decide +kernel
theorem dDB_message_45 : decode cDB_message 45 = .ok (.invokevirtual 160, 3) := by decide +kernel
theorem dDB_message_48 : decode cDB_message 48 = .ok (.ireturn, 1) := by decide +kernel
theorem dMS_isMade_0 : decode cMS_isMade 0 = .ok (.aload_n 0, 1) := by decide +kernel
theorem dMS_isMade_1 : decode cMS_isMade 1 = .ok (.getfield 11, 3) := by decide +kernel
theorem dMS_isMade_4 : decode cMS_isMade 4 = .ok (.iconst 0, 1) := by decide +kernel
theorem dMS_isMade_5 : decode cMS_isMade 5 = .ok (.iaload, 1) := by decide +kernel
theorem dMS_isMade_6 : decode cMS_isMade 6 = .ok (.ifCond .eq 7, 3) := by decide +kernel
theorem dMS_isMade_9 : decode cMS_isMade 9 = .ok (.iconst 1, 1) := by decide +kernel
theorem dMS_isMade_10 : decode cMS_isMade 10 = .ok (.goto 4, 3) := by decide +kernel
theorem dMS_isMade_13 : decode cMS_isMade 13 = .ok (.iconst 0, 1) := by decide +kernel
theorem dMS_isMade_14 : decode cMS_isMade 14 = .ok (.ireturn, 1) := by decide +kernel
theorem dMS_part_0 : decode cMS_part 0 = .ok (.aload_n 0, 1) := by decide +kernel
theorem dMS_part_1 : decode cMS_part 1 = .ok (.getfield 11, 3) := by decide +kernel
theorem dMS_part_4 : decode cMS_part 4 = .ok (.iload_n 1, 1) := by decide +kernel
theorem dMS_part_5 : decode cMS_part 5 = .ok (.iaload, 1) := by decide +kernel
theorem dMS_part_6 : decode cMS_part 6 = .ok (.ireturn, 1) := by decide +kernel
theorem dDB_state_0 : decode cDB_state 0 = .ok (.iload_n 1, 1) := by decide +kernel
theorem dDB_state_1 : decode cDB_state 1 = .ok (.invokestatic 41, 3) := by decide +kernel
theorem dDB_state_4 : decode cDB_state 4 = .ok (.iload_n 2, 1) := by decide +kernel
theorem dDB_state_5 : decode cDB_state 5 = .ok (.invokestatic 115, 3) := by decide +kernel
theorem dDB_state_8 : decode cDB_state 8 = .ok (.aload_n 0, 1) := by decide +kernel
theorem dDB_state_9 : decode cDB_state 9 = .ok (.getfield 23, 3) := by decide +kernel
theorem dDB_state_12 : decode cDB_state 12 = .ok (.iload_n 1, 1) := by decide +kernel
theorem dDB_state_13 : decode cDB_state 13 = .ok (.iload_n 2, 1) := by decide +kernel
theorem dDB_state_14 : decode cDB_state 14 = .ok (.invokevirtual 166, 3) := by decide +kernel
theorem dDB_state_17 : decode cDB_state 17 = .ok (.ireturn, 1) := by decide +kernel
theorem dNB_standingOf_0 : decode cNB_standingOf 0 = .ok (.aload_n 0, 1) := by decide +kernel
theorem dNB_standingOf_1 : decode cNB_standingOf 1 = .ok (.iload_n 1, 1) := by decide +kernel
theorem dNB_standingOf_2 : decode cNB_standingOf 2 = .ok (.iload_n 2, 1) := by decide +kernel
theorem dNB_standingOf_3 : decode cNB_standingOf 3 = .ok (.invokevirtual 34, 3) := by decide +kernel
theorem dNB_standingOf_6 : decode cNB_standingOf 6 = .ok (.istore_n 3, 1) := by decide +kernel
theorem dNB_standingOf_7 : decode cNB_standingOf 7 = .ok (.iload_n 3, 1) := by decide +kernel
theorem dNB_standingOf_8 : decode cNB_standingOf 8 = .ok (.iconst (-1), 1) := by decide +kernel
theorem dNB_standingOf_9 : decode cNB_standingOf 9 = .ok (.if_icmp .ne 7, 3) := by decide +kernel
theorem dNB_standingOf_12 : decode cNB_standingOf 12 = .ok (.iconst 0, 1) := by decide +kernel
theorem dNB_standingOf_13 : decode cNB_standingOf 13 = .ok (.goto 9, 3) := by decide +kernel
theorem dNB_standingOf_16 : decode cNB_standingOf 16 = .ok (.aload_n 0, 1) := by decide +kernel
theorem dNB_standingOf_17 : decode cNB_standingOf 17 = .ok (.getfield 9, 3) := by decide +kernel
theorem dNB_standingOf_20 : decode cNB_standingOf 20 = .ok (.iload_n 3, 1) := by decide +kernel
theorem dNB_standingOf_21 : decode cNB_standingOf 21 = .ok (.iaload, 1) := by decide +kernel
theorem dNB_standingOf_22 : decode cNB_standingOf 22 = .ok (.ireturn, 1) := by decide +kernel
theorem dDB_known_0 : decode cDB_known 0 = .ok (.iload_n 1, 1) := by decide +kernel
theorem dDB_known_1 : decode cDB_known 1 = .ok (.invokestatic 115, 3) := by decide +kernel
theorem dDB_known_4 : decode cDB_known 4 = .ok (.aload_n 0, 1) := by decide +kernel
theorem dDB_known_5 : decode cDB_known 5 = .ok (.getfield 16, 3) := by decide +kernel
theorem dDB_known_8 : decode cDB_known 8 = .ok (.iload_n 1, 1) := by decide +kernel
theorem dDB_known_9 : decode cDB_known 9 = .ok (.invokevirtual 118, 3) := by decide +kernel
theorem dDB_known_12 : decode cDB_known 12 = .ok (.ifCond .eq 14, 3) := by decide +kernel
theorem dDB_known_15 : decode cDB_known 15 = .ok (.aload_n 0, 1) := by decide +kernel
theorem dDB_known_16 : decode cDB_known 16 = .ok (.getfield 16, 3) := by decide +kernel
theorem dDB_known_19 : decode cDB_known 19 = .ok (.iload_n 1, 1) := by decide +kernel
theorem dDB_known_20 : decode cDB_known 20 = .ok (.invokevirtual 89, 3) := by decide +kernel
theorem dDB_known_23 : decode cDB_known 23 = .ok (.goto 4, 3) := by decide +kernel
theorem dDB_known_26 : decode cDB_known 26 = .ok (.iconst (-1), 1) := by decide +kernel
theorem dDB_known_27 : decode cDB_known 27 = .ok (.ireturn, 1) := by decide +kernel
theorem dDB_body_0 : decode cDB_body 0 = .ok (.iload_n 1, 1) := by decide +kernel
theorem dDB_body_1 : decode cDB_body 1 = .ok (.invokestatic 115, 3) := by decide +kernel
theorem dDB_body_4 : decode cDB_body 4 = .ok (.aload_n 0, 1) := by decide +kernel
theorem dDB_body_5 : decode cDB_body 5 = .ok (.getfield 16, 3) := by decide +kernel
theorem dDB_body_8 : decode cDB_body 8 = .ok (.iload_n 1, 1) := by decide +kernel
theorem dDB_body_9 : decode cDB_body 9 = .ok (.invokevirtual 169, 3) := by decide +kernel
theorem dDB_body_12 : decode cDB_body 12 = .ok (.ireturn, 1) := by decide +kernel
theorem dDB_due_0 : decode cDB_due 0 = .ok (.iload_n 1, 1) := by decide +kernel
theorem dDB_due_1 : decode cDB_due 1 = .ok (.invokestatic 41, 3) := by decide +kernel
theorem dDB_due_4 : decode cDB_due 4 = .ok (.iload_n 2, 1) := by decide +kernel
theorem dDB_due_5 : decode cDB_due 5 = .ok (.invokestatic 115, 3) := by decide +kernel
theorem dDB_due_8 : decode cDB_due 8 = .ok (.aload_n 0, 1) := by decide +kernel
theorem dDB_due_9 : decode cDB_due 9 = .ok (.getfield 23, 3) := by decide +kernel
theorem dDB_due_12 : decode cDB_due 12 = .ok (.iload_n 1, 1) := by decide +kernel
theorem dDB_due_13 : decode cDB_due 13 = .ok (.iload_n 2, 1) := by decide +kernel
theorem dDB_due_14 : decode cDB_due 14 = .ok (.invokevirtual 172, 3) := by decide +kernel
theorem dDB_due_17 : decode cDB_due 17 = .ok (.ireturn, 1) := by decide +kernel
theorem dNB_owedTo_0 : decode cNB_owedTo 0 = .ok (.aload_n 0, 1) := by decide +kernel
theorem dNB_owedTo_1 : decode cNB_owedTo 1 = .ok (.iload_n 1, 1) := by decide +kernel
theorem dNB_owedTo_2 : decode cNB_owedTo 2 = .ok (.iload_n 2, 1) := by decide +kernel
theorem dNB_owedTo_3 : decode cNB_owedTo 3 = .ok (.invokevirtual 34, 3) := by decide +kernel
theorem dNB_owedTo_6 : decode cNB_owedTo 6 = .ok (.istore_n 3, 1) := by decide +kernel
theorem dNB_owedTo_7 : decode cNB_owedTo 7 = .ok (.iload_n 3, 1) := by decide +kernel
theorem dNB_owedTo_8 : decode cNB_owedTo 8 = .ok (.iconst (-1), 1) := by decide +kernel
theorem dNB_owedTo_9 : decode cNB_owedTo 9 = .ok (.if_icmp .ne 7, 3) := by decide +kernel
theorem dNB_owedTo_12 : decode cNB_owedTo 12 = .ok (.iconst 0, 1) := by decide +kernel
theorem dNB_owedTo_13 : decode cNB_owedTo 13 = .ok (.goto 12, 3) := by decide +kernel
theorem dNB_owedTo_16 : decode cNB_owedTo 16 = .ok (.aload_n 0, 1) := by decide +kernel
theorem dNB_owedTo_17 : decode cNB_owedTo 17 = .ok (.getfield 24, 3) := by decide +kernel
theorem dNB_owedTo_20 : decode cNB_owedTo 20 = .ok (.iload_n 3, 1) := by decide +kernel
theorem dNB_owedTo_21 : decode cNB_owedTo 21 = .ok (.laload, 1) := by decide +kernel
theorem dNB_owedTo_22 : decode cNB_owedTo 22 = .ok (.invokestatic 66, 3) := by decide +kernel
theorem dNB_owedTo_25 : decode cNB_owedTo 25 = .ok (.ireturn, 1) := by decide +kernel
end
section
/-! words: each by its place in the tables -/
set_option maxRecDepth 20000 in
theorem k0 : Cond.selects "DeskBench" ({ cls := "DeskBench", name := "makeGreeting", desc := "()Z" } : MethodName) ({ cls := "DeskBench", name := "makeGreeting", desc := "()Z" } : MethodName) ∈ bigW := bw 0 (by decide +kernel) (by decide +kernel)
set_option maxRecDepth 20000 in
theorem k1 : Cond.selects "DeskBench$Message" ({ cls := "DeskBench$Message", name := "address", desc := "(III)V" } : MethodName) ({ cls := "DeskBench$Message", name := "address", desc := "(III)V" } : MethodName) ∈ bigW := bw 1 (by decide +kernel) (by decide +kernel)
set_option maxRecDepth 20000 in
theorem k2 : Cond.selects "DeskBench$Message" ({ cls := "DeskBench$Message", name := "fill", desc := "(III)V" } : MethodName) ({ cls := "DeskBench$Message", name := "fill", desc := "(III)V" } : MethodName) ∈ bigW := bw 2 (by decide +kernel) (by decide +kernel)
set_option maxRecDepth 20000 in
theorem k3 : Cond.selects "DeskBench" ({ cls := "DeskBench", name := "makeThanks", desc := "()Z" } : MethodName) ({ cls := "DeskBench", name := "makeThanks", desc := "()Z" } : MethodName) ∈ bigW := bw 3 (by decide +kernel) (by decide +kernel)
set_option maxRecDepth 20000 in
theorem k4 : Cond.selects "DeskBench" ({ cls := "DeskBench", name := "makeAdvert", desc := "()Z" } : MethodName) ({ cls := "DeskBench", name := "makeAdvert", desc := "()Z" } : MethodName) ∈ bigW := bw 4 (by decide +kernel) (by decide +kernel)
set_option maxRecDepth 20000 in
theorem k5 : Cond.selects "DeskBench$Neighbours" ({ cls := "DeskBench$Neighbours", name := "isToBeSent", desc := "(III)Z" } : MethodName) ({ cls := "DeskBench$Neighbours", name := "isToBeSent", desc := "(III)Z" } : MethodName) ∈ bigW := bw 5 (by decide +kernel) (by decide +kernel)
set_option maxRecDepth 20000 in
theorem k7 : Cond.selects "DeskBench" ({ cls := "DeskBench", name := "isOn", desc := "(I)Z" } : MethodName) ({ cls := "DeskBench", name := "isOn", desc := "(I)Z" } : MethodName) ∈ bigW := bw 7 (by decide +kernel) (by decide +kernel)
set_option maxRecDepth 20000 in
theorem k8 : Cond.selects "DeskBench$Neighbours" ({ cls := "DeskBench$Neighbours", name := "drop", desc := "(I)V" } : MethodName) ({ cls := "DeskBench$Neighbours", name := "drop", desc := "(I)V" } : MethodName) ∈ bigW := bw 8 (by decide +kernel) (by decide +kernel)
set_option maxRecDepth 20000 in
theorem k9 : Cond.selects "DeskBench$Neighbours" ({ cls := "DeskBench$Neighbours", name := "oweExactly", desc := "(IJ)V" } : MethodName) ({ cls := "DeskBench$Neighbours", name := "oweExactly", desc := "(IJ)V" } : MethodName) ∈ bigW := bw 9 (by decide +kernel) (by decide +kernel)
set_option maxRecDepth 20000 in
theorem k10 : Cond.selects "DeskBench" ({ cls := "DeskBench", name := "requireSender", desc := "(I)V" } : MethodName) ({ cls := "DeskBench", name := "requireSender", desc := "(I)V" } : MethodName) ∈ bigW := bw 10 (by decide +kernel) (by decide +kernel)
set_option maxRecDepth 20000 in
theorem k11 : Cond.selects "DeskBench" ({ cls := "DeskBench", name := "requireOn", desc := "(I)V" } : MethodName) ({ cls := "DeskBench", name := "requireOn", desc := "(I)V" } : MethodName) ∈ bigW := bw 11 (by decide +kernel) (by decide +kernel)
set_option maxRecDepth 20000 in
theorem k12 : Cond.selects "DeskBench$Neighbours" ({ cls := "DeskBench$Neighbours", name := "heardPlace", desc := "(II)I" } : MethodName) ({ cls := "DeskBench$Neighbours", name := "heardPlace", desc := "(II)I" } : MethodName) ∈ bigW := bw 12 (by decide +kernel) (by decide +kernel)
set_option maxRecDepth 20000 in
theorem k13 : Cond.selects "DeskBench$Neighbours" ({ cls := "DeskBench$Neighbours", name := "takeFreePlace", desc := "(II)I" } : MethodName) ({ cls := "DeskBench$Neighbours", name := "takeFreePlace", desc := "(II)I" } : MethodName) ∈ bigW := bw 13 (by decide +kernel) (by decide +kernel)
set_option maxRecDepth 20000 in
theorem k14 : Cond.selects "DeskBench" ({ cls := "DeskBench", name := "requireLegal", desc := "(IIII)V" } : MethodName) ({ cls := "DeskBench", name := "requireLegal", desc := "(IIII)V" } : MethodName) ∈ bigW := bw 14 (by decide +kernel) (by decide +kernel)
set_option maxRecDepth 20000 in
theorem k15 : Cond.selects "DeskBench" ({ cls := "DeskBench", name := "takeOwnBack", desc := "(II)I" } : MethodName) ({ cls := "DeskBench", name := "takeOwnBack", desc := "(II)I" } : MethodName) ∈ bigW := bw 15 (by decide +kernel) (by decide +kernel)
set_option maxRecDepth 20000 in
theorem k16 : Cond.selects "DeskBench" ({ cls := "DeskBench", name := "takeAdvert", desc := "(IIII)I" } : MethodName) ({ cls := "DeskBench", name := "takeAdvert", desc := "(IIII)I" } : MethodName) ∈ bigW := bw 16 (by decide +kernel) (by decide +kernel)
set_option maxRecDepth 20000 in
theorem k27 : Cond.initialized "DeskBench" ∈ bigW := bw 27 (by decide +kernel) (by decide +kernel)
set_option maxRecDepth 20000 in
theorem k28 : Cond.initialized "DeskBench$Adverts" ∈ bigW := bw 28 (by decide +kernel) (by decide +kernel)
set_option maxRecDepth 20000 in
theorem k29 : Cond.initialized "DeskBench$Neighbours" ∈ bigW := bw 29 (by decide +kernel) (by decide +kernel)
set_option maxRecDepth 20000 in
theorem k30 : Cond.initialized "DeskBench$ThanksQueue" ∈ bigW := bw 30 (by decide +kernel) (by decide +kernel)
set_option maxRecDepth 20000 in
theorem k31 : Cond.initialized "DeskBench$Message" ∈ bigW := bw 31 (by decide +kernel) (by decide +kernel)
set_option maxRecDepth 20000 in
theorem k53 : Cond.fieldLink "DeskBench$Adverts" (9 : Nat) "DeskBench$Adverts" "numbers" "[I" ∈ bigW := bw 53 (by decide +kernel) (by decide +kernel)
set_option maxRecDepth 20000 in
theorem k54 : Cond.fieldLink "DeskBench$Adverts" (15 : Nat) "DeskBench$Adverts" "bodies" "[I" ∈ bigW := bw 54 (by decide +kernel) (by decide +kernel)
set_option maxRecDepth 20000 in
theorem k67 : Cond.fieldLink "DeskBench$Neighbours" (9 : Nat) "DeskBench$Neighbours" "standings" "[I" ∈ bigW := bw 67 (by decide +kernel) (by decide +kernel)
set_option maxRecDepth 20000 in
theorem k68 : Cond.fieldLink "DeskBench$Neighbours" (15 : Nat) "DeskBench$Neighbours" "ports" "[I" ∈ bigW := bw 68 (by decide +kernel) (by decide +kernel)
set_option maxRecDepth 20000 in
theorem k69 : Cond.fieldLink "DeskBench$Neighbours" (18 : Nat) "DeskBench$Neighbours" "routers" "[I" ∈ bigW := bw 69 (by decide +kernel) (by decide +kernel)
set_option maxRecDepth 20000 in
theorem k70 : Cond.fieldLink "DeskBench$Neighbours" (21 : Nat) "DeskBench$Neighbours" "greetedAt" "[I" ∈ bigW := bw 70 (by decide +kernel) (by decide +kernel)
set_option maxRecDepth 20000 in
theorem k71 : Cond.fieldLink "DeskBench$Neighbours" (24 : Nat) "DeskBench$Neighbours" "owed" "[J" ∈ bigW := bw 71 (by decide +kernel) (by decide +kernel)
set_option maxRecDepth 20000 in
theorem k72 : Cond.fieldLink "DeskBench$Neighbours" (28 : Nat) "DeskBench$Neighbours" "unsent" "[J" ∈ bigW := bw 72 (by decide +kernel) (by decide +kernel)
set_option maxRecDepth 20000 in
theorem k73 : Cond.fieldLink "DeskBench$Neighbours" (31 : Nat) "DeskBench$Neighbours" "sentAt" "[I" ∈ bigW := bw 73 (by decide +kernel) (by decide +kernel)
set_option maxRecDepth 20000 in
theorem k96 : Cond.fieldLink "DeskBench$ThanksQueue" (9 : Nat) "DeskBench$ThanksQueue" "ports" "[I" ∈ bigW := bw 96 (by decide +kernel) (by decide +kernel)
set_option maxRecDepth 20000 in
theorem k97 : Cond.fieldLink "DeskBench$ThanksQueue" (15 : Nat) "DeskBench$ThanksQueue" "routers" "[I" ∈ bigW := bw 97 (by decide +kernel) (by decide +kernel)
set_option maxRecDepth 20000 in
theorem k98 : Cond.fieldLink "DeskBench$ThanksQueue" (18 : Nat) "DeskBench$ThanksQueue" "origins" "[I" ∈ bigW := bw 98 (by decide +kernel) (by decide +kernel)
set_option maxRecDepth 20000 in
theorem k99 : Cond.fieldLink "DeskBench$ThanksQueue" (21 : Nat) "DeskBench$ThanksQueue" "numbers" "[I" ∈ bigW := bw 99 (by decide +kernel) (by decide +kernel)
set_option maxRecDepth 20000 in
theorem k100 : Cond.fieldLink "DeskBench$ThanksQueue" (28 : Nat) "DeskBench$ThanksQueue" "first" "I" ∈ bigW := bw 100 (by decide +kernel) (by decide +kernel)
set_option maxRecDepth 20000 in
theorem k101 : Cond.fieldLink "DeskBench$ThanksQueue" (24 : Nat) "DeskBench$ThanksQueue" "size" "I" ∈ bigW := bw 101 (by decide +kernel) (by decide +kernel)
set_option maxRecDepth 20000 in
theorem k121 : Cond.fieldLink "DeskBench$Message" (11 : Nat) "DeskBench$Message" "parts" "[I" ∈ bigW := bw 121 (by decide +kernel) (by decide +kernel)
set_option maxRecDepth 20000 in
theorem k122 : Cond.fieldLink "DeskBench$Message" (15 : Nat) "DeskBench$Message" "names" "J" ∈ bigW := bw 122 (by decide +kernel) (by decide +kernel)
set_option maxRecDepth 20000 in
theorem k128 : Cond.fieldLink "DeskBench" (9 : Nat) "DeskBench" "itself" "I" ∈ bigW := bw 128 (by decide +kernel) (by decide +kernel)
set_option maxRecDepth 20000 in
theorem k129 : Cond.fieldLink "DeskBench" (16 : Nat) "DeskBench" "adverts" "LDeskBench$Adverts;" ∈ bigW := bw 129 (by decide +kernel) (by decide +kernel)
set_option maxRecDepth 20000 in
theorem k130 : Cond.fieldLink "DeskBench" (23 : Nat) "DeskBench" "neighbours" "LDeskBench$Neighbours;" ∈ bigW := bw 130 (by decide +kernel) (by decide +kernel)
set_option maxRecDepth 20000 in
theorem k131 : Cond.fieldLink "DeskBench" (30 : Nat) "DeskBench" "thanksQueue" "LDeskBench$ThanksQueue;" ∈ bigW := bw 131 (by decide +kernel) (by decide +kernel)
set_option maxRecDepth 20000 in
theorem k132 : Cond.fieldLink "DeskBench" (37 : Nat) "DeskBench" "last" "LDeskBench$Message;" ∈ bigW := bw 132 (by decide +kernel) (by decide +kernel)
set_option maxRecDepth 20000 in
theorem k133 : Cond.fieldLink "DeskBench" (49 : Nat) "DeskBench" "portsOn" "I" ∈ bigW := bw 133 (by decide +kernel) (by decide +kernel)
set_option maxRecDepth 20000 in
theorem k134 : Cond.fieldLink "DeskBench" (52 : Nat) "DeskBench" "greetingsToSend" "I" ∈ bigW := bw 134 (by decide +kernel) (by decide +kernel)
set_option maxRecDepth 20000 in
theorem k135 : Cond.fieldLink "DeskBench" (104 : Nat) "DeskBench" "greatestOwnNumber" "I" ∈ bigW := bw 135 (by decide +kernel) (by decide +kernel)
set_option maxRecDepth 20000 in
theorem k136 : Cond.fieldLink "DeskBench" (68 : Nat) "DeskBench" "time" "I" ∈ bigW := bw 136 (by decide +kernel) (by decide +kernel)
set_option maxRecDepth 20000 in
theorem k160 : Cond.methodLink "DeskBench" (107 : Nat) ({ cls := "DeskBench$Adverts", name := "put", desc := "(III)V" } : Jvm.MethodName) ∈ bigW := bw 160 (by decide +kernel) (by decide +kernel)
set_option maxRecDepth 20000 in
theorem k161 : Cond.instanceMethod ({ cls := "DeskBench$Adverts", name := "put", desc := "(III)V" } : Jvm.MethodName) ∈ bigW := bw 161 (by decide +kernel) (by decide +kernel)
set_option maxRecDepth 20000 in
theorem k162 : Cond.selects "DeskBench$Adverts" ({ cls := "DeskBench$Adverts", name := "put", desc := "(III)V" } : Jvm.MethodName) ({ cls := "DeskBench$Adverts", name := "put", desc := "(III)V" } : Jvm.MethodName) ∈ bigW := bw 162 (by decide +kernel) (by decide +kernel)
set_option maxRecDepth 20000 in
theorem k163 : Cond.code ({ cls := "DeskBench$Adverts", name := "put", desc := "(III)V" } : Jvm.MethodName) prog_2_method_5_code (4 : Nat) (Option.none : Option Jvm.ClassFile.FieldType) ∈ bigW := bw 163 (by decide +kernel) (by decide +kernel)
set_option maxRecDepth 20000 in
theorem k164 : Cond.methodLink "DeskBench" (111 : Nat) ({ cls := "DeskBench$Neighbours", name := "oweToFriendsBut", desc := "(II)V" } : Jvm.MethodName) ∈ bigW := bw 164 (by decide +kernel) (by decide +kernel)
set_option maxRecDepth 20000 in
theorem k165 : Cond.instanceMethod ({ cls := "DeskBench$Neighbours", name := "oweToFriendsBut", desc := "(II)V" } : Jvm.MethodName) ∈ bigW := bw 165 (by decide +kernel) (by decide +kernel)
set_option maxRecDepth 20000 in
theorem k166 : Cond.selects "DeskBench$Neighbours" ({ cls := "DeskBench$Neighbours", name := "oweToFriendsBut", desc := "(II)V" } : Jvm.MethodName) ({ cls := "DeskBench$Neighbours", name := "oweToFriendsBut", desc := "(II)V" } : Jvm.MethodName) ∈ bigW := bw 166 (by decide +kernel) (by decide +kernel)
set_option maxRecDepth 20000 in
theorem k167 : Cond.code ({ cls := "DeskBench$Neighbours", name := "oweToFriendsBut", desc := "(II)V" } : Jvm.MethodName) prog_4_method_12_code (4 : Nat) (Option.none : Option Jvm.ClassFile.FieldType) ∈ bigW := bw 167 (by decide +kernel) (by decide +kernel)
set_option maxRecDepth 20000 in
theorem k168 : Cond.methodLink "DeskBench$Neighbours" (49 : Nat) ({ cls := "DeskBench$Neighbours", name := "owe", desc := "(II)V" } : Jvm.MethodName) ∈ bigW := bw 168 (by decide +kernel) (by decide +kernel)
set_option maxRecDepth 20000 in
theorem k169 : Cond.instanceMethod ({ cls := "DeskBench$Neighbours", name := "owe", desc := "(II)V" } : Jvm.MethodName) ∈ bigW := bw 169 (by decide +kernel) (by decide +kernel)
set_option maxRecDepth 20000 in
theorem k170 : Cond.selects "DeskBench$Neighbours" ({ cls := "DeskBench$Neighbours", name := "owe", desc := "(II)V" } : Jvm.MethodName) ({ cls := "DeskBench$Neighbours", name := "owe", desc := "(II)V" } : Jvm.MethodName) ∈ bigW := bw 170 (by decide +kernel) (by decide +kernel)
set_option maxRecDepth 20000 in
theorem k171 : Cond.code ({ cls := "DeskBench$Neighbours", name := "owe", desc := "(II)V" } : Jvm.MethodName) prog_4_method_11_code (3 : Nat) (Option.none : Option Jvm.ClassFile.FieldType) ∈ bigW := bw 171 (by decide +kernel) (by decide +kernel)
set_option maxRecDepth 20000 in
theorem k176 : Cond.methodLink "DeskBench" (143 : Nat) ({ cls := "DeskBench", name := "makeGreeting", desc := "()Z" } : Jvm.MethodName) ∈ bigW := bw 176 (by decide +kernel) (by decide +kernel)
set_option maxRecDepth 20000 in
theorem k178 : Cond.instanceMethod ({ cls := "DeskBench", name := "makeGreeting", desc := "()Z" } : Jvm.MethodName) ∈ bigW := bw 178 (by decide +kernel) (by decide +kernel)
set_option maxRecDepth 20000 in
theorem k179 : Cond.code ({ cls := "DeskBench", name := "makeGreeting", desc := "()Z" } : Jvm.MethodName) prog_1_method_28_code (3 : Nat) (Option.some Jvm.ClassFile.FieldType.boolean) ∈ bigW := bw 179 (by decide +kernel) (by decide +kernel)
set_option maxRecDepth 20000 in
theorem k180 : Cond.methodLink "DeskBench" (198 : Nat) ({ cls := "DeskBench$Neighbours", name := "heardOn", desc := "(I)J" } : Jvm.MethodName) ∈ bigW := bw 180 (by decide +kernel) (by decide +kernel)
set_option maxRecDepth 20000 in
theorem k181 : Cond.instanceMethod ({ cls := "DeskBench$Neighbours", name := "heardOn", desc := "(I)J" } : Jvm.MethodName) ∈ bigW := bw 181 (by decide +kernel) (by decide +kernel)
set_option maxRecDepth 20000 in
theorem k182 : Cond.selects "DeskBench$Neighbours" ({ cls := "DeskBench$Neighbours", name := "heardOn", desc := "(I)J" } : Jvm.MethodName) ({ cls := "DeskBench$Neighbours", name := "heardOn", desc := "(I)J" } : Jvm.MethodName) ∈ bigW := bw 182 (by decide +kernel) (by decide +kernel)
set_option maxRecDepth 20000 in
theorem k183 : Cond.code ({ cls := "DeskBench$Neighbours", name := "heardOn", desc := "(I)J" } : Jvm.MethodName) prog_4_method_21_code (5 : Nat) (Option.some Jvm.ClassFile.FieldType.long) ∈ bigW := bw 183 (by decide +kernel) (by decide +kernel)
set_option maxRecDepth 20000 in
theorem k184 : Cond.methodLink "DeskBench" (202 : Nat) ({ cls := "DeskBench$Message", name := "makeGreeting", desc := "(IJ)V" } : Jvm.MethodName) ∈ bigW := bw 184 (by decide +kernel) (by decide +kernel)
set_option maxRecDepth 20000 in
theorem k185 : Cond.instanceMethod ({ cls := "DeskBench$Message", name := "makeGreeting", desc := "(IJ)V" } : Jvm.MethodName) ∈ bigW := bw 185 (by decide +kernel) (by decide +kernel)
set_option maxRecDepth 20000 in
theorem k186 : Cond.selects "DeskBench$Message" ({ cls := "DeskBench$Message", name := "makeGreeting", desc := "(IJ)V" } : Jvm.MethodName) ({ cls := "DeskBench$Message", name := "makeGreeting", desc := "(IJ)V" } : Jvm.MethodName) ∈ bigW := bw 186 (by decide +kernel) (by decide +kernel)
set_option maxRecDepth 20000 in
theorem k187 : Cond.code ({ cls := "DeskBench$Message", name := "makeGreeting", desc := "(IJ)V" } : Jvm.MethodName) prog_3_method_5_code (4 : Nat) (Option.none : Option Jvm.ClassFile.FieldType) ∈ bigW := bw 187 (by decide +kernel) (by decide +kernel)
set_option maxRecDepth 20000 in
theorem k188 : Cond.methodLink "DeskBench$Message" (19 : Nat) ({ cls := "DeskBench$Message", name := "address", desc := "(III)V" } : Jvm.MethodName) ∈ bigW := bw 188 (by decide +kernel) (by decide +kernel)
set_option maxRecDepth 20000 in
theorem k190 : Cond.instanceMethod ({ cls := "DeskBench$Message", name := "address", desc := "(III)V" } : Jvm.MethodName) ∈ bigW := bw 190 (by decide +kernel) (by decide +kernel)
set_option maxRecDepth 20000 in
theorem k191 : Cond.code ({ cls := "DeskBench$Message", name := "address", desc := "(III)V" } : Jvm.MethodName) prog_3_method_8_code (4 : Nat) (Option.none : Option Jvm.ClassFile.FieldType) ∈ bigW := bw 191 (by decide +kernel) (by decide +kernel)
set_option maxRecDepth 20000 in
theorem k192 : Cond.methodLink "DeskBench$Message" (23 : Nat) ({ cls := "DeskBench$Message", name := "fill", desc := "(III)V" } : Jvm.MethodName) ∈ bigW := bw 192 (by decide +kernel) (by decide +kernel)
set_option maxRecDepth 20000 in
theorem k194 : Cond.instanceMethod ({ cls := "DeskBench$Message", name := "fill", desc := "(III)V" } : Jvm.MethodName) ∈ bigW := bw 194 (by decide +kernel) (by decide +kernel)
set_option maxRecDepth 20000 in
theorem k195 : Cond.code ({ cls := "DeskBench$Message", name := "fill", desc := "(III)V" } : Jvm.MethodName) prog_3_method_9_code (4 : Nat) (Option.none : Option Jvm.ClassFile.FieldType) ∈ bigW := bw 195 (by decide +kernel) (by decide +kernel)
set_option maxRecDepth 20000 in
theorem k196 : Cond.methodLink "DeskBench" (147 : Nat) ({ cls := "DeskBench", name := "makeThanks", desc := "()Z" } : Jvm.MethodName) ∈ bigW := bw 196 (by decide +kernel) (by decide +kernel)
set_option maxRecDepth 20000 in
theorem k198 : Cond.instanceMethod ({ cls := "DeskBench", name := "makeThanks", desc := "()Z" } : Jvm.MethodName) ∈ bigW := bw 198 (by decide +kernel) (by decide +kernel)
set_option maxRecDepth 20000 in
theorem k199 : Cond.code ({ cls := "DeskBench", name := "makeThanks", desc := "()Z" } : Jvm.MethodName) prog_1_method_29_code (1 : Nat) (Option.some Jvm.ClassFile.FieldType.boolean) ∈ bigW := bw 199 (by decide +kernel) (by decide +kernel)
set_option maxRecDepth 20000 in
theorem k200 : Cond.methodLink "DeskBench" (205 : Nat) ({ cls := "DeskBench$ThanksQueue", name := "isEmpty", desc := "()Z" } : Jvm.MethodName) ∈ bigW := bw 200 (by decide +kernel) (by decide +kernel)
set_option maxRecDepth 20000 in
theorem k201 : Cond.instanceMethod ({ cls := "DeskBench$ThanksQueue", name := "isEmpty", desc := "()Z" } : Jvm.MethodName) ∈ bigW := bw 201 (by decide +kernel) (by decide +kernel)
set_option maxRecDepth 20000 in
theorem k202 : Cond.selects "DeskBench$ThanksQueue" ({ cls := "DeskBench$ThanksQueue", name := "isEmpty", desc := "()Z" } : Jvm.MethodName) ({ cls := "DeskBench$ThanksQueue", name := "isEmpty", desc := "()Z" } : Jvm.MethodName) ∈ bigW := bw 202 (by decide +kernel) (by decide +kernel)
set_option maxRecDepth 20000 in
theorem k203 : Cond.code ({ cls := "DeskBench$ThanksQueue", name := "isEmpty", desc := "()Z" } : Jvm.MethodName) prog_5_method_2_code (1 : Nat) (Option.some Jvm.ClassFile.FieldType.boolean) ∈ bigW := bw 203 (by decide +kernel) (by decide +kernel)
set_option maxRecDepth 20000 in
theorem k204 : Cond.methodLink "DeskBench" (208 : Nat) ({ cls := "DeskBench$ThanksQueue", name := "moveFirstTo", desc := "(LDeskBench$Message;)V" } : Jvm.MethodName) ∈ bigW := bw 204 (by decide +kernel) (by decide +kernel)
set_option maxRecDepth 20000 in
theorem k205 : Cond.instanceMethod ({ cls := "DeskBench$ThanksQueue", name := "moveFirstTo", desc := "(LDeskBench$Message;)V" } : Jvm.MethodName) ∈ bigW := bw 205 (by decide +kernel) (by decide +kernel)
set_option maxRecDepth 20000 in
theorem k206 : Cond.selects "DeskBench$ThanksQueue" ({ cls := "DeskBench$ThanksQueue", name := "moveFirstTo", desc := "(LDeskBench$Message;)V" } : Jvm.MethodName) ({ cls := "DeskBench$ThanksQueue", name := "moveFirstTo", desc := "(LDeskBench$Message;)V" } : Jvm.MethodName) ∈ bigW := bw 206 (by decide +kernel) (by decide +kernel)
set_option maxRecDepth 20000 in
theorem k207 : Cond.code ({ cls := "DeskBench$ThanksQueue", name := "moveFirstTo", desc := "(LDeskBench$Message;)V" } : Jvm.MethodName) prog_5_method_4_code (2 : Nat) (Option.none : Option Jvm.ClassFile.FieldType) ∈ bigW := bw 207 (by decide +kernel) (by decide +kernel)
set_option maxRecDepth 20000 in
theorem k208 : Cond.methodLink "DeskBench$ThanksQueue" (31 : Nat) ({ cls := "DeskBench$Message", name := "makeThanks", desc := "(IIII)V" } : Jvm.MethodName) ∈ bigW := bw 208 (by decide +kernel) (by decide +kernel)
set_option maxRecDepth 20000 in
theorem k209 : Cond.instanceMethod ({ cls := "DeskBench$Message", name := "makeThanks", desc := "(IIII)V" } : Jvm.MethodName) ∈ bigW := bw 209 (by decide +kernel) (by decide +kernel)
set_option maxRecDepth 20000 in
theorem k210 : Cond.selects "DeskBench$Message" ({ cls := "DeskBench$Message", name := "makeThanks", desc := "(IIII)V" } : Jvm.MethodName) ({ cls := "DeskBench$Message", name := "makeThanks", desc := "(IIII)V" } : Jvm.MethodName) ∈ bigW := bw 210 (by decide +kernel) (by decide +kernel)
set_option maxRecDepth 20000 in
theorem k211 : Cond.code ({ cls := "DeskBench$Message", name := "makeThanks", desc := "(IIII)V" } : Jvm.MethodName) prog_3_method_6_code (5 : Nat) (Option.none : Option Jvm.ClassFile.FieldType) ∈ bigW := bw 211 (by decide +kernel) (by decide +kernel)
set_option maxRecDepth 20000 in
theorem k212 : Cond.methodLink "DeskBench" (150 : Nat) ({ cls := "DeskBench", name := "makeAdvert", desc := "()Z" } : Jvm.MethodName) ∈ bigW := bw 212 (by decide +kernel) (by decide +kernel)
set_option maxRecDepth 20000 in
theorem k214 : Cond.instanceMethod ({ cls := "DeskBench", name := "makeAdvert", desc := "()Z" } : Jvm.MethodName) ∈ bigW := bw 214 (by decide +kernel) (by decide +kernel)
set_option maxRecDepth 20000 in
theorem k215 : Cond.code ({ cls := "DeskBench", name := "makeAdvert", desc := "()Z" } : Jvm.MethodName) prog_1_method_30_code (3 : Nat) (Option.some Jvm.ClassFile.FieldType.boolean) ∈ bigW := bw 215 (by decide +kernel) (by decide +kernel)
set_option maxRecDepth 20000 in
theorem k216 : Cond.methodLink "DeskBench" (212 : Nat) ({ cls := "DeskBench$Neighbours", name := "firstToServe", desc := "(I)I" } : Jvm.MethodName) ∈ bigW := bw 216 (by decide +kernel) (by decide +kernel)
set_option maxRecDepth 20000 in
theorem k217 : Cond.instanceMethod ({ cls := "DeskBench$Neighbours", name := "firstToServe", desc := "(I)I" } : Jvm.MethodName) ∈ bigW := bw 217 (by decide +kernel) (by decide +kernel)
set_option maxRecDepth 20000 in
theorem k218 : Cond.selects "DeskBench$Neighbours" ({ cls := "DeskBench$Neighbours", name := "firstToServe", desc := "(I)I" } : Jvm.MethodName) ({ cls := "DeskBench$Neighbours", name := "firstToServe", desc := "(I)I" } : Jvm.MethodName) ∈ bigW := bw 218 (by decide +kernel) (by decide +kernel)
set_option maxRecDepth 20000 in
theorem k219 : Cond.code ({ cls := "DeskBench$Neighbours", name := "firstToServe", desc := "(I)I" } : Jvm.MethodName) prog_4_method_18_code (6 : Nat) (Option.some Jvm.ClassFile.FieldType.int) ∈ bigW := bw 219 (by decide +kernel) (by decide +kernel)
set_option maxRecDepth 20000 in
theorem k220 : Cond.methodLink "DeskBench$Neighbours" (63 : Nat) ({ cls := "DeskBench$Neighbours", name := "firstToSend", desc := "(II)I" } : Jvm.MethodName) ∈ bigW := bw 220 (by decide +kernel) (by decide +kernel)
set_option maxRecDepth 20000 in
theorem k221 : Cond.instanceMethod ({ cls := "DeskBench$Neighbours", name := "firstToSend", desc := "(II)I" } : Jvm.MethodName) ∈ bigW := bw 221 (by decide +kernel) (by decide +kernel)
set_option maxRecDepth 20000 in
theorem k222 : Cond.selects "DeskBench$Neighbours" ({ cls := "DeskBench$Neighbours", name := "firstToSend", desc := "(II)I" } : Jvm.MethodName) ({ cls := "DeskBench$Neighbours", name := "firstToSend", desc := "(II)I" } : Jvm.MethodName) ∈ bigW := bw 222 (by decide +kernel) (by decide +kernel)
set_option maxRecDepth 20000 in
theorem k223 : Cond.code ({ cls := "DeskBench$Neighbours", name := "firstToSend", desc := "(II)I" } : Jvm.MethodName) prog_4_method_17_code (4 : Nat) (Option.some Jvm.ClassFile.FieldType.int) ∈ bigW := bw 223 (by decide +kernel) (by decide +kernel)
set_option maxRecDepth 20000 in
theorem k224 : Cond.methodLink "DeskBench$Neighbours" (59 : Nat) ({ cls := "DeskBench$Neighbours", name := "isToBeSent", desc := "(III)Z" } : Jvm.MethodName) ∈ bigW := bw 224 (by decide +kernel) (by decide +kernel)
set_option maxRecDepth 20000 in
theorem k226 : Cond.instanceMethod ({ cls := "DeskBench$Neighbours", name := "isToBeSent", desc := "(III)Z" } : Jvm.MethodName) ∈ bigW := bw 226 (by decide +kernel) (by decide +kernel)
set_option maxRecDepth 20000 in
theorem k227 : Cond.code ({ cls := "DeskBench$Neighbours", name := "isToBeSent", desc := "(III)Z" } : Jvm.MethodName) prog_4_method_16_code (6 : Nat) (Option.some Jvm.ClassFile.FieldType.boolean) ∈ bigW := bw 227 (by decide +kernel) (by decide +kernel)
set_option maxRecDepth 20000 in
theorem k228 : Cond.methodLink "DeskBench" (215 : Nat) ({ cls := "DeskBench$Neighbours", name := "firstToSend", desc := "(II)I" } : Jvm.MethodName) ∈ bigW := bw 228 (by decide +kernel) (by decide +kernel)
set_option maxRecDepth 20000 in
theorem k229 : Cond.methodLink "DeskBench" (218 : Nat) ({ cls := "DeskBench$Neighbours", name := "sent", desc := "(III)V" } : Jvm.MethodName) ∈ bigW := bw 229 (by decide +kernel) (by decide +kernel)
set_option maxRecDepth 20000 in
theorem k230 : Cond.instanceMethod ({ cls := "DeskBench$Neighbours", name := "sent", desc := "(III)V" } : Jvm.MethodName) ∈ bigW := bw 230 (by decide +kernel) (by decide +kernel)
set_option maxRecDepth 20000 in
theorem k231 : Cond.selects "DeskBench$Neighbours" ({ cls := "DeskBench$Neighbours", name := "sent", desc := "(III)V" } : Jvm.MethodName) ({ cls := "DeskBench$Neighbours", name := "sent", desc := "(III)V" } : Jvm.MethodName) ∈ bigW := bw 231 (by decide +kernel) (by decide +kernel)
set_option maxRecDepth 20000 in
theorem k232 : Cond.code ({ cls := "DeskBench$Neighbours", name := "sent", desc := "(III)V" } : Jvm.MethodName) prog_4_method_15_code (4 : Nat) (Option.none : Option Jvm.ClassFile.FieldType) ∈ bigW := bw 232 (by decide +kernel) (by decide +kernel)
set_option maxRecDepth 20000 in
theorem k233 : Cond.constantLong "DeskBench$Neighbours" (53 : Nat) (-1 : Int64) ∈ bigW := bw 233 (by decide +kernel) (by decide +kernel)
set_option maxRecDepth 20000 in
theorem k234 : Cond.methodLink "DeskBench" (221 : Nat) ({ cls := "DeskBench$Neighbours", name := "portAt", desc := "(I)I" } : Jvm.MethodName) ∈ bigW := bw 234 (by decide +kernel) (by decide +kernel)
set_option maxRecDepth 20000 in
theorem k235 : Cond.instanceMethod ({ cls := "DeskBench$Neighbours", name := "portAt", desc := "(I)I" } : Jvm.MethodName) ∈ bigW := bw 235 (by decide +kernel) (by decide +kernel)
set_option maxRecDepth 20000 in
theorem k236 : Cond.selects "DeskBench$Neighbours" ({ cls := "DeskBench$Neighbours", name := "portAt", desc := "(I)I" } : Jvm.MethodName) ({ cls := "DeskBench$Neighbours", name := "portAt", desc := "(I)I" } : Jvm.MethodName) ∈ bigW := bw 236 (by decide +kernel) (by decide +kernel)
set_option maxRecDepth 20000 in
theorem k237 : Cond.code ({ cls := "DeskBench$Neighbours", name := "portAt", desc := "(I)I" } : Jvm.MethodName) prog_4_method_19_code (2 : Nat) (Option.some Jvm.ClassFile.FieldType.int) ∈ bigW := bw 237 (by decide +kernel) (by decide +kernel)
set_option maxRecDepth 20000 in
theorem k238 : Cond.methodLink "DeskBench" (224 : Nat) ({ cls := "DeskBench$Neighbours", name := "routerAt", desc := "(I)I" } : Jvm.MethodName) ∈ bigW := bw 238 (by decide +kernel) (by decide +kernel)
set_option maxRecDepth 20000 in
theorem k239 : Cond.instanceMethod ({ cls := "DeskBench$Neighbours", name := "routerAt", desc := "(I)I" } : Jvm.MethodName) ∈ bigW := bw 239 (by decide +kernel) (by decide +kernel)
set_option maxRecDepth 20000 in
theorem k240 : Cond.selects "DeskBench$Neighbours" ({ cls := "DeskBench$Neighbours", name := "routerAt", desc := "(I)I" } : Jvm.MethodName) ({ cls := "DeskBench$Neighbours", name := "routerAt", desc := "(I)I" } : Jvm.MethodName) ∈ bigW := bw 240 (by decide +kernel) (by decide +kernel)
set_option maxRecDepth 20000 in
theorem k241 : Cond.code ({ cls := "DeskBench$Neighbours", name := "routerAt", desc := "(I)I" } : Jvm.MethodName) prog_4_method_20_code (2 : Nat) (Option.some Jvm.ClassFile.FieldType.int) ∈ bigW := bw 241 (by decide +kernel) (by decide +kernel)
set_option maxRecDepth 20000 in
theorem k242 : Cond.methodLink "DeskBench" (89 : Nat) ({ cls := "DeskBench$Adverts", name := "numberOf", desc := "(I)I" } : Jvm.MethodName) ∈ bigW := bw 242 (by decide +kernel) (by decide +kernel)
set_option maxRecDepth 20000 in
theorem k243 : Cond.instanceMethod ({ cls := "DeskBench$Adverts", name := "numberOf", desc := "(I)I" } : Jvm.MethodName) ∈ bigW := bw 243 (by decide +kernel) (by decide +kernel)
set_option maxRecDepth 20000 in
theorem k244 : Cond.selects "DeskBench$Adverts" ({ cls := "DeskBench$Adverts", name := "numberOf", desc := "(I)I" } : Jvm.MethodName) ({ cls := "DeskBench$Adverts", name := "numberOf", desc := "(I)I" } : Jvm.MethodName) ∈ bigW := bw 244 (by decide +kernel) (by decide +kernel)
set_option maxRecDepth 20000 in
theorem k245 : Cond.code ({ cls := "DeskBench$Adverts", name := "numberOf", desc := "(I)I" } : Jvm.MethodName) prog_2_method_3_code (2 : Nat) (Option.some Jvm.ClassFile.FieldType.int) ∈ bigW := bw 245 (by decide +kernel) (by decide +kernel)
set_option maxRecDepth 20000 in
theorem k246 : Cond.methodLink "DeskBench" (169 : Nat) ({ cls := "DeskBench$Adverts", name := "bodyOf", desc := "(I)I" } : Jvm.MethodName) ∈ bigW := bw 246 (by decide +kernel) (by decide +kernel)
set_option maxRecDepth 20000 in
theorem k247 : Cond.instanceMethod ({ cls := "DeskBench$Adverts", name := "bodyOf", desc := "(I)I" } : Jvm.MethodName) ∈ bigW := bw 247 (by decide +kernel) (by decide +kernel)
set_option maxRecDepth 20000 in
theorem k248 : Cond.selects "DeskBench$Adverts" ({ cls := "DeskBench$Adverts", name := "bodyOf", desc := "(I)I" } : Jvm.MethodName) ({ cls := "DeskBench$Adverts", name := "bodyOf", desc := "(I)I" } : Jvm.MethodName) ∈ bigW := bw 248 (by decide +kernel) (by decide +kernel)
set_option maxRecDepth 20000 in
theorem k249 : Cond.code ({ cls := "DeskBench$Adverts", name := "bodyOf", desc := "(I)I" } : Jvm.MethodName) prog_2_method_4_code (2 : Nat) (Option.some Jvm.ClassFile.FieldType.int) ∈ bigW := bw 249 (by decide +kernel) (by decide +kernel)
set_option maxRecDepth 20000 in
theorem k250 : Cond.methodLink "DeskBench" (227 : Nat) ({ cls := "DeskBench$Message", name := "makeAdvert", desc := "(IIIII)V" } : Jvm.MethodName) ∈ bigW := bw 250 (by decide +kernel) (by decide +kernel)
set_option maxRecDepth 20000 in
theorem k251 : Cond.instanceMethod ({ cls := "DeskBench$Message", name := "makeAdvert", desc := "(IIIII)V" } : Jvm.MethodName) ∈ bigW := bw 251 (by decide +kernel) (by decide +kernel)
set_option maxRecDepth 20000 in
theorem k252 : Cond.selects "DeskBench$Message" ({ cls := "DeskBench$Message", name := "makeAdvert", desc := "(IIIII)V" } : Jvm.MethodName) ({ cls := "DeskBench$Message", name := "makeAdvert", desc := "(IIIII)V" } : Jvm.MethodName) ∈ bigW := bw 252 (by decide +kernel) (by decide +kernel)
set_option maxRecDepth 20000 in
theorem k253 : Cond.code ({ cls := "DeskBench$Message", name := "makeAdvert", desc := "(IIIII)V" } : Jvm.MethodName) prog_3_method_7_code (6 : Nat) (Option.none : Option Jvm.ClassFile.FieldType) ∈ bigW := bw 253 (by decide +kernel) (by decide +kernel)
set_option maxRecDepth 20000 in
theorem k258 : Cond.methodLink "DeskBench" (163 : Nat) ({ cls := "DeskBench$Message", name := "namedRouters", desc := "()J" } : Jvm.MethodName) ∈ bigW := bw 258 (by decide +kernel) (by decide +kernel)
set_option maxRecDepth 20000 in
theorem k259 : Cond.instanceMethod ({ cls := "DeskBench$Message", name := "namedRouters", desc := "()J" } : Jvm.MethodName) ∈ bigW := bw 259 (by decide +kernel) (by decide +kernel)
set_option maxRecDepth 20000 in
theorem k260 : Cond.selects "DeskBench$Message" ({ cls := "DeskBench$Message", name := "namedRouters", desc := "()J" } : Jvm.MethodName) ({ cls := "DeskBench$Message", name := "namedRouters", desc := "()J" } : Jvm.MethodName) ∈ bigW := bw 260 (by decide +kernel) (by decide +kernel)
set_option maxRecDepth 20000 in
theorem k261 : Cond.code ({ cls := "DeskBench$Message", name := "namedRouters", desc := "()J" } : Jvm.MethodName) prog_3_method_4_code (1 : Nat) (Option.some Jvm.ClassFile.FieldType.long) ∈ bigW := bw 261 (by decide +kernel) (by decide +kernel)
set_option maxRecDepth 20000 in
theorem k266 : Cond.methodLink "DeskBench" (175 : Nat) ({ cls := "DeskBench$Neighbours", name := "atLeast", desc := "(I)I" } : Jvm.MethodName) ∈ bigW := bw 266 (by decide +kernel) (by decide +kernel)
set_option maxRecDepth 20000 in
theorem k267 : Cond.instanceMethod ({ cls := "DeskBench$Neighbours", name := "atLeast", desc := "(I)I" } : Jvm.MethodName) ∈ bigW := bw 267 (by decide +kernel) (by decide +kernel)
set_option maxRecDepth 20000 in
theorem k268 : Cond.selects "DeskBench$Neighbours" ({ cls := "DeskBench$Neighbours", name := "atLeast", desc := "(I)I" } : Jvm.MethodName) ({ cls := "DeskBench$Neighbours", name := "atLeast", desc := "(I)I" } : Jvm.MethodName) ∈ bigW := bw 268 (by decide +kernel) (by decide +kernel)
set_option maxRecDepth 20000 in
theorem k269 : Cond.code ({ cls := "DeskBench$Neighbours", name := "atLeast", desc := "(I)I" } : Jvm.MethodName) prog_4_method_24_code (4 : Nat) (Option.some Jvm.ClassFile.FieldType.int) ∈ bigW := bw 269 (by decide +kernel) (by decide +kernel)
set_option maxRecDepth 20000 in
theorem k285 : Cond.methodLink "DeskBench" (41 : Nat) ({ cls := "DeskBench", name := "requirePort", desc := "(I)V" } : Jvm.MethodName) ∈ bigW := bw 285 (by decide +kernel) (by decide +kernel)
set_option maxRecDepth 20000 in
theorem k286 : Cond.static ({ cls := "DeskBench", name := "requirePort", desc := "(I)V" } : Jvm.MethodName) ∈ bigW := bw 286 (by decide +kernel) (by decide +kernel)
set_option maxRecDepth 20000 in
theorem k287 : Cond.code ({ cls := "DeskBench", name := "requirePort", desc := "(I)V" } : Jvm.MethodName) prog_1_method_20_code (1 : Nat) (Option.none : Option Jvm.ClassFile.FieldType) ∈ bigW := bw 287 (by decide +kernel) (by decide +kernel)
set_option maxRecDepth 20000 in
theorem k355 : Cond.methodLink "DeskBench" (45 : Nat) ({ cls := "DeskBench", name := "isOn", desc := "(I)Z" } : Jvm.MethodName) ∈ bigW := bw 355 (by decide +kernel) (by decide +kernel)
set_option maxRecDepth 20000 in
theorem k357 : Cond.instanceMethod ({ cls := "DeskBench", name := "isOn", desc := "(I)Z" } : Jvm.MethodName) ∈ bigW := bw 357 (by decide +kernel) (by decide +kernel)
set_option maxRecDepth 20000 in
theorem k358 : Cond.code ({ cls := "DeskBench", name := "isOn", desc := "(I)Z" } : Jvm.MethodName) prog_1_method_25_code (2 : Nat) (Option.some Jvm.ClassFile.FieldType.boolean) ∈ bigW := bw 358 (by decide +kernel) (by decide +kernel)
set_option maxRecDepth 20000 in
theorem k359 : Cond.methodLink "DeskBench" (55 : Nat) ({ cls := "DeskBench$Neighbours", name := "dropPort", desc := "(I)V" } : Jvm.MethodName) ∈ bigW := bw 359 (by decide +kernel) (by decide +kernel)
set_option maxRecDepth 20000 in
theorem k360 : Cond.instanceMethod ({ cls := "DeskBench$Neighbours", name := "dropPort", desc := "(I)V" } : Jvm.MethodName) ∈ bigW := bw 360 (by decide +kernel) (by decide +kernel)
set_option maxRecDepth 20000 in
theorem k361 : Cond.selects "DeskBench$Neighbours" ({ cls := "DeskBench$Neighbours", name := "dropPort", desc := "(I)V" } : Jvm.MethodName) ({ cls := "DeskBench$Neighbours", name := "dropPort", desc := "(I)V" } : Jvm.MethodName) ∈ bigW := bw 361 (by decide +kernel) (by decide +kernel)
set_option maxRecDepth 20000 in
theorem k362 : Cond.code ({ cls := "DeskBench$Neighbours", name := "dropPort", desc := "(I)V" } : Jvm.MethodName) prog_4_method_9_code (3 : Nat) (Option.none : Option Jvm.ClassFile.FieldType) ∈ bigW := bw 362 (by decide +kernel) (by decide +kernel)
set_option maxRecDepth 20000 in
theorem k363 : Cond.methodLink "DeskBench$Neighbours" (45 : Nat) ({ cls := "DeskBench$Neighbours", name := "drop", desc := "(I)V" } : Jvm.MethodName) ∈ bigW := bw 363 (by decide +kernel) (by decide +kernel)
set_option maxRecDepth 20000 in
theorem k365 : Cond.instanceMethod ({ cls := "DeskBench$Neighbours", name := "drop", desc := "(I)V" } : Jvm.MethodName) ∈ bigW := bw 365 (by decide +kernel) (by decide +kernel)
set_option maxRecDepth 20000 in
theorem k366 : Cond.code ({ cls := "DeskBench$Neighbours", name := "drop", desc := "(I)V" } : Jvm.MethodName) prog_4_method_8_code (2 : Nat) (Option.none : Option Jvm.ClassFile.FieldType) ∈ bigW := bw 366 (by decide +kernel) (by decide +kernel)
set_option maxRecDepth 20000 in
theorem k367 : Cond.methodLink "DeskBench$Neighbours" (41 : Nat) ({ cls := "DeskBench$Neighbours", name := "oweExactly", desc := "(IJ)V" } : Jvm.MethodName) ∈ bigW := bw 367 (by decide +kernel) (by decide +kernel)
set_option maxRecDepth 20000 in
theorem k369 : Cond.instanceMethod ({ cls := "DeskBench$Neighbours", name := "oweExactly", desc := "(IJ)V" } : Jvm.MethodName) ∈ bigW := bw 369 (by decide +kernel) (by decide +kernel)
set_option maxRecDepth 20000 in
theorem k370 : Cond.code ({ cls := "DeskBench$Neighbours", name := "oweExactly", desc := "(IJ)V" } : Jvm.MethodName) prog_4_method_7_code (4 : Nat) (Option.none : Option Jvm.ClassFile.FieldType) ∈ bigW := bw 370 (by decide +kernel) (by decide +kernel)
set_option maxRecDepth 20000 in
theorem k379 : Cond.methodLink "DeskBench" (58 : Nat) ({ cls := "DeskBench", name := "requireSender", desc := "(I)V" } : Jvm.MethodName) ∈ bigW := bw 379 (by decide +kernel) (by decide +kernel)
set_option maxRecDepth 20000 in
theorem k381 : Cond.instanceMethod ({ cls := "DeskBench", name := "requireSender", desc := "(I)V" } : Jvm.MethodName) ∈ bigW := bw 381 (by decide +kernel) (by decide +kernel)
set_option maxRecDepth 20000 in
theorem k382 : Cond.code ({ cls := "DeskBench", name := "requireSender", desc := "(I)V" } : Jvm.MethodName) prog_1_method_22_code (2 : Nat) (Option.none : Option Jvm.ClassFile.FieldType) ∈ bigW := bw 382 (by decide +kernel) (by decide +kernel)
set_option maxRecDepth 20000 in
theorem k383 : Cond.methodLink "DeskBench" (178 : Nat) ({ cls := "DeskBench", name := "isRouter", desc := "(I)Z" } : Jvm.MethodName) ∈ bigW := bw 383 (by decide +kernel) (by decide +kernel)
set_option maxRecDepth 20000 in
theorem k384 : Cond.static ({ cls := "DeskBench", name := "isRouter", desc := "(I)Z" } : Jvm.MethodName) ∈ bigW := bw 384 (by decide +kernel) (by decide +kernel)
set_option maxRecDepth 20000 in
theorem k385 : Cond.code ({ cls := "DeskBench", name := "isRouter", desc := "(I)Z" } : Jvm.MethodName) prog_1_method_18_code (1 : Nat) (Option.some Jvm.ClassFile.FieldType.boolean) ∈ bigW := bw 385 (by decide +kernel) (by decide +kernel)
set_option maxRecDepth 20000 in
theorem k387 : Cond.methodLink "DeskBench" (61 : Nat) ({ cls := "DeskBench", name := "requireOn", desc := "(I)V" } : Jvm.MethodName) ∈ bigW := bw 387 (by decide +kernel) (by decide +kernel)
set_option maxRecDepth 20000 in
theorem k389 : Cond.instanceMethod ({ cls := "DeskBench", name := "requireOn", desc := "(I)V" } : Jvm.MethodName) ∈ bigW := bw 389 (by decide +kernel) (by decide +kernel)
set_option maxRecDepth 20000 in
theorem k390 : Cond.code ({ cls := "DeskBench", name := "requireOn", desc := "(I)V" } : Jvm.MethodName) prog_1_method_23_code (2 : Nat) (Option.none : Option Jvm.ClassFile.FieldType) ∈ bigW := bw 390 (by decide +kernel) (by decide +kernel)
set_option maxRecDepth 20000 in
theorem k407 : Cond.methodLink "DeskBench" (64 : Nat) ({ cls := "DeskBench$Neighbours", name := "placeFor", desc := "(II)I" } : Jvm.MethodName) ∈ bigW := bw 407 (by decide +kernel) (by decide +kernel)
set_option maxRecDepth 20000 in
theorem k408 : Cond.instanceMethod ({ cls := "DeskBench$Neighbours", name := "placeFor", desc := "(II)I" } : Jvm.MethodName) ∈ bigW := bw 408 (by decide +kernel) (by decide +kernel)
set_option maxRecDepth 20000 in
theorem k409 : Cond.selects "DeskBench$Neighbours" ({ cls := "DeskBench$Neighbours", name := "placeFor", desc := "(II)I" } : Jvm.MethodName) ({ cls := "DeskBench$Neighbours", name := "placeFor", desc := "(II)I" } : Jvm.MethodName) ∈ bigW := bw 409 (by decide +kernel) (by decide +kernel)
set_option maxRecDepth 20000 in
theorem k410 : Cond.code ({ cls := "DeskBench$Neighbours", name := "placeFor", desc := "(II)I" } : Jvm.MethodName) prog_4_method_4_code (4 : Nat) (Option.some Jvm.ClassFile.FieldType.int) ∈ bigW := bw 410 (by decide +kernel) (by decide +kernel)
set_option maxRecDepth 20000 in
theorem k411 : Cond.methodLink "DeskBench$Neighbours" (34 : Nat) ({ cls := "DeskBench$Neighbours", name := "heardPlace", desc := "(II)I" } : Jvm.MethodName) ∈ bigW := bw 411 (by decide +kernel) (by decide +kernel)
set_option maxRecDepth 20000 in
theorem k413 : Cond.instanceMethod ({ cls := "DeskBench$Neighbours", name := "heardPlace", desc := "(II)I" } : Jvm.MethodName) ∈ bigW := bw 413 (by decide +kernel) (by decide +kernel)
set_option maxRecDepth 20000 in
theorem k414 : Cond.code ({ cls := "DeskBench$Neighbours", name := "heardPlace", desc := "(II)I" } : Jvm.MethodName) prog_4_method_2_code (4 : Nat) (Option.some Jvm.ClassFile.FieldType.int) ∈ bigW := bw 414 (by decide +kernel) (by decide +kernel)
set_option maxRecDepth 20000 in
theorem k415 : Cond.methodLink "DeskBench$Neighbours" (38 : Nat) ({ cls := "DeskBench$Neighbours", name := "takeFreePlace", desc := "(II)I" } : Jvm.MethodName) ∈ bigW := bw 415 (by decide +kernel) (by decide +kernel)
set_option maxRecDepth 20000 in
theorem k417 : Cond.instanceMethod ({ cls := "DeskBench$Neighbours", name := "takeFreePlace", desc := "(II)I" } : Jvm.MethodName) ∈ bigW := bw 417 (by decide +kernel) (by decide +kernel)
set_option maxRecDepth 20000 in
theorem k418 : Cond.code ({ cls := "DeskBench$Neighbours", name := "takeFreePlace", desc := "(II)I" } : Jvm.MethodName) prog_4_method_5_code (4 : Nat) (Option.some Jvm.ClassFile.FieldType.int) ∈ bigW := bw 418 (by decide +kernel) (by decide +kernel)
set_option maxRecDepth 20000 in
theorem k419 : Cond.methodLink "DeskBench" (71 : Nat) ({ cls := "DeskBench$Adverts", name := "allOrigins", desc := "()J" } : Jvm.MethodName) ∈ bigW := bw 419 (by decide +kernel) (by decide +kernel)
set_option maxRecDepth 20000 in
theorem k420 : Cond.instanceMethod ({ cls := "DeskBench$Adverts", name := "allOrigins", desc := "()J" } : Jvm.MethodName) ∈ bigW := bw 420 (by decide +kernel) (by decide +kernel)
set_option maxRecDepth 20000 in
theorem k421 : Cond.selects "DeskBench$Adverts" ({ cls := "DeskBench$Adverts", name := "allOrigins", desc := "()J" } : Jvm.MethodName) ({ cls := "DeskBench$Adverts", name := "allOrigins", desc := "()J" } : Jvm.MethodName) ∈ bigW := bw 421 (by decide +kernel) (by decide +kernel)
set_option maxRecDepth 20000 in
theorem k422 : Cond.code ({ cls := "DeskBench$Adverts", name := "allOrigins", desc := "()J" } : Jvm.MethodName) prog_2_method_7_code (4 : Nat) (Option.some Jvm.ClassFile.FieldType.long) ∈ bigW := bw 422 (by decide +kernel) (by decide +kernel)
set_option maxRecDepth 20000 in
theorem k423 : Cond.methodLink "DeskBench" (75 : Nat) ({ cls := "DeskBench$Neighbours", name := "greeted", desc := "(IIZJ)I" } : Jvm.MethodName) ∈ bigW := bw 423 (by decide +kernel) (by decide +kernel)
set_option maxRecDepth 20000 in
theorem k424 : Cond.instanceMethod ({ cls := "DeskBench$Neighbours", name := "greeted", desc := "(IIZJ)I" } : Jvm.MethodName) ∈ bigW := bw 424 (by decide +kernel) (by decide +kernel)
set_option maxRecDepth 20000 in
theorem k425 : Cond.selects "DeskBench$Neighbours" ({ cls := "DeskBench$Neighbours", name := "greeted", desc := "(IIZJ)I" } : Jvm.MethodName) ({ cls := "DeskBench$Neighbours", name := "greeted", desc := "(IIZJ)I" } : Jvm.MethodName) ∈ bigW := bw 425 (by decide +kernel) (by decide +kernel)
set_option maxRecDepth 20000 in
theorem k426 : Cond.code ({ cls := "DeskBench$Neighbours", name := "greeted", desc := "(IIZJ)I" } : Jvm.MethodName) prog_4_method_6_code (6 : Nat) (Option.some Jvm.ClassFile.FieldType.int) ∈ bigW := bw 426 (by decide +kernel) (by decide +kernel)
set_option maxRecDepth 20000 in
theorem k434 : Cond.methodLink "DeskBench" (79 : Nat) ({ cls := "DeskBench", name := "requireLegal", desc := "(IIII)V" } : Jvm.MethodName) ∈ bigW := bw 434 (by decide +kernel) (by decide +kernel)
set_option maxRecDepth 20000 in
theorem k436 : Cond.instanceMethod ({ cls := "DeskBench", name := "requireLegal", desc := "(IIII)V" } : Jvm.MethodName) ∈ bigW := bw 436 (by decide +kernel) (by decide +kernel)
set_option maxRecDepth 20000 in
theorem k437 : Cond.code ({ cls := "DeskBench", name := "requireLegal", desc := "(IIII)V" } : Jvm.MethodName) prog_1_method_24_code (5 : Nat) (Option.none : Option Jvm.ClassFile.FieldType) ∈ bigW := bw 437 (by decide +kernel) (by decide +kernel)
set_option maxRecDepth 20000 in
theorem k438 : Cond.methodLink "DeskBench" (115 : Nat) ({ cls := "DeskBench", name := "requireRouter", desc := "(I)V" } : Jvm.MethodName) ∈ bigW := bw 438 (by decide +kernel) (by decide +kernel)
set_option maxRecDepth 20000 in
theorem k439 : Cond.static ({ cls := "DeskBench", name := "requireRouter", desc := "(I)V" } : Jvm.MethodName) ∈ bigW := bw 439 (by decide +kernel) (by decide +kernel)
set_option maxRecDepth 20000 in
theorem k440 : Cond.code ({ cls := "DeskBench", name := "requireRouter", desc := "(I)V" } : Jvm.MethodName) prog_1_method_19_code (1 : Nat) (Option.none : Option Jvm.ClassFile.FieldType) ∈ bigW := bw 440 (by decide +kernel) (by decide +kernel)
set_option maxRecDepth 20000 in
theorem k442 : Cond.methodLink "DeskBench" (192 : Nat) ({ cls := "DeskBench", name := "requireNumber", desc := "(I)V" } : Jvm.MethodName) ∈ bigW := bw 442 (by decide +kernel) (by decide +kernel)
set_option maxRecDepth 20000 in
theorem k443 : Cond.static ({ cls := "DeskBench", name := "requireNumber", desc := "(I)V" } : Jvm.MethodName) ∈ bigW := bw 443 (by decide +kernel) (by decide +kernel)
set_option maxRecDepth 20000 in
theorem k444 : Cond.code ({ cls := "DeskBench", name := "requireNumber", desc := "(I)V" } : Jvm.MethodName) prog_1_method_21_code (1 : Nat) (Option.none : Option Jvm.ClassFile.FieldType) ∈ bigW := bw 444 (by decide +kernel) (by decide +kernel)
set_option maxRecDepth 20000 in
theorem k445 : Cond.constant "DeskBench" (185 : Nat) (1000000000 : Int32) ∈ bigW := bw 445 (by decide +kernel) (by decide +kernel)
set_option maxRecDepth 20000 in
theorem k447 : Cond.methodLink "DeskBench" (83 : Nat) ({ cls := "DeskBench$Neighbours", name := "friendPlace", desc := "(II)I" } : Jvm.MethodName) ∈ bigW := bw 447 (by decide +kernel) (by decide +kernel)
set_option maxRecDepth 20000 in
theorem k448 : Cond.instanceMethod ({ cls := "DeskBench$Neighbours", name := "friendPlace", desc := "(II)I" } : Jvm.MethodName) ∈ bigW := bw 448 (by decide +kernel) (by decide +kernel)
set_option maxRecDepth 20000 in
theorem k449 : Cond.selects "DeskBench$Neighbours" ({ cls := "DeskBench$Neighbours", name := "friendPlace", desc := "(II)I" } : Jvm.MethodName) ({ cls := "DeskBench$Neighbours", name := "friendPlace", desc := "(II)I" } : Jvm.MethodName) ∈ bigW := bw 449 (by decide +kernel) (by decide +kernel)
set_option maxRecDepth 20000 in
theorem k450 : Cond.code ({ cls := "DeskBench$Neighbours", name := "friendPlace", desc := "(II)I" } : Jvm.MethodName) prog_4_method_3_code (4 : Nat) (Option.some Jvm.ClassFile.FieldType.int) ∈ bigW := bw 450 (by decide +kernel) (by decide +kernel)
set_option maxRecDepth 20000 in
theorem k451 : Cond.methodLink "DeskBench" (86 : Nat) ({ cls := "DeskBench$ThanksQueue", name := "add", desc := "(IIII)V" } : Jvm.MethodName) ∈ bigW := bw 451 (by decide +kernel) (by decide +kernel)
set_option maxRecDepth 20000 in
theorem k452 : Cond.instanceMethod ({ cls := "DeskBench$ThanksQueue", name := "add", desc := "(IIII)V" } : Jvm.MethodName) ∈ bigW := bw 452 (by decide +kernel) (by decide +kernel)
set_option maxRecDepth 20000 in
theorem k453 : Cond.selects "DeskBench$ThanksQueue" ({ cls := "DeskBench$ThanksQueue", name := "add", desc := "(IIII)V" } : Jvm.MethodName) ({ cls := "DeskBench$ThanksQueue", name := "add", desc := "(IIII)V" } : Jvm.MethodName) ∈ bigW := bw 453 (by decide +kernel) (by decide +kernel)
set_option maxRecDepth 20000 in
theorem k454 : Cond.code ({ cls := "DeskBench$ThanksQueue", name := "add", desc := "(IIII)V" } : Jvm.MethodName) prog_5_method_3_code (6 : Nat) (Option.none : Option Jvm.ClassFile.FieldType) ∈ bigW := bw 454 (by decide +kernel) (by decide +kernel)
set_option maxRecDepth 20000 in
theorem k455 : Cond.methodLink "DeskBench" (93 : Nat) ({ cls := "DeskBench$Neighbours", name := "settle", desc := "(II)Z" } : Jvm.MethodName) ∈ bigW := bw 455 (by decide +kernel) (by decide +kernel)
set_option maxRecDepth 20000 in
theorem k456 : Cond.instanceMethod ({ cls := "DeskBench$Neighbours", name := "settle", desc := "(II)Z" } : Jvm.MethodName) ∈ bigW := bw 456 (by decide +kernel) (by decide +kernel)
set_option maxRecDepth 20000 in
theorem k457 : Cond.selects "DeskBench$Neighbours" ({ cls := "DeskBench$Neighbours", name := "settle", desc := "(II)Z" } : Jvm.MethodName) ({ cls := "DeskBench$Neighbours", name := "settle", desc := "(II)Z" } : Jvm.MethodName) ∈ bigW := bw 457 (by decide +kernel) (by decide +kernel)
set_option maxRecDepth 20000 in
theorem k458 : Cond.code ({ cls := "DeskBench$Neighbours", name := "settle", desc := "(II)Z" } : Jvm.MethodName) prog_4_method_13_code (6 : Nat) (Option.some Jvm.ClassFile.FieldType.boolean) ∈ bigW := bw 458 (by decide +kernel) (by decide +kernel)
set_option maxRecDepth 20000 in
theorem k459 : Cond.methodLink "DeskBench" (97 : Nat) ({ cls := "DeskBench", name := "takeOwnBack", desc := "(II)I" } : Jvm.MethodName) ∈ bigW := bw 459 (by decide +kernel) (by decide +kernel)
set_option maxRecDepth 20000 in
theorem k461 : Cond.instanceMethod ({ cls := "DeskBench", name := "takeOwnBack", desc := "(II)I" } : Jvm.MethodName) ∈ bigW := bw 461 (by decide +kernel) (by decide +kernel)
set_option maxRecDepth 20000 in
theorem k462 : Cond.code ({ cls := "DeskBench", name := "takeOwnBack", desc := "(II)I" } : Jvm.MethodName) prog_1_method_26_code (3 : Nat) (Option.some Jvm.ClassFile.FieldType.int) ∈ bigW := bw 462 (by decide +kernel) (by decide +kernel)
set_option maxRecDepth 20000 in
theorem k463 : Cond.methodLink "DeskBench" (195 : Nat) ({ cls := "DeskBench$Neighbours", name := "owe", desc := "(II)V" } : Jvm.MethodName) ∈ bigW := bw 463 (by decide +kernel) (by decide +kernel)
set_option maxRecDepth 20000 in
theorem k464 : Cond.methodLink "DeskBench" (100 : Nat) ({ cls := "DeskBench", name := "takeAdvert", desc := "(IIII)I" } : Jvm.MethodName) ∈ bigW := bw 464 (by decide +kernel) (by decide +kernel)
set_option maxRecDepth 20000 in
theorem k466 : Cond.instanceMethod ({ cls := "DeskBench", name := "takeAdvert", desc := "(IIII)I" } : Jvm.MethodName) ∈ bigW := bw 466 (by decide +kernel) (by decide +kernel)
set_option maxRecDepth 20000 in
theorem k467 : Cond.code ({ cls := "DeskBench", name := "takeAdvert", desc := "(IIII)I" } : Jvm.MethodName) prog_1_method_27_code (6 : Nat) (Option.some Jvm.ClassFile.FieldType.int) ∈ bigW := bw 467 (by decide +kernel) (by decide +kernel)
set_option maxRecDepth 20000 in
theorem k482 : Cond.methodLink "DeskBench" (118 : Nat) ({ cls := "DeskBench$Adverts", name := "has", desc := "(I)Z" } : Jvm.MethodName) ∈ bigW := bw 482 (by decide +kernel) (by decide +kernel)
set_option maxRecDepth 20000 in
theorem k483 : Cond.instanceMethod ({ cls := "DeskBench$Adverts", name := "has", desc := "(I)Z" } : Jvm.MethodName) ∈ bigW := bw 483 (by decide +kernel) (by decide +kernel)
set_option maxRecDepth 20000 in
theorem k484 : Cond.selects "DeskBench$Adverts" ({ cls := "DeskBench$Adverts", name := "has", desc := "(I)Z" } : Jvm.MethodName) ({ cls := "DeskBench$Adverts", name := "has", desc := "(I)Z" } : Jvm.MethodName) ∈ bigW := bw 484 (by decide +kernel) (by decide +kernel)
set_option maxRecDepth 20000 in
theorem k485 : Cond.code ({ cls := "DeskBench$Adverts", name := "has", desc := "(I)Z" } : Jvm.MethodName) prog_2_method_2_code (2 : Nat) (Option.some Jvm.ClassFile.FieldType.boolean) ∈ bigW := bw 485 (by decide +kernel) (by decide +kernel)
set_option maxRecDepth 20000 in
theorem k486 : Cond.methodLink "DeskBench" (121 : Nat) ({ cls := "DeskBench$Adverts", name := "remove", desc := "(I)V" } : Jvm.MethodName) ∈ bigW := bw 486 (by decide +kernel) (by decide +kernel)
set_option maxRecDepth 20000 in
theorem k487 : Cond.instanceMethod ({ cls := "DeskBench$Adverts", name := "remove", desc := "(I)V" } : Jvm.MethodName) ∈ bigW := bw 487 (by decide +kernel) (by decide +kernel)
set_option maxRecDepth 20000 in
theorem k488 : Cond.selects "DeskBench$Adverts" ({ cls := "DeskBench$Adverts", name := "remove", desc := "(I)V" } : Jvm.MethodName) ({ cls := "DeskBench$Adverts", name := "remove", desc := "(I)V" } : Jvm.MethodName) ∈ bigW := bw 488 (by decide +kernel) (by decide +kernel)
set_option maxRecDepth 20000 in
theorem k489 : Cond.code ({ cls := "DeskBench$Adverts", name := "remove", desc := "(I)V" } : Jvm.MethodName) prog_2_method_6_code (2 : Nat) (Option.none : Option Jvm.ClassFile.FieldType) ∈ bigW := bw 489 (by decide +kernel) (by decide +kernel)
set_option maxRecDepth 20000 in
theorem k490 : Cond.methodLink "DeskBench$Adverts" (18 : Nat) ({ cls := "DeskBench$Adverts", name := "put", desc := "(III)V" } : Jvm.MethodName) ∈ bigW := bw 490 (by decide +kernel) (by decide +kernel)
set_option maxRecDepth 20000 in
theorem k491 : Cond.methodLink "DeskBench" (124 : Nat) ({ cls := "DeskBench$Neighbours", name := "settleAll", desc := "(I)V" } : Jvm.MethodName) ∈ bigW := bw 491 (by decide +kernel) (by decide +kernel)
set_option maxRecDepth 20000 in
theorem k492 : Cond.instanceMethod ({ cls := "DeskBench$Neighbours", name := "settleAll", desc := "(I)V" } : Jvm.MethodName) ∈ bigW := bw 492 (by decide +kernel) (by decide +kernel)
set_option maxRecDepth 20000 in
theorem k493 : Cond.selects "DeskBench$Neighbours" ({ cls := "DeskBench$Neighbours", name := "settleAll", desc := "(I)V" } : Jvm.MethodName) ({ cls := "DeskBench$Neighbours", name := "settleAll", desc := "(I)V" } : Jvm.MethodName) ∈ bigW := bw 493 (by decide +kernel) (by decide +kernel)
set_option maxRecDepth 20000 in
theorem k494 : Cond.code ({ cls := "DeskBench$Neighbours", name := "settleAll", desc := "(I)V" } : Jvm.MethodName) prog_4_method_14_code (3 : Nat) (Option.none : Option Jvm.ClassFile.FieldType) ∈ bigW := bw 494 (by decide +kernel) (by decide +kernel)
set_option maxRecDepth 20000 in
theorem k495 : Cond.methodLink "DeskBench$Neighbours" (55 : Nat) ({ cls := "DeskBench$Neighbours", name := "settle", desc := "(II)Z" } : Jvm.MethodName) ∈ bigW := bw 495 (by decide +kernel) (by decide +kernel)
set_option maxRecDepth 20000 in
theorem k504 : Cond.constant "DeskBench" (134 : Nat) (1000000 : Int32) ∈ bigW := bw 504 (by decide +kernel) (by decide +kernel)
set_option maxRecDepth 20000 in
theorem k506 : Cond.methodLink "DeskBench" (140 : Nat) ({ cls := "DeskBench$Neighbours", name := "dropSilent", desc := "(I)V" } : Jvm.MethodName) ∈ bigW := bw 506 (by decide +kernel) (by decide +kernel)
set_option maxRecDepth 20000 in
theorem k507 : Cond.instanceMethod ({ cls := "DeskBench$Neighbours", name := "dropSilent", desc := "(I)V" } : Jvm.MethodName) ∈ bigW := bw 507 (by decide +kernel) (by decide +kernel)
set_option maxRecDepth 20000 in
theorem k508 : Cond.selects "DeskBench$Neighbours" ({ cls := "DeskBench$Neighbours", name := "dropSilent", desc := "(I)V" } : Jvm.MethodName) ({ cls := "DeskBench$Neighbours", name := "dropSilent", desc := "(I)V" } : Jvm.MethodName) ∈ bigW := bw 508 (by decide +kernel) (by decide +kernel)
set_option maxRecDepth 20000 in
theorem k509 : Cond.code ({ cls := "DeskBench$Neighbours", name := "dropSilent", desc := "(I)V" } : Jvm.MethodName) prog_4_method_10_code (3 : Nat) (Option.none : Option Jvm.ClassFile.FieldType) ∈ bigW := bw 509 (by decide +kernel) (by decide +kernel)
set_option maxRecDepth 20000 in
theorem k518 : Cond.methodLink "DeskBench" (155 : Nat) ({ cls := "DeskBench$Message", name := "isMade", desc := "()Z" } : Jvm.MethodName) ∈ bigW := bw 518 (by decide +kernel) (by decide +kernel)
set_option maxRecDepth 20000 in
theorem k519 : Cond.instanceMethod ({ cls := "DeskBench$Message", name := "isMade", desc := "()Z" } : Jvm.MethodName) ∈ bigW := bw 519 (by decide +kernel) (by decide +kernel)
set_option maxRecDepth 20000 in
theorem k520 : Cond.selects "DeskBench$Message" ({ cls := "DeskBench$Message", name := "isMade", desc := "()Z" } : Jvm.MethodName) ({ cls := "DeskBench$Message", name := "isMade", desc := "()Z" } : Jvm.MethodName) ∈ bigW := bw 520 (by decide +kernel) (by decide +kernel)
set_option maxRecDepth 20000 in
theorem k521 : Cond.code ({ cls := "DeskBench$Message", name := "isMade", desc := "()Z" } : Jvm.MethodName) prog_3_method_2_code (1 : Nat) (Option.some Jvm.ClassFile.FieldType.boolean) ∈ bigW := bw 521 (by decide +kernel) (by decide +kernel)
set_option maxRecDepth 20000 in
theorem k523 : Cond.methodLink "DeskBench" (160 : Nat) ({ cls := "DeskBench$Message", name := "part", desc := "(I)I" } : Jvm.MethodName) ∈ bigW := bw 523 (by decide +kernel) (by decide +kernel)
set_option maxRecDepth 20000 in
theorem k524 : Cond.instanceMethod ({ cls := "DeskBench$Message", name := "part", desc := "(I)I" } : Jvm.MethodName) ∈ bigW := bw 524 (by decide +kernel) (by decide +kernel)
set_option maxRecDepth 20000 in
theorem k525 : Cond.selects "DeskBench$Message" ({ cls := "DeskBench$Message", name := "part", desc := "(I)I" } : Jvm.MethodName) ({ cls := "DeskBench$Message", name := "part", desc := "(I)I" } : Jvm.MethodName) ∈ bigW := bw 525 (by decide +kernel) (by decide +kernel)
set_option maxRecDepth 20000 in
theorem k526 : Cond.code ({ cls := "DeskBench$Message", name := "part", desc := "(I)I" } : Jvm.MethodName) prog_3_method_3_code (2 : Nat) (Option.some Jvm.ClassFile.FieldType.int) ∈ bigW := bw 526 (by decide +kernel) (by decide +kernel)
set_option maxRecDepth 20000 in
theorem k534 : Cond.methodLink "DeskBench" (166 : Nat) ({ cls := "DeskBench$Neighbours", name := "standingOf", desc := "(II)I" } : Jvm.MethodName) ∈ bigW := bw 534 (by decide +kernel) (by decide +kernel)
set_option maxRecDepth 20000 in
theorem k535 : Cond.instanceMethod ({ cls := "DeskBench$Neighbours", name := "standingOf", desc := "(II)I" } : Jvm.MethodName) ∈ bigW := bw 535 (by decide +kernel) (by decide +kernel)
set_option maxRecDepth 20000 in
theorem k536 : Cond.selects "DeskBench$Neighbours" ({ cls := "DeskBench$Neighbours", name := "standingOf", desc := "(II)I" } : Jvm.MethodName) ({ cls := "DeskBench$Neighbours", name := "standingOf", desc := "(II)I" } : Jvm.MethodName) ∈ bigW := bw 536 (by decide +kernel) (by decide +kernel)
set_option maxRecDepth 20000 in
theorem k537 : Cond.code ({ cls := "DeskBench$Neighbours", name := "standingOf", desc := "(II)I" } : Jvm.MethodName) prog_4_method_22_code (4 : Nat) (Option.some Jvm.ClassFile.FieldType.int) ∈ bigW := bw 537 (by decide +kernel) (by decide +kernel)
theorem inAD : ∀ w ∈ u_ws RAD TAD 2, w ∈ bigW := by
  intro w h
  obtain ⟨k, hk, rfl⟩ := List.mem_map.mp h
  have hk := List.mem_range.mp hk
  match k, hk with
  | 0, _ => exact bw 55 (by decide +kernel) (by decide +kernel)
  | 1, _ => exact bw 57 (by decide +kernel) (by decide +kernel)
  | k + 2, h => omega
theorem inMS : ∀ w ∈ u_ws RMS TMS 2, w ∈ bigW := by
  intro w h
  obtain ⟨k, hk, rfl⟩ := List.mem_map.mp h
  have hk := List.mem_range.mp hk
  match k, hk with
  | 0, _ => exact bw 123 (by decide +kernel) (by decide +kernel)
  | 1, _ => exact bw 125 (by decide +kernel) (by decide +kernel)
  | k + 2, h => omega
theorem inNB : ∀ w ∈ u_ws RNB TNB 7, w ∈ bigW := by
  intro w h
  obtain ⟨k, hk, rfl⟩ := List.mem_map.mp h
  have hk := List.mem_range.mp hk
  match k, hk with
  | 0, _ => exact bw 74 (by decide +kernel) (by decide +kernel)
  | 1, _ => exact bw 76 (by decide +kernel) (by decide +kernel)
  | 2, _ => exact bw 78 (by decide +kernel) (by decide +kernel)
  | 3, _ => exact bw 80 (by decide +kernel) (by decide +kernel)
  | 4, _ => exact bw 82 (by decide +kernel) (by decide +kernel)
  | 5, _ => exact bw 84 (by decide +kernel) (by decide +kernel)
  | 6, _ => exact bw 86 (by decide +kernel) (by decide +kernel)
  | k + 7, h => omega
theorem inTQ : ∀ w ∈ u_ws RTQ TTQ 6, w ∈ bigW := by
  intro w h
  obtain ⟨k, hk, rfl⟩ := List.mem_map.mp h
  have hk := List.mem_range.mp hk
  match k, hk with
  | 0, _ => exact bw 102 (by decide +kernel) (by decide +kernel)
  | 1, _ => exact bw 104 (by decide +kernel) (by decide +kernel)
  | 2, _ => exact bw 106 (by decide +kernel) (by decide +kernel)
  | 3, _ => exact bw 108 (by decide +kernel) (by decide +kernel)
  | 4, _ => exact bw 110 (by decide +kernel) (by decide +kernel)
  | 5, _ => exact bw 112 (by decide +kernel) (by decide +kernel)
  | k + 6, h => omega
theorem inDB : ∀ w ∈ u_ws RDB TDB 9, w ∈ bigW := by
  intro w h
  obtain ⟨k, hk, rfl⟩ := List.mem_map.mp h
  have hk := List.mem_range.mp hk
  match k, hk with
  | 0, _ => exact bw 137 (by decide +kernel) (by decide +kernel)
  | 1, _ => exact bw 139 (by decide +kernel) (by decide +kernel)
  | 2, _ => exact bw 141 (by decide +kernel) (by decide +kernel)
  | 3, _ => exact bw 143 (by decide +kernel) (by decide +kernel)
  | 4, _ => exact bw 145 (by decide +kernel) (by decide +kernel)
  | 5, _ => exact bw 147 (by decide +kernel) (by decide +kernel)
  | 6, _ => exact bw 149 (by decide +kernel) (by decide +kernel)
  | 7, _ => exact bw 151 (by decide +kernel) (by decide +kernel)
  | 8, _ => exact bw 153 (by decide +kernel) (by decide +kernel)
  | k + 9, h => omega
theorem inRM : ∀ w ∈ u_ws RRM TRM 16, w ∈ bigW := by
  intro w h
  obtain ⟨k, hk, rfl⟩ := List.mem_map.mp h
  have hk := List.mem_range.mp hk
  match k, hk with
  | 0, _ => exact bw 591 (by decide +kernel) (by decide +kernel)
  | 1, _ => exact bw 593 (by decide +kernel) (by decide +kernel)
  | 2, _ => exact bw 595 (by decide +kernel) (by decide +kernel)
  | 3, _ => exact bw 597 (by decide +kernel) (by decide +kernel)
  | 4, _ => exact bw 599 (by decide +kernel) (by decide +kernel)
  | 5, _ => exact bw 601 (by decide +kernel) (by decide +kernel)
  | 6, _ => exact bw 603 (by decide +kernel) (by decide +kernel)
  | 7, _ => exact bw 605 (by decide +kernel) (by decide +kernel)
  | 8, _ => exact bw 607 (by decide +kernel) (by decide +kernel)
  | 9, _ => exact bw 609 (by decide +kernel) (by decide +kernel)
  | 10, _ => exact bw 611 (by decide +kernel) (by decide +kernel)
  | 11, _ => exact bw 613 (by decide +kernel) (by decide +kernel)
  | 12, _ => exact bw 615 (by decide +kernel) (by decide +kernel)
  | 13, _ => exact bw 617 (by decide +kernel) (by decide +kernel)
  | 14, _ => exact bw 619 (by decide +kernel) (by decide +kernel)
  | 15, _ => exact bw 621 (by decide +kernel) (by decide +kernel)
  | k + 16, h => omega
end
section
/-! Rows of our own, over the kit's: a world that is a function of a state (w : S → cells), one contract form, calls in that form. -/
/-- an int that is -1 or a place -/
def oi (o : Option Nat) : Int32 := match o with
  | none => -1
  | some k => nI k
/-- an int that is a boolean -/
def bi (b : Bool) : Int32 := cond b 1 0
def bI (k : Nat) : Int32 := 1 <<< (nI k &&& 31)
def bL (k : Nat) : Int64 := 1 <<< ((nI k).toInt64 &&& 63)
def bW (x : Int32) : Int64 := 1 <<< (x.toInt64 &&& 63)
theorem bi_inj {x y : Bool} (h : bi x = bi y) : x = y := by
  cases x <;> cases y <;> first | rfl | (exact absurd h (by decide))
theorem bi_0 {b : Bool} : bi b = 0 ↔ b = false := by cases b <;> decide
theorem nI_m1 {k : Nat} (h : k < 2 ^ 31) : ¬ nI k = -1 := by
  intro q
  have h1 := nI_toInt h
  rw [q] at h1
  have h2 : (-1 : Int32).toInt = -1 := by decide
  omega
theorem nI_z {k : Nat} (h : k < 2 ^ 31) : nI k = 0 ↔ k = 0 := by
  constructor
  · intro q
    have h1 := nI_toInt h
    rw [q, Int32.toInt_zero] at h1
    omega
  · intro q
    subst q
    exact nI_0
theorem nI_sub1 {k : Nat} (h : 0 < k) : nI k - 1 = nI (k - 1) := by
  obtain ⟨j, rfl⟩ : ∃ j, k = j + 1 := ⟨k - 1, by omega⟩
  exact nI_pred j
/-- what a method knows of its own frame -/
abbrev gFix (p : Program) (c : Code) (cc : ByteArray) (meth : Method) (ret : Option FieldType) (m : MethodId) (s : State) (args : Array Value) (ws : List Cond) (own : String) (nL : Nat) : Prop :=
  p.tables.exec = Jvm.exec ∧ c.code = cc ∧ meth.sig.returnType = ret ∧ c.maxLocals = nL ∧ s.vm.findClass own = some m.cls ∧ (∀ w ∈ ws, w.before args s = true) ∧ meth.locks = false
/-- the world holds the state u -/
abbrev gG {S : Type} (D : va_G) (tys : List (ClassId × FieldType)) (w : S → va_W) (u : S) (t : State) : Prop := va_P D vwCl (w u) t.heap ∧ va_K D vwCl tys t
section GR
variable {p : Program} {l : Launch} {e : Env} {R : Room} {s : State} {m : MethodId} {args : Array Value} {below : List Frame} {meth : Method} {c : Code} {H : Heap} {locs : List Loc} {cells slots : Nat} {Q : State → Prop}
variable {cc : ByteArray} {pc : Nat} {ls : Array Slot} {rest : List Value} {D : va_G} {tys : List (ClassId × FieldType)} {ws : va_W} {A : Nat → Prop} {H0 : Heap} {a : Nat}
theorem lv_eqi {x y : Int32} (h : x = y) (k : W p l e R s m args below meth c H locs cells slots Q (F0 m pc ls (.int y :: rest))) : W p l e R s m args below meth c H locs cells slots Q (F0 m pc ls (.int x :: rest)) := by
  subst h; exact k
theorem lv_if_eqb (hexec : p.tables.exec = Jvm.exec) (hb : c.code = cc) {b : Bool} {off : Int} {tgt : Nat} (hdg : decode cc pc = .ok (.ifCond .eq off, 3)) (ht : (pc : Int) + off = (tgt : Int))
    (kt : b = false → W p l e R s m args below meth c H locs cells slots Q (F0 m tgt ls rest)) (kf : b = true → W p l e R s m args below meth c H locs cells slots Q (F0 m (pc + 3) ls rest)) : W p l e R s m args below meth c H locs cells slots Q (F0 m pc ls (.int (bi b) :: rest)) :=
  lv_if_eq hexec hb hdg ht (fun h => kt (bi_0.mp h)) (fun h => kf (by cases b with | false => exact absurd rfl h | true => rfl))
theorem lv_if_neb (hexec : p.tables.exec = Jvm.exec) (hb : c.code = cc) {b : Bool} {off : Int} {tgt : Nat} (hdg : decode cc pc = .ok (.ifCond .ne off, 3)) (ht : (pc : Int) + off = (tgt : Int))
    (kt : b = true → W p l e R s m args below meth c H locs cells slots Q (F0 m tgt ls rest)) (kf : b = false → W p l e R s m args below meth c H locs cells slots Q (F0 m (pc + 3) ls rest)) : W p l e R s m args below meth c H locs cells slots Q (F0 m pc ls (.int (bi b) :: rest)) :=
  lv_if_ne hexec hb hdg ht (fun h => kt (by cases b with | false => exact absurd rfl h | true => rfl)) (fun h => kf (bi_0.mp h))
theorem lv_lif_eq (hexec : p.tables.exec = Jvm.exec) (hb : c.code = cc) {x y : Int64} {off : Int} {tgt : Nat} (hd1 : decode cc pc = .ok (.lcmp, 1)) (hd2 : decode cc (pc + 1) = .ok (.ifCond .eq off, 3)) (ht : ((pc + 1 : Nat) : Int) + off = (tgt : Int))
    (kt : x = y → W p l e R s m args below meth c H locs cells slots Q (F0 m tgt ls rest)) (kf : ¬ x = y → W p l e R s m args below meth c H locs cells slots Q (F0 m (pc + 1 + 3) ls rest)) : W p l e R s m args below meth c H locs cells slots Q (F0 m pc ls (.long y :: .long x :: rest)) :=
  W.lcmp hexec hb hd1 (lv_if_eq hexec hb hd2 ht (fun h => kt ((lg_cmp_eq x y).mp h)) (fun h => kf (fun q => h ((lg_cmp_eq x y).mpr q))))
theorem lv_lif_ne (hexec : p.tables.exec = Jvm.exec) (hb : c.code = cc) {x y : Int64} {off : Int} {tgt : Nat} (hd1 : decode cc pc = .ok (.lcmp, 1)) (hd2 : decode cc (pc + 1) = .ok (.ifCond .ne off, 3)) (ht : ((pc + 1 : Nat) : Int) + off = (tgt : Int))
    (kt : ¬ x = y → W p l e R s m args below meth c H locs cells slots Q (F0 m tgt ls rest)) (kf : x = y → W p l e R s m args below meth c H locs cells slots Q (F0 m (pc + 1 + 3) ls rest)) : W p l e R s m args below meth c H locs cells slots Q (F0 m pc ls (.long y :: .long x :: rest)) :=
  W.lcmp hexec hb hd1 (lv_if_ne hexec hb hd2 ht (fun h => kt (fun q => h ((lg_cmp_eq x y).mpr q))) (fun h => kf ((lg_cmp_eq x y).mp h)))
theorem ir_iald (hexec : p.tables.exec = Jvm.exec) (hb : c.code = cc) (hK : va_K D vwCl tys s) (hP : va_P D vwCl ws H) (q0 t0 : Nat) {cA : ClassId} {n : Nat} {f : Nat → Int32} (ha : ws[q0]? = some (a, .inl (cA, n, .inl f))) (ht : tys[t0]? = some (cA, .int)) {k : Nat} (hk : k < n) (hn : n < 2 ^ 31) (hdg : decode cc pc = .ok (.iaload, 1))
    (kk : W p l e R s m args below meth c H locs cells slots Q (F0 m (pc + 1) ls (.int (f k) :: rest))) : W p l e R s m args below meth c H locs cells slots Q (F0 m pc ls (.int (nI k) :: .ref a :: rest)) := by
  refine va_iald hexec hb hK hP q0 t0 ha ht (vp_in_nI hk hn) hdg ?_
  rw [nI_clamp (by omega)]
  exact kk
theorem ir_lald (hexec : p.tables.exec = Jvm.exec) (hb : c.code = cc) (hK : va_K D vwCl tys s) (hP : va_P D vwCl ws H) (q0 t0 : Nat) {cA : ClassId} {n : Nat} {f : Nat → Int64} (ha : ws[q0]? = some (a, .inl (cA, n, .inr (.inl f)))) (ht : tys[t0]? = some (cA, .long)) {k : Nat} (hk : k < n) (hn : n < 2 ^ 31) (hdg : decode cc pc = .ok (.laload, 1))
    (kk : W p l e R s m args below meth c H locs cells slots Q (F0 m (pc + 1) ls (.long (f k) :: rest))) : W p l e R s m args below meth c H locs cells slots Q (F0 m pc ls (.int (nI k) :: .ref a :: rest)) := by
  refine va_lald hexec hb hK hP q0 t0 ha ht (vp_in_nI hk hn) hdg ?_
  rw [nI_clamp (by omega)]
  exact kk
theorem ir_iast (hexec : p.tables.exec = Jvm.exec) (hb : c.code = cc) (hK : va_K D vwCl tys s) (hP : va_P D vwCl ws H) (hD : va_D A ws) (hS : va_S A H0 H locs) (q0 t0 : Nat) {cA : ClassId} {n : Nat} {f : Nat → Int32} (ha : ws[q0]? = some (a, .inl (cA, n, .inl f))) (ht : tys[t0]? = some (cA, .int)) {k : Nat} {x : Int32} (hk : k < n) (hn : n < 2 ^ 31) (hdg : decode cc pc = .ok (.iastore, 1))
    (kk : ∀ (H1 : Heap) (locs1 : List Loc), va_P D vwCl (ws.set q0 (a, .inl (cA, n, .inl (upd f k x)))) H1 → va_S A H0 H1 locs1 → W p l e R s m args below meth c H1 locs1 cells slots Q (F0 m (pc + 1) ls rest)) : W p l e R s m args below meth c H locs cells slots Q (F0 m pc ls (.int x :: .int (nI k) :: .ref a :: rest)) := by
  refine va_iast hexec hb hK hP hD hS q0 t0 ha ht (vp_in_nI hk hn) hdg (fun H1 locs1 hP1 _ hS1 => ?_)
  rw [nI_clamp (by omega)] at hP1
  exact kk H1 locs1 hP1 hS1
theorem ir_last (hexec : p.tables.exec = Jvm.exec) (hb : c.code = cc) (hK : va_K D vwCl tys s) (hP : va_P D vwCl ws H) (hD : va_D A ws) (hS : va_S A H0 H locs) (q0 t0 : Nat) {cA : ClassId} {n : Nat} {f : Nat → Int64} (ha : ws[q0]? = some (a, .inl (cA, n, .inr (.inl f)))) (ht : tys[t0]? = some (cA, .long)) {k : Nat} {x : Int64} (hk : k < n) (hn : n < 2 ^ 31) (hdg : decode cc pc = .ok (.lastore, 1))
    (kk : ∀ (H1 : Heap) (locs1 : List Loc), va_P D vwCl (ws.set q0 (a, .inl (cA, n, .inr (.inl (vp_updL f k x))))) H1 → va_S A H0 H1 locs1 → W p l e R s m args below meth c H1 locs1 cells slots Q (F0 m (pc + 1) ls rest)) : W p l e R s m args below meth c H locs cells slots Q (F0 m pc ls (.long x :: .int (nI k) :: .ref a :: rest)) := by
  refine va_last hexec hb hK hP hD hS q0 t0 ha ht (vp_in_nI hk hn) hdg (fun H1 locs1 hP1 _ hS1 => ?_)
  rw [nI_clamp (by omega)] at hP1
  exact kk H1 locs1 hP1 hS1
theorem g_iret {S : Type} {w : S → va_W} {post : Int32 → S → Prop} {v : S} {r : Int32} (hexec : p.tables.exec = Jvm.exec) (hb : c.code = cc) (hr : meth.sig.returnType = some .int) (hK : va_K D vwCl tys s) (hP : va_P D vwCl (w v) H) (hS : va_S A s.heap H locs) (hq : post r v) (hlocks : meth.locks = false) (hdg : decode cc pc = .ok (.ireturn, 1)) :
    W p l e R s m args below meth c H locs cells slots (MQ below (va_Qi post (gG D tys w) A) args s cells slots A) (F0 m pc ls [.int r]) :=
  W.iret (v := r) hexec hb hr (fun t ht hW => ⟨⟨r, v, rfl, hq, by rw [ht]; exact hP, va_K.moved hW.alike hK⟩, hS.F ht⟩) hS.2.2 hdg hlocks
theorem g_zret {S : Type} {w : S → va_W} {post : Int32 → S → Prop} {v : S} {b : Bool} (hexec : p.tables.exec = Jvm.exec) (hb : c.code = cc) (hr : meth.sig.returnType = some .boolean) (hK : va_K D vwCl tys s) (hP : va_P D vwCl (w v) H) (hS : va_S A s.heap H locs) (hq : post (bi b) v) (hlocks : meth.locks = false) (hdg : decode cc pc = .ok (.ireturn, 1)) :
    W p l e R s m args below meth c H locs cells slots (MQ below (va_Qi post (gG D tys w) A) args s cells slots A) (F0 m pc ls [.int (bi b)]) :=
  W.zret (v := bi b) hexec hb hr (by cases b <;> rfl) (fun t ht hW => ⟨⟨bi b, v, rfl, hq, by rw [ht]; exact hP, va_K.moved hW.alike hK⟩, hS.F ht⟩) hS.2.2 hdg hlocks
theorem g_lret {S : Type} {w : S → va_W} {post : Int64 → S → Prop} {v : S} {r : Int64} (hexec : p.tables.exec = Jvm.exec) (hb : c.code = cc) (hr : meth.sig.returnType = some .long) (hK : va_K D vwCl tys s) (hP : va_P D vwCl (w v) H) (hS : va_S A s.heap H locs) (hq : post r v) (hlocks : meth.locks = false) (hdg : decode cc pc = .ok (.lreturn, 1)) :
    W p l e R s m args below meth c H locs cells slots (MQ below (va_Ql post (gG D tys w) A) args s cells slots A) (F0 m pc ls [.long r]) :=
  W.lret (v := r) hexec hb hr (fun t ht hW => ⟨⟨r, v, rfl, hq, by rw [ht]; exact hP, va_K.moved hW.alike hK⟩, hS.F ht⟩) hS.2.2 hdg hlocks
theorem g_vret {S : Type} {w : S → va_W} {post : S → Prop} {v : S} (hexec : p.tables.exec = Jvm.exec) (hb : c.code = cc) (hr : meth.sig.returnType = none) (hK : va_K D vwCl tys s) (hP : va_P D vwCl (w v) H) (hS : va_S A s.heap H locs) (hq : post v) (hlocks : meth.locks = false) (hdg : decode cc pc = .ok (.return_, 1)) :
    W p l e R s m args below meth c H locs cells slots (MQ below (va_Qv post (gG D tys w) A) args s cells slots A) (F0 m pc ls []) :=
  W.vret hexec hb hr (fun t ht hW => ⟨⟨v, rfl, hq, by rw [ht]; exact hP, va_K.moved hW.alike hK⟩, hS.F ht⟩) hS.2.2 hdg hlocks
end GR
section GS
variable {R : Room} {s : State} {args : Array Value} {own : String} {index maxL mc ms : Nat} {y : MethodName} {bytes : ByteArray} {ret : Option FieldType} {wsc ws' : List Cond} {rm : Room}
theorem cw_S (n : Nat) (ht : ∀ w ∈ bigW, w.before args s = true) (h1 : Cond.methodLink own index y ∈ bigW) (h2 : Cond.static y ∈ bigW) (h3 : Cond.initialized y.cls ∈ bigW) (h4 : Cond.code y bytes maxL ret ∈ bigW) (hw : wsc = Cond.code y bytes maxL ret :: bigW) (hrc : rm.cells = mc) (hrs : rm.slots = ms)
    (hd : y.cls ≠ "java/lang/invoke/MethodHandle" ∧ y.cls ≠ "java/lang/invoke/VarHandle" ∧ (parseMethodDescriptor y.desc).map (fun d => d.parameters.length) = some n) (hR : rm.frames + 1 ≤ R.frames ∧ 8 + (maxL + 11) + rm.locals ≤ R.locals) :
    CallB R s args own index y bytes maxL ret wsc rm mc ms n ∧ (Cond.static y).before args s = true :=
  ⟨callB_of n ht (by rw [hw]; exact gw_I h4) hw hrc hrs (ht _ h3) (ht _ h1) hd hR, ht _ h2⟩
end GS
section GC
variable {p : Program} {l : Launch} {e : Env} {R : Room} {s : State} {m : MethodId} {args : Array Value} {below : List Frame} {meth : Method} {c : Code} {H : Heap} {locs : List Loc} {cells slots : Nat} {Q : State → Prop}
variable {cc bytes : ByteArray} {pc maxL nL n index : Nat} {ls : Array Slot} {rest st0 As : List Value} {D : va_G} {tys : List (ClassId × FieldType)} {A A0 : Nat → Prop} {H0 : Heap} {b : Addr} {y : MethodName} {ret : Option FieldType} {wsc Ts : List Cond} {rm : Room} {own C : String}
theorem g_callVi {S : Type} {w : S → va_W} {v v' : S} {r : Int32} (S0 : CallFix p m c cc nL s args Ts own) (hM : Met l y wsc rm (va_Pc (.ref b :: As) (gG D tys w v)) (va_Qi (fun r1 u => r1 = r ∧ u = v') (gG D tys w) A) 0 0 A) (cw : CallW R s args own C index y bytes maxL ret wsc rm 0 0 n) (hK : va_K D vwCl tys s) (hP : va_P D vwCl (w v) H)
    (hrc : ∃ cell : Cell, H[b]? = some cell ∧ cell.vm.isStatics = false ∧ s.vm.findClass C = some cell.cls) (hn : As.length = n) (hsz : ls.size = nL) (hst : st0 = As.reverse ++ .ref b :: rest) (hW : (rest.map fun v => v.category).sum ≤ 8) (hdg : decode cc pc = .ok (.invokevirtual index, 3)) (hf : cells ≤ R.cells ∧ slots ≤ R.slots) (hAA : ∀ q, A q → A0 q) (hS : va_S A0 H0 H locs)
    (kk : ∀ (H1 : Heap) (locs1 : List Loc), va_P D vwCl (w v') H1 → va_S A0 H0 H1 locs1 → W p l e R s m args below meth c H1 locs1 cells slots Q (F0 m (pc + 3) ls (.int r :: rest))) : W p l e R s m args below meth c H locs cells slots Q (F0 m pc ls st0) := by
  refine va_calli (va_runV (As := As) (rest := rest) S0 hM cw ⟨fun a U g mk q => ⟨q.1, q.2.1, va_K.moved (u := U) (U := U.calling g mk a) (Vm.Alike.refl U.vm) q.2.2⟩, hrc, fun U hU hW => ⟨rfl, by rw [hU]; exact hP, va_K.moved hW.alike hK⟩⟩ rfl hn hsz hst (lv_room hW) hdg hf) hS (fun q _ h => hAA q h) hAA (fun r1 u t H1 locs1 ht hvm hw hB hz1 hk1 hS1 => ?_)
  obtain ⟨rfl, rfl⟩ := hw
  exact kk H1 locs1 (by rw [← ht]; exact hB.1) hS1
theorem g_callVl {S : Type} {w : S → va_W} {v v' : S} {r : Int64} (S0 : CallFix p m c cc nL s args Ts own) (hM : Met l y wsc rm (va_Pc (.ref b :: As) (gG D tys w v)) (va_Ql (fun r1 u => r1 = r ∧ u = v') (gG D tys w) A) 0 0 A) (cw : CallW R s args own C index y bytes maxL ret wsc rm 0 0 n) (hK : va_K D vwCl tys s) (hP : va_P D vwCl (w v) H)
    (hrc : ∃ cell : Cell, H[b]? = some cell ∧ cell.vm.isStatics = false ∧ s.vm.findClass C = some cell.cls) (hn : As.length = n) (hsz : ls.size = nL) (hst : st0 = As.reverse ++ .ref b :: rest) (hW : (rest.map fun v => v.category).sum ≤ 8) (hdg : decode cc pc = .ok (.invokevirtual index, 3)) (hf : cells ≤ R.cells ∧ slots ≤ R.slots) (hAA : ∀ q, A q → A0 q) (hS : va_S A0 H0 H locs)
    (kk : ∀ (H1 : Heap) (locs1 : List Loc), va_P D vwCl (w v') H1 → va_S A0 H0 H1 locs1 → W p l e R s m args below meth c H1 locs1 cells slots Q (F0 m (pc + 3) ls (.long r :: rest))) : W p l e R s m args below meth c H locs cells slots Q (F0 m pc ls st0) := by
  refine va_calll (va_runV (As := As) (rest := rest) S0 hM cw ⟨fun a U g mk q => ⟨q.1, q.2.1, va_K.moved (u := U) (U := U.calling g mk a) (Vm.Alike.refl U.vm) q.2.2⟩, hrc, fun U hU hW => ⟨rfl, by rw [hU]; exact hP, va_K.moved hW.alike hK⟩⟩ rfl hn hsz hst (lv_room hW) hdg hf) hS (fun q _ h => hAA q h) hAA (fun r1 u t H1 locs1 ht hvm hw hB hz1 hk1 hS1 => ?_)
  obtain ⟨rfl, rfl⟩ := hw
  exact kk H1 locs1 (by rw [← ht]; exact hB.1) hS1
theorem g_callVv {S : Type} {w : S → va_W} {v v' : S} (S0 : CallFix p m c cc nL s args Ts own) (hM : Met l y wsc rm (va_Pc (.ref b :: As) (gG D tys w v)) (va_Qv (fun u => u = v') (gG D tys w) A) 0 0 A) (cw : CallW R s args own C index y bytes maxL ret wsc rm 0 0 n) (hK : va_K D vwCl tys s) (hP : va_P D vwCl (w v) H)
    (hrc : ∃ cell : Cell, H[b]? = some cell ∧ cell.vm.isStatics = false ∧ s.vm.findClass C = some cell.cls) (hn : As.length = n) (hsz : ls.size = nL) (hst : st0 = As.reverse ++ .ref b :: rest) (hW : (rest.map fun v => v.category).sum ≤ 8) (hdg : decode cc pc = .ok (.invokevirtual index, 3)) (hf : cells ≤ R.cells ∧ slots ≤ R.slots) (hAA : ∀ q, A q → A0 q) (hS : va_S A0 H0 H locs)
    (kk : ∀ (H1 : Heap) (locs1 : List Loc), va_P D vwCl (w v') H1 → va_S A0 H0 H1 locs1 → W p l e R s m args below meth c H1 locs1 cells slots Q (F0 m (pc + 3) ls rest)) : W p l e R s m args below meth c H locs cells slots Q (F0 m pc ls st0) := by
  refine va_callv (va_runV (As := As) (rest := rest) S0 hM cw ⟨fun a U g mk q => ⟨q.1, q.2.1, va_K.moved (u := U) (U := U.calling g mk a) (Vm.Alike.refl U.vm) q.2.2⟩, hrc, fun U hU hW => ⟨rfl, by rw [hU]; exact hP, va_K.moved hW.alike hK⟩⟩ rfl hn hsz hst (lv_room hW) hdg hf) hS (fun q _ h => hAA q h) hAA (fun u t H1 locs1 ht hvm hw hB hz1 hk1 hS1 => ?_)
  subst hw
  exact kk H1 locs1 (by rw [← ht]; exact hB.1) hS1
theorem g_callSi {S : Type} {w : S → va_W} {v v' : S} {r : Int32} (S0 : CallFix p m c cc nL s args Ts own) (hM : Met l y wsc rm (va_Pc As (gG D tys w v)) (va_Qi (fun r1 u => r1 = r ∧ u = v') (gG D tys w) A) 0 0 A) (cw : CallB R s args own index y bytes maxL ret wsc rm 0 0 n ∧ (Cond.static y).before args s = true) (hK : va_K D vwCl tys s) (hP : va_P D vwCl (w v) H)
    (hn : As.length = n) (hsz : ls.size = nL) (hst : st0 = As.reverse ++ rest) (hW : (rest.map fun v => v.category).sum ≤ 8) (hdg : decode cc pc = .ok (.invokestatic index, 3)) (hf : cells ≤ R.cells ∧ slots ≤ R.slots) (hAA : ∀ q, A q → A0 q) (hS : va_S A0 H0 H locs)
    (kk : ∀ (H1 : Heap) (locs1 : List Loc), va_P D vwCl (w v') H1 → va_S A0 H0 H1 locs1 → W p l e R s m args below meth c H1 locs1 cells slots Q (F0 m (pc + 3) ls (.int r :: rest))) : W p l e R s m args below meth c H locs cells slots Q (F0 m pc ls st0) := by
  refine va_calli (va_runS (As := As) (rest := rest) S0 hM cw ⟨fun a U g mk q => ⟨q.1, q.2.1, va_K.moved (u := U) (U := U.calling g mk a) (Vm.Alike.refl U.vm) q.2.2⟩, fun U hU hW => ⟨rfl, by rw [hU]; exact hP, va_K.moved hW.alike hK⟩⟩ rfl hn hsz hst (lv_room hW) hdg hf) hS (fun q _ h => hAA q h) hAA (fun r1 u t H1 locs1 ht hvm hw hB hz1 hk1 hS1 => ?_)
  obtain ⟨rfl, rfl⟩ := hw
  exact kk H1 locs1 (by rw [← ht]; exact hB.1) hS1
theorem g_callSv {S : Type} {w : S → va_W} {v v' : S} (S0 : CallFix p m c cc nL s args Ts own) (hM : Met l y wsc rm (va_Pc As (gG D tys w v)) (va_Qv (fun u => u = v') (gG D tys w) A) 0 0 A) (cw : CallB R s args own index y bytes maxL ret wsc rm 0 0 n ∧ (Cond.static y).before args s = true) (hK : va_K D vwCl tys s) (hP : va_P D vwCl (w v) H)
    (hn : As.length = n) (hsz : ls.size = nL) (hst : st0 = As.reverse ++ rest) (hW : (rest.map fun v => v.category).sum ≤ 8) (hdg : decode cc pc = .ok (.invokestatic index, 3)) (hf : cells ≤ R.cells ∧ slots ≤ R.slots) (hAA : ∀ q, A q → A0 q) (hS : va_S A0 H0 H locs)
    (kk : ∀ (H1 : Heap) (locs1 : List Loc), va_P D vwCl (w v') H1 → va_S A0 H0 H1 locs1 → W p l e R s m args below meth c H1 locs1 cells slots Q (F0 m (pc + 3) ls rest)) : W p l e R s m args below meth c H locs cells slots Q (F0 m pc ls st0) := by
  refine va_callv (va_runS (As := As) (rest := rest) S0 hM cw ⟨fun a U g mk q => ⟨q.1, q.2.1, va_K.moved (u := U) (U := U.calling g mk a) (Vm.Alike.refl U.vm) q.2.2⟩, fun U hU hW => ⟨rfl, by rw [hU]; exact hP, va_K.moved hW.alike hK⟩⟩ rfl hn hsz hst (lv_room hW) hdg hf) hS (fun q _ h => hAA q h) hAA (fun u t H1 locs1 ht hvm hw hB hz1 hk1 hS1 => ?_)
  subst hw
  exact kk H1 locs1 (by rw [← ht]; exact hB.1) hS1
theorem g_enter {S : Type} {w : S → va_W} {v : S} {av : List Value} {Qc : Array Value → State → Outcome → State → Prop} (hy : plainName y.cls = true) (hw : wsc = Cond.code y cc maxL ret :: bigW) (hlen : (lg_sl av).length ≤ maxL)
    (body : ∀ (p : Program) (e : Env) (s : State) (m : MethodId) (below : List Frame) (meth : Method) (c : Code) (ls : Array Slot), gFix p c cc meth ret m s av.toArray bigW y.cls maxL → va_K D vwCl tys s → va_P D vwCl (w v) s.heap → lv_has ls maxL (lv_args 0 av) →
      W p l e rm s m av.toArray below meth c s.heap [] 0 0 (MQ below Qc av.toArray s 0 0 A) (F0 m 0 ls [])) : Met l y wsc rm (va_Pc av (gG D tys w v)) Qc 0 0 A := by
  refine Met.ofW (cc := cc) (maxL := maxL) (ret := ret) hy hw ?_
  intro p e s m args below meth c s₁ B hml hv
  obtain ⟨rfl, hP, hK⟩ := hv
  have hts : ∀ w ∈ bigW, w.before av.toArray s = true := fun w h => atoms_spec (ws := wsc) B.pre w (by rw [hw]; exact List.mem_cons_of_mem _ h)
  have hown : s.vm.findClass y.cls = some m.cls := findClass_of_methodNamed B.named
  have hl := lv_entry av (n := maxL) hlen
  rw [lg_entry_eq]
  exact body p e s m below meth c _ ⟨B.exec, B.bytes, B.returns, hml, hown, hts, B.notSynchronized⟩ hK hP hl
end GC
section GRO
variable {p : Program} {l : Launch} {e : Env} {R : Room} {s : State} {m : MethodId} {args : Array Value} {below : List Frame} {meth : Method} {c : Code} {H : Heap} {locs : List Loc} {cells slots : Nat} {Q : State → Prop}
variable {cc bytes : ByteArray} {pc maxL nL n index : Nat} {ls : Array Slot} {rest st0 As : List Value} {D : va_G} {tys : List (ClassId × FieldType)} {b : Addr} {y : MethodName} {ret : Option FieldType} {wsc Ts : List Cond} {rm : Room} {own C : String}
/-! methods that write nothing -/
theorem r_iret {post : Int32 → Prop} {r : Int32} (hexec : p.tables.exec = Jvm.exec) (hb : c.code = cc) (hr : meth.sig.returnType = some .int) (hq : post r) (hlocks : meth.locks = false) (hdg : decode cc pc = .ok (.ireturn, 1)) :
    W p l e R s m args below meth c s.heap [] cells slots (MQ below (vp_Si post) args s cells slots (fun _ => False)) (F0 m pc ls [.int r]) :=
  W.iret (v := r) hexec hb hr (fun t ht hW => ⟨r, rfl, hq, ht⟩) (fun q h => by cases h) hdg hlocks
theorem r_zret {post : Int32 → Prop} {b : Bool} (hexec : p.tables.exec = Jvm.exec) (hb : c.code = cc) (hr : meth.sig.returnType = some .boolean) (hq : post (bi b)) (hlocks : meth.locks = false) (hdg : decode cc pc = .ok (.ireturn, 1)) :
    W p l e R s m args below meth c s.heap [] cells slots (MQ below (vp_Si post) args s cells slots (fun _ => False)) (F0 m pc ls [.int (bi b)]) :=
  W.zret (v := bi b) hexec hb hr (by cases b <;> rfl) (fun t ht hW => ⟨bi b, rfl, hq, ht⟩) (fun q h => by cases h) hdg hlocks
theorem r_lret {post : Int64 → Prop} {r : Int64} (hexec : p.tables.exec = Jvm.exec) (hb : c.code = cc) (hr : meth.sig.returnType = some .long) (hq : post r) (hlocks : meth.locks = false) (hdg : decode cc pc = .ok (.lreturn, 1)) :
    W p l e R s m args below meth c s.heap [] cells slots (MQ below (vp_Sl post) args s cells slots (fun _ => False)) (F0 m pc ls [.long r]) :=
  W.lret (v := r) hexec hb hr (fun t ht hW => ⟨r, rfl, hq, ht⟩) (fun q h => by cases h) hdg hlocks
theorem r_vret {post : Unit → Prop} (hexec : p.tables.exec = Jvm.exec) (hb : c.code = cc) (hr : meth.sig.returnType = none) (hq : post ()) (hlocks : meth.locks = false) (hdg : decode cc pc = .ok (.return_, 1)) :
    W p l e R s m args below meth c s.heap [] cells slots (MQ below (va_Sv post) args s cells slots (fun _ => False)) (F0 m pc ls []) :=
  W.vret hexec hb hr (fun t ht hW => ⟨rfl, hq, ht⟩) (fun q h => by cases h) hdg hlocks
theorem g_roVi {S : Type} {w : S → va_W} {v : S} {r : Int32} (S0 : CallFix p m c cc nL s args Ts own) (hM : Met l y wsc rm (va_Pc (.ref b :: As) (gG D tys w v)) (vp_Si (fun r1 => r1 = r)) 0 0 (fun _ => False)) (cw : CallW R s args own C index y bytes maxL ret wsc rm 0 0 n) (hK : va_K D vwCl tys s) (hP : va_P D vwCl (w v) H)
    (hrc : ∃ cell : Cell, H[b]? = some cell ∧ cell.vm.isStatics = false ∧ s.vm.findClass C = some cell.cls) (hn : As.length = n) (hsz : ls.size = nL) (hst : st0 = As.reverse ++ .ref b :: rest) (hW : (rest.map fun v => v.category).sum ≤ 8) (hdg : decode cc pc = .ok (.invokevirtual index, 3)) (hf : cells ≤ R.cells ∧ slots ≤ R.slots)
    (kk : W p l e R s m args below meth c H locs cells slots Q (F0 m (pc + 3) ls (.int r :: rest))) : W p l e R s m args below meth c H locs cells slots Q (F0 m pc ls st0) := by
  refine vp_callSi (W.runV (As := As) (rest := rest) S0 hM cw ⟨fun a U g mk q => ⟨q.1, q.2.1, va_K.moved (u := U) (U := U.calling g mk a) (Vm.Alike.refl U.vm) q.2.2⟩, hrc, fun U hU hW => ⟨rfl, by rw [hU]; exact hP, va_K.moved hW.alike hK⟩⟩ rfl hn hsz hst (lv_room hW) hdg hf) (fun r1 h1 => ?_)
  subst h1
  exact kk
theorem g_roVl {S : Type} {w : S → va_W} {v : S} {r : Int64} (S0 : CallFix p m c cc nL s args Ts own) (hM : Met l y wsc rm (va_Pc (.ref b :: As) (gG D tys w v)) (vp_Sl (fun r1 => r1 = r)) 0 0 (fun _ => False)) (cw : CallW R s args own C index y bytes maxL ret wsc rm 0 0 n) (hK : va_K D vwCl tys s) (hP : va_P D vwCl (w v) H)
    (hrc : ∃ cell : Cell, H[b]? = some cell ∧ cell.vm.isStatics = false ∧ s.vm.findClass C = some cell.cls) (hn : As.length = n) (hsz : ls.size = nL) (hst : st0 = As.reverse ++ .ref b :: rest) (hW : (rest.map fun v => v.category).sum ≤ 8) (hdg : decode cc pc = .ok (.invokevirtual index, 3)) (hf : cells ≤ R.cells ∧ slots ≤ R.slots)
    (kk : W p l e R s m args below meth c H locs cells slots Q (F0 m (pc + 3) ls (.long r :: rest))) : W p l e R s m args below meth c H locs cells slots Q (F0 m pc ls st0) := by
  refine vp_callSl (W.runV (As := As) (rest := rest) S0 hM cw ⟨fun a U g mk q => ⟨q.1, q.2.1, va_K.moved (u := U) (U := U.calling g mk a) (Vm.Alike.refl U.vm) q.2.2⟩, hrc, fun U hU hW => ⟨rfl, by rw [hU]; exact hP, va_K.moved hW.alike hK⟩⟩ rfl hn hsz hst (lv_room hW) hdg hf) (fun r1 h1 => ?_)
  subst h1
  exact kk
theorem g_roVv {S : Type} {w : S → va_W} {v : S} (S0 : CallFix p m c cc nL s args Ts own) (hM : Met l y wsc rm (va_Pc (.ref b :: As) (gG D tys w v)) (va_Sv (fun _ => True)) 0 0 (fun _ => False)) (cw : CallW R s args own C index y bytes maxL ret wsc rm 0 0 n) (hK : va_K D vwCl tys s) (hP : va_P D vwCl (w v) H)
    (hrc : ∃ cell : Cell, H[b]? = some cell ∧ cell.vm.isStatics = false ∧ s.vm.findClass C = some cell.cls) (hn : As.length = n) (hsz : ls.size = nL) (hst : st0 = As.reverse ++ .ref b :: rest) (hW : (rest.map fun v => v.category).sum ≤ 8) (hdg : decode cc pc = .ok (.invokevirtual index, 3)) (hf : cells ≤ R.cells ∧ slots ≤ R.slots)
    (kk : W p l e R s m args below meth c H locs cells slots Q (F0 m (pc + 3) ls rest)) : W p l e R s m args below meth c H locs cells slots Q (F0 m pc ls st0) :=
  va_csv (W.runV (As := As) (rest := rest) S0 hM cw ⟨fun a U g mk q => ⟨q.1, q.2.1, va_K.moved (u := U) (U := U.calling g mk a) (Vm.Alike.refl U.vm) q.2.2⟩, hrc, fun U hU hW => ⟨rfl, by rw [hU]; exact hP, va_K.moved hW.alike hK⟩⟩ rfl hn hsz hst (lv_room hW) hdg hf) (fun _ => kk)
theorem g_roSi {S : Type} {w : S → va_W} {v : S} {r : Int32} (S0 : CallFix p m c cc nL s args Ts own) (hM : Met l y wsc rm (va_Pc As (gG D tys w v)) (vp_Si (fun r1 => r1 = r)) 0 0 (fun _ => False)) (cw : CallB R s args own index y bytes maxL ret wsc rm 0 0 n ∧ (Cond.static y).before args s = true) (hK : va_K D vwCl tys s) (hP : va_P D vwCl (w v) H)
    (hn : As.length = n) (hsz : ls.size = nL) (hst : st0 = As.reverse ++ rest) (hW : (rest.map fun v => v.category).sum ≤ 8) (hdg : decode cc pc = .ok (.invokestatic index, 3)) (hf : cells ≤ R.cells ∧ slots ≤ R.slots)
    (kk : W p l e R s m args below meth c H locs cells slots Q (F0 m (pc + 3) ls (.int r :: rest))) : W p l e R s m args below meth c H locs cells slots Q (F0 m pc ls st0) := by
  refine vp_callSi (W.runS (As := As) (rest := rest) S0 hM cw ⟨fun a U g mk q => ⟨q.1, q.2.1, va_K.moved (u := U) (U := U.calling g mk a) (Vm.Alike.refl U.vm) q.2.2⟩, fun U hU hW => ⟨rfl, by rw [hU]; exact hP, va_K.moved hW.alike hK⟩⟩ rfl hn hsz hst (lv_room hW) hdg hf) (fun r1 h1 => ?_)
  subst h1
  exact kk
theorem g_roSv {S : Type} {w : S → va_W} {v : S} (S0 : CallFix p m c cc nL s args Ts own) (hM : Met l y wsc rm (va_Pc As (gG D tys w v)) (va_Sv (fun _ => True)) 0 0 (fun _ => False)) (cw : CallB R s args own index y bytes maxL ret wsc rm 0 0 n ∧ (Cond.static y).before args s = true) (hK : va_K D vwCl tys s) (hP : va_P D vwCl (w v) H)
    (hn : As.length = n) (hsz : ls.size = nL) (hst : st0 = As.reverse ++ rest) (hW : (rest.map fun v => v.category).sum ≤ 8) (hdg : decode cc pc = .ok (.invokestatic index, 3)) (hf : cells ≤ R.cells ∧ slots ≤ R.slots)
    (kk : W p l e R s m args below meth c H locs cells slots Q (F0 m (pc + 3) ls rest)) : W p l e R s m args below meth c H locs cells slots Q (F0 m pc ls st0) :=
  va_csv (W.runS (As := As) (rest := rest) S0 hM cw ⟨fun a U g mk q => ⟨q.1, q.2.1, va_K.moved (u := U) (U := U.calling g mk a) (Vm.Alike.refl U.vm) q.2.2⟩, fun U hU hW => ⟨rfl, by rw [hU]; exact hP, va_K.moved hW.alike hK⟩⟩ rfl hn hsz hst (lv_room hW) hdg hf) (fun _ => kk)
end GRO
/-! What a state of the class is: the contents of its 19 cells; addresses a 0 .. a 18. -/
abbrev CS : Type := (Nat × Int32 × Int32 × Int32 × Int32) × ((Nat → Int32) × (Nat → Int32)) × ((Nat → Int32) × (Nat → Int32) × (Nat → Int32) × (Nat → Int32) × (Nat → Int64) × (Nat → Int64) × (Nat → Int32)) × ((Nat → Int32) × (Nat → Int32) × (Nat → Int32) × (Nat → Int32) × Nat × Nat) × ((Nat → Int32) × Int64)
abbrev tyC (cI cL : ClassId) : List (ClassId × FieldType) := [(cI, .int), (cL, .long)]
def wC (cI cL : ClassId) (a : Nat → Nat) (v : CS) : va_W := match v with
  | ((dI, dO, dG, dN, dT), (aN, aB), (nS, nP, nR, nG, nO, nU, nT), (tP, tR, tO, tN, tF, tZ), (mP, mN)) =>
    [(a 0, .inr (4, [.int (nI dI), .ref (a 1), .ref (a 4), .ref (a 12), .ref (a 17), .int dO, .int dG, .int dN, .int dT])),
     (a 1, .inr (0, [.ref (a 2), .ref (a 3)])), (a 2, .inl (cI, 64, .inl aN)), (a 3, .inl (cI, 64, .inl aB)),
     (a 4, .inr (2, [.ref (a 5), .ref (a 6), .ref (a 7), .ref (a 8), .ref (a 9), .ref (a 10), .ref (a 11)])),
     (a 5, .inl (cI, 16, .inl nS)), (a 6, .inl (cI, 16, .inl nP)), (a 7, .inl (cI, 16, .inl nR)), (a 8, .inl (cI, 16, .inl nG)), (a 9, .inl (cL, 16, .inr (.inl nO))), (a 10, .inl (cL, 16, .inr (.inl nU))), (a 11, .inl (cI, 1024, .inl nT)),
     (a 12, .inr (3, [.ref (a 13), .ref (a 14), .ref (a 15), .ref (a 16), .int (nI tF), .int (nI tZ)])), (a 13, .inl (cI, 64, .inl tP)), (a 14, .inl (cI, 64, .inl tR)), (a 15, .inl (cI, 64, .inl tO)), (a 16, .inl (cI, 64, .inl tN)),
     (a 17, .inr (1, [.ref (a 18), .long mN])), (a 18, .inl (cI, 6, .inl mP))]
end
section
def fAD_has (aN : Nat → Int32) (o : Nat) : Bool := (if (aN o) = 0 then false else true)
set_option maxHeartbeats 4000000 in
set_option maxRecDepth 100000 in
theorem c_AD_has (l : Launch) {D : va_G} {cI cL : ClassId} {a : Nat → Nat}  (dI : Nat) (dO dG dN dT : Int32) (aN aB : Nat → Int32) (nS nP nR nG : Nat → Int32) (nO nU : Nat → Int64) (nT : Nat → Int32) (tP tR tO tN : Nat → Int32) (tF tZ : Nat) (mP : Nat → Int32) (mN : Int64) (o : Nat) (ho : o < 64) : Met l yAD_has wsAD_has ({ frames := 0, cells := 0, slots := 0, locals := 0 }) (va_Pc [.ref (a 1), .int (nI o)] (gG D (tyC cI cL) (wC cI cL a) ((dI, dO, dG, dN, dT), (aN, aB), (nS, nP, nR, nG, nO, nU, nT), (tP, tR, tO, tN, tF, tZ), (mP, mN)))) (vp_Si (fun r : Int32 => r = bi (fAD_has aN o))) 0 0 (fun _ => False) := by
  refine g_enter (by decide) rfl (Nat.le_of_ble_eq_true rfl) ?_
  intro p e s m below meth c ls F hK hP hl
  obtain ⟨hx, hb, hr, hml, hown, hts, hlocks⟩ := id F
  have hl : lv_has ls 2 [(0, .ref (a 1)), (1, .int (nI o))] := hl
  refine lv_aload_n hx hb dAD_has_0 rfl (lv_at hl 0 rfl) ?_
  refine va_get (D := D) (ci := 0) (v := .ref (a 2)) (C := RAD) (T := TAD) (N := 2) hx hb hts inAD hown hK hP 1 rfl rfl 0 (by decide) (hts _ k53) (fun _ h9 => h9) rfl dAD_has_1 ?_
  refine lv_iload_n hx hb dAD_has_4 rfl (lv_at hl 1 rfl) ?_
  refine ir_iald hx hb hK hP 2 0 rfl rfl (k := o) (by omega) (by decide) dAD_has_5 ?_
  refine lv_if_eq (tgt := 13) hx hb dAD_has_6 (by decide) (fun c1 => ?_) (fun c1 => ?_)
  · refine lv_iconst (v := bi false) hx hb dAD_has_13 (by decide) ?_
    have e1 : fAD_has aN o = false := by simp only [fAD_has, if_pos c1]
    exact r_zret hx hb hr (by first | rfl | (rw [e1] <;> rfl)) hlocks dAD_has_14
  · refine lv_iconst (v := bi true) hx hb dAD_has_9 (by decide) ?_
    refine lv_goto (tgt := 14) hx hb dAD_has_10 (by decide) ?_
    have e1 : fAD_has aN o = true := by simp only [fAD_has, if_neg c1]
    exact r_zret hx hb hr (by first | rfl | (rw [e1] <;> rfl)) hlocks dAD_has_14
set_option maxHeartbeats 4000000 in
set_option maxRecDepth 100000 in
theorem c_AD_numberOf (l : Launch) {D : va_G} {cI cL : ClassId} {a : Nat → Nat}  (dI : Nat) (dO dG dN dT : Int32) (aN aB : Nat → Int32) (nS nP nR nG : Nat → Int32) (nO nU : Nat → Int64) (nT : Nat → Int32) (tP tR tO tN : Nat → Int32) (tF tZ : Nat) (mP : Nat → Int32) (mN : Int64) (o : Nat) (ho : o < 64) : Met l yAD_numberOf wsAD_numberOf ({ frames := 0, cells := 0, slots := 0, locals := 0 }) (va_Pc [.ref (a 1), .int (nI o)] (gG D (tyC cI cL) (wC cI cL a) ((dI, dO, dG, dN, dT), (aN, aB), (nS, nP, nR, nG, nO, nU, nT), (tP, tR, tO, tN, tF, tZ), (mP, mN)))) (vp_Si (fun r : Int32 => r = aN o)) 0 0 (fun _ => False) := by
  refine g_enter (by decide) rfl (Nat.le_of_ble_eq_true rfl) ?_
  intro p e s m below meth c ls F hK hP hl
  obtain ⟨hx, hb, hr, hml, hown, hts, hlocks⟩ := id F
  have hl : lv_has ls 2 [(0, .ref (a 1)), (1, .int (nI o))] := hl
  refine lv_aload_n hx hb dAD_numberOf_0 rfl (lv_at hl 0 rfl) ?_
  refine va_get (D := D) (ci := 0) (v := .ref (a 2)) (C := RAD) (T := TAD) (N := 2) hx hb hts inAD hown hK hP 1 rfl rfl 0 (by decide) (hts _ k53) (fun _ h9 => h9) rfl dAD_numberOf_1 ?_
  refine lv_iload_n hx hb dAD_numberOf_4 rfl (lv_at hl 1 rfl) ?_
  refine ir_iald hx hb hK hP 2 0 rfl rfl (k := o) (by omega) (by decide) dAD_numberOf_5 ?_
  exact r_iret hx hb hr (rfl) hlocks dAD_numberOf_6
set_option maxHeartbeats 4000000 in
set_option maxRecDepth 100000 in
theorem c_AD_bodyOf (l : Launch) {D : va_G} {cI cL : ClassId} {a : Nat → Nat}  (dI : Nat) (dO dG dN dT : Int32) (aN aB : Nat → Int32) (nS nP nR nG : Nat → Int32) (nO nU : Nat → Int64) (nT : Nat → Int32) (tP tR tO tN : Nat → Int32) (tF tZ : Nat) (mP : Nat → Int32) (mN : Int64) (o : Nat) (ho : o < 64) : Met l yAD_bodyOf wsAD_bodyOf ({ frames := 0, cells := 0, slots := 0, locals := 0 }) (va_Pc [.ref (a 1), .int (nI o)] (gG D (tyC cI cL) (wC cI cL a) ((dI, dO, dG, dN, dT), (aN, aB), (nS, nP, nR, nG, nO, nU, nT), (tP, tR, tO, tN, tF, tZ), (mP, mN)))) (vp_Si (fun r : Int32 => r = aB o)) 0 0 (fun _ => False) := by
  refine g_enter (by decide) rfl (Nat.le_of_ble_eq_true rfl) ?_
  intro p e s m below meth c ls F hK hP hl
  obtain ⟨hx, hb, hr, hml, hown, hts, hlocks⟩ := id F
  have hl : lv_has ls 2 [(0, .ref (a 1)), (1, .int (nI o))] := hl
  refine lv_aload_n hx hb dAD_bodyOf_0 rfl (lv_at hl 0 rfl) ?_
  refine va_get (D := D) (ci := 0) (v := .ref (a 3)) (C := RAD) (T := TAD) (N := 2) hx hb hts inAD hown hK hP 1 rfl rfl 1 (by decide) (hts _ k54) (fun _ h9 => h9) rfl dAD_bodyOf_1 ?_
  refine lv_iload_n hx hb dAD_bodyOf_4 rfl (lv_at hl 1 rfl) ?_
  refine ir_iald hx hb hK hP 3 0 rfl rfl (k := o) (by omega) (by decide) dAD_bodyOf_5 ?_
  exact r_iret hx hb hr (rfl) hlocks dAD_bodyOf_6
set_option maxHeartbeats 4000000 in
set_option maxRecDepth 100000 in
theorem c_AD_put (l : Launch) {D : va_G} {cI cL : ClassId} {a : Nat → Nat} {A : Nat → Prop} (hA : ∀ v : CS, va_D A (wC cI cL a v)) (dI : Nat) (dO dG dN dT : Int32) (aN aB : Nat → Int32) (nS nP nR nG : Nat → Int32) (nO nU : Nat → Int64) (nT : Nat → Int32) (tP tR tO tN : Nat → Int32) (tF tZ : Nat) (mP : Nat → Int32) (mN : Int64) (o : Nat) (x : Int32) (y : Int32) (ho : o < 64) : Met l yAD_put wsAD_put ({ frames := 0, cells := 0, slots := 0, locals := 0 }) (va_Pc [.ref (a 1), .int (nI o), .int x, .int y] (gG D (tyC cI cL) (wC cI cL a) ((dI, dO, dG, dN, dT), (aN, aB), (nS, nP, nR, nG, nO, nU, nT), (tP, tR, tO, tN, tF, tZ), (mP, mN)))) (va_Qv (fun u : CS => u = ((dI, dO, dG, dN, dT), (upd aN o x, upd aB o y), (nS, nP, nR, nG, nO, nU, nT), (tP, tR, tO, tN, tF, tZ), (mP, mN))) (gG D (tyC cI cL) (wC cI cL a)) A) 0 0 A := by
  refine g_enter (by decide) rfl (Nat.le_of_ble_eq_true rfl) ?_
  intro p e s m below meth c ls F hK hP hl
  obtain ⟨hx, hb, hr, hml, hown, hts, hlocks⟩ := id F
  have hS : va_S A s.heap s.heap [] := va_S.rf
  have hl : lv_has ls 4 [(0, .ref (a 1)), (1, .int (nI o)), (2, .int x), (3, .int y)] := hl
  refine lv_aload_n hx hb dAD_put_0 rfl (lv_at hl 0 rfl) ?_
  refine va_get (D := D) (ci := 0) (v := .ref (a 2)) (C := RAD) (T := TAD) (N := 2) hx hb hts inAD hown hK hP 1 rfl rfl 0 (by decide) (hts _ k53) (fun _ h9 => h9) rfl dAD_put_1 ?_
  refine lv_iload_n hx hb dAD_put_4 rfl (lv_at hl 1 rfl) ?_
  refine lv_iload_n hx hb dAD_put_5 rfl (lv_at hl 2 rfl) ?_
  refine ir_iast hx hb hK hP (hA _) hS 2 0 rfl rfl (k := o) (by omega) (by decide) dAD_put_6 (fun H locs hP hS => ?_)
  have hP : va_P D vwCl (wC cI cL a ((dI, dO, dG, dN, dT), (upd aN o x, aB), (nS, nP, nR, nG, nO, nU, nT), (tP, tR, tO, tN, tF, tZ), (mP, mN))) H := hP
  refine lv_aload_n hx hb dAD_put_7 rfl (lv_at hl 0 rfl) ?_
  refine va_get (D := D) (ci := 0) (v := .ref (a 3)) (C := RAD) (T := TAD) (N := 2) hx hb hts inAD hown hK hP 1 rfl rfl 1 (by decide) (hts _ k54) (fun _ h9 => h9) rfl dAD_put_8 ?_
  refine lv_iload_n hx hb dAD_put_11 rfl (lv_at hl 1 rfl) ?_
  refine lv_iload_n hx hb dAD_put_12 rfl (lv_at hl 3 rfl) ?_
  refine ir_iast hx hb hK hP (hA _) hS 3 0 rfl rfl (k := o) (by omega) (by decide) dAD_put_13 (fun H locs hP hS => ?_)
  have hP : va_P D vwCl (wC cI cL a ((dI, dO, dG, dN, dT), (upd aN o x, upd aB o y), (nS, nP, nR, nG, nO, nU, nT), (tP, tR, tO, tN, tF, tZ), (mP, mN))) H := hP
  exact g_vret (v := ((dI, dO, dG, dN, dT), (upd aN o x, upd aB o y), (nS, nP, nR, nG, nO, nU, nT), (tP, tR, tO, tN, tF, tZ), (mP, mN))) hx hb hr hK hP hS (rfl) hlocks dAD_put_14
set_option maxHeartbeats 4000000 in
set_option maxRecDepth 100000 in
theorem c_AD_remove (l : Launch) {D : va_G} {cI cL : ClassId} {a : Nat → Nat} {A : Nat → Prop} (hA : ∀ v : CS, va_D A (wC cI cL a v)) (dI : Nat) (dO dG dN dT : Int32) (aN aB : Nat → Int32) (nS nP nR nG : Nat → Int32) (nO nU : Nat → Int64) (nT : Nat → Int32) (tP tR tO tN : Nat → Int32) (tF tZ : Nat) (mP : Nat → Int32) (mN : Int64) (o : Nat) (ho : o < 64) : Met l yAD_remove wsAD_remove ({ frames := 1, cells := 0, slots := 0, locals := 23 }) (va_Pc [.ref (a 1), .int (nI o)] (gG D (tyC cI cL) (wC cI cL a) ((dI, dO, dG, dN, dT), (aN, aB), (nS, nP, nR, nG, nO, nU, nT), (tP, tR, tO, tN, tF, tZ), (mP, mN)))) (va_Qv (fun u : CS => u = ((dI, dO, dG, dN, dT), (upd aN o 0, upd aB o 0), (nS, nP, nR, nG, nO, nU, nT), (tP, tR, tO, tN, tF, tZ), (mP, mN))) (gG D (tyC cI cL) (wC cI cL a)) A) 0 0 A := by
  refine g_enter (by decide) rfl (Nat.le_of_ble_eq_true rfl) ?_
  intro p e s m below meth c ls F hK hP hl
  obtain ⟨hx, hb, hr, hml, hown, hts, hlocks⟩ := id F
  have hS : va_S A s.heap s.heap [] := va_S.rf
  have hl : lv_has ls 2 [(0, .ref (a 1)), (1, .int (nI o))] := hl
  refine lv_aload_n hx hb dAD_remove_0 rfl (lv_at hl 0 rfl) ?_
  refine lv_iload_n hx hb dAD_remove_1 rfl (lv_at hl 1 rfl) ?_
  refine lv_iconst (v := 0) hx hb dAD_remove_2 (by decide) ?_
  refine lv_iconst (v := 0) hx hb dAD_remove_3 (by decide) ?_
  refine g_callVv (As := [.int (nI o), .int 0, .int 0]) (rest := []) ⟨hx, hb, hml, hown, hts⟩ (c_AD_put l hA dI dO dG dN dT aN aB nS nP nR nG nO nU nT tP tR tO tN tF tZ mP mN o 0 0 (by first | omega | assumption)) (cwV 3 hts (gw_V k490 k161 k162 k28 k163) rfl rfl rfl (by decide +kernel) ⟨Nat.le_of_ble_eq_true rfl, Nat.le_of_ble_eq_true rfl⟩) hK hP (va_recv hK hP (ci := 0) (q0 := 1) rfl rfl) rfl hl.1 rfl (Nat.le_of_ble_eq_true rfl) dAD_remove_4 ⟨Nat.zero_le _, Nat.zero_le _⟩ (fun q h => h) hS (fun H locs hP hS => ?_)
  have hP : va_P D vwCl (wC cI cL a ((dI, dO, dG, dN, dT), (upd aN o 0, upd aB o 0), (nS, nP, nR, nG, nO, nU, nT), (tP, tR, tO, tN, tF, tZ), (mP, mN))) H := hP
  exact g_vret (v := ((dI, dO, dG, dN, dT), (upd aN o 0, upd aB o 0), (nS, nP, nR, nG, nO, nU, nT), (tP, tR, tO, tN, tF, tZ), (mP, mN))) hx hb hr hK hP hS (rfl) hlocks dAD_remove_7
def LAD_allOrigins (aN : Nat → Int32) : Nat → Nat → Int64 → Int64
  | 0, k, w => w
  | n + 1, k, w => (if (aN k) = 0 then LAD_allOrigins aN n (k + 1) w else LAD_allOrigins aN n (k + 1) (w ||| (bL k)))
set_option maxHeartbeats 4000000 in
set_option maxRecDepth 100000 in
theorem lpAD_allOrigins {p : Program} {l : Launch} {e : Env} {s : State} {m : MethodId} {args : Array Value} {below : List Frame} {meth : Method} {c : Code} {D : va_G} {cI cL : ClassId} {a : Nat → Nat}  (F : gFix p c cAD_allOrigins meth (some .long) m s args bigW RAD 4) (hK : va_K D vwCl (tyC cI cL) s) {dI : Nat} {dO : Int32} {dG : Int32} {dN : Int32} {dT : Int32} {aN : Nat → Int32} {aB : Nat → Int32} {nS : Nat → Int32} {nP : Nat → Int32} {nR : Nat → Int32} {nG : Nat → Int32} {nO : Nat → Int64} {nU : Nat → Int64} {nT : Nat → Int32} {tP : Nat → Int32} {tR : Nat → Int32} {tO : Nat → Int32} {tN : Nat → Int32} {tF : Nat} {tZ : Nat} {mP : Nat → Int32} {mN : Int64}   (post : Int64 → Prop) : ∀ (n k : Nat) (w : Int64)  (ls : Array Slot), k + n = 64 → va_P D vwCl (wC cI cL a ((dI, dO, dG, dN, dT), (aN, aB), (nS, nP, nR, nG, nO, nU, nT), (tP, tR, tO, tN, tF, tZ), (mP, mN))) s.heap → lv_has ls 4 [(3, .int (nI k)), (1, .long w), (0, .ref (a 1))] → post (LAD_allOrigins aN n k w) → W p l e ({ frames := 0, cells := 0, slots := 0, locals := 0 }) s m args below meth c s.heap [] 0 0 (MQ below (vp_Sl post) args s 0 0 (fun _ => False)) (F0 m 4 ls []) := by
  obtain ⟨hx, hb, hr, hml, hown, hts, hlocks⟩ := F
  intro n
  induction n with
  | zero =>
    intro k w ls hkn  hP hl hq
    refine lv_iload_n hx hb dAD_allOrigins_4 rfl (lv_at hl 0 rfl) ?_
    refine lv_bipush (v := nI 64) hx hb dAD_allOrigins_5 (by decide) ?_
    refine lv_icmp_ge (tgt := 31) hx hb dAD_allOrigins_7 (by decide) (fun _ => ?_) (fun c0 => absurd (nI_le (by omega) (by omega)) c0)
    refine lv_lload_n hx hb dAD_allOrigins_31 rfl (lv_at hl 1 rfl) ?_
    have e1 : LAD_allOrigins aN 0 k w = w := by simp only [LAD_allOrigins]
    rw [e1] at hq
    exact r_lret hx hb hr hq hlocks dAD_allOrigins_32
  | succ n ih =>
    intro k w ls hkn  hP hl hq
    refine lv_iload_n hx hb dAD_allOrigins_4 rfl (lv_at hl 0 rfl) ?_
    refine lv_bipush (v := nI 64) hx hb dAD_allOrigins_5 (by decide) ?_
    refine lv_icmp_ge (tgt := 31) hx hb dAD_allOrigins_7 (by decide) (fun c0 => absurd c0 (nI_ge (by omega) (by decide))) (fun _ => ?_)
    refine lv_aload_n hx hb dAD_allOrigins_10 rfl (lv_at hl 2 rfl) ?_
    refine va_get (D := D) (ci := 0) (v := .ref (a 2)) (C := RAD) (T := TAD) (N := 2) hx hb hts inAD hown hK hP 1 rfl rfl 0 (by decide) (hts _ k53) (fun _ h9 => h9) rfl dAD_allOrigins_11 ?_
    refine lv_iload_n hx hb dAD_allOrigins_14 rfl (lv_at hl 0 rfl) ?_
    refine ir_iald hx hb hK hP 2 0 rfl rfl (k := k) (by omega) (by decide) dAD_allOrigins_15 ?_
    refine lv_if_eq (tgt := 25) hx hb dAD_allOrigins_16 (by decide) (fun c3 => ?_) (fun c3 => ?_)
    · refine lv_iinc (v := nI (k + 1)) (lv' := [(3, .int (nI (k + 1))), (1, .long w), (0, .ref (a 1))]) hx hb dAD_allOrigins_25 hl (k := 0) rfl (nI_1 k) (by decide) rfl (fun ls hl => ?_)
      refine lv_goto (tgt := 4) hx hb dAD_allOrigins_28 (by decide) ?_
      have e1 : LAD_allOrigins aN (n + 1) k w = LAD_allOrigins aN n (k + 1) w := by simp only [LAD_allOrigins, if_pos c3]
      rw [e1] at hq
      exact ih (k + 1) w ls (by omega)  hP (lv_sub hl [0, 1, 2] rfl) hq
    · refine lv_lload_n hx hb dAD_allOrigins_19 rfl (lv_at hl 1 rfl) ?_
      refine lv_lconst (v := 1) hx hb dAD_allOrigins_20 (by decide) ?_
      refine lv_iload_n hx hb dAD_allOrigins_21 rfl (lv_at hl 0 rfl) ?_
      refine lv_lshl (v := bL k) hx hb dAD_allOrigins_22 rfl ?_
      refine lv_lor hx hb dAD_allOrigins_23 ?_
      refine lv_lstore_n (lv' := [(1, .long (w ||| (bL k))), (3, .int (nI k)), (0, .ref (a 1))]) hx hb dAD_allOrigins_24 rfl hl (by decide) rfl (fun ls hl => ?_)
      refine lv_iinc (v := nI (k + 1)) (lv' := [(3, .int (nI (k + 1))), (1, .long (w ||| (bL k))), (0, .ref (a 1))]) hx hb dAD_allOrigins_25 hl (k := 1) rfl (nI_1 k) (by decide) rfl (fun ls hl => ?_)
      refine lv_goto (tgt := 4) hx hb dAD_allOrigins_28 (by decide) ?_
      have e1 : LAD_allOrigins aN (n + 1) k w = LAD_allOrigins aN n (k + 1) (w ||| (bL k)) := by simp only [LAD_allOrigins, if_neg c3]
      rw [e1] at hq
      exact ih (k + 1) (w ||| (bL k)) ls (by omega)  hP (lv_sub hl [0, 1, 2] rfl) hq
set_option maxHeartbeats 4000000 in
set_option maxRecDepth 100000 in
theorem c_AD_allOrigins (l : Launch) {D : va_G} {cI cL : ClassId} {a : Nat → Nat}  (dI : Nat) (dO dG dN dT : Int32) (aN aB : Nat → Int32) (nS nP nR nG : Nat → Int32) (nO nU : Nat → Int64) (nT : Nat → Int32) (tP tR tO tN : Nat → Int32) (tF tZ : Nat) (mP : Nat → Int32) (mN : Int64)   : Met l yAD_allOrigins wsAD_allOrigins ({ frames := 0, cells := 0, slots := 0, locals := 0 }) (va_Pc [.ref (a 1)] (gG D (tyC cI cL) (wC cI cL a) ((dI, dO, dG, dN, dT), (aN, aB), (nS, nP, nR, nG, nO, nU, nT), (tP, tR, tO, tN, tF, tZ), (mP, mN)))) (vp_Sl (fun r : Int64 => r = LAD_allOrigins aN 64 0 0)) 0 0 (fun _ => False) := by
  refine g_enter (by decide) rfl (Nat.le_of_ble_eq_true rfl) ?_
  intro p e s m below meth c ls F hK hP hl
  obtain ⟨hx, hb, hr, hml, hown, hts, hlocks⟩ := id F
  have hl : lv_has ls 4 [(0, .ref (a 1))] := hl
  refine lv_lconst (v := 0) hx hb dAD_allOrigins_0 (by decide) ?_
  refine lv_lstore_n (lv' := [(1, .long 0), (0, .ref (a 1))]) hx hb dAD_allOrigins_1 rfl hl (by decide) rfl (fun ls hl => ?_)
  refine lv_iconst (v := nI 0) hx hb dAD_allOrigins_2 (by decide) ?_
  refine lv_istore_n (lv' := [(3, .int (nI 0)), (1, .long 0), (0, .ref (a 1))]) hx hb dAD_allOrigins_3 rfl hl (by decide) rfl (fun ls hl => ?_)
  exact lpAD_allOrigins F hK  _ 64 0 0 ls rfl  hP (lv_sub hl [0, 1, 2] rfl) rfl
def fMS_isMade (mP : Nat → Int32) : Bool := (if (mP 0) = 0 then false else true)
set_option maxHeartbeats 4000000 in
set_option maxRecDepth 100000 in
theorem c_MS_isMade (l : Launch) {D : va_G} {cI cL : ClassId} {a : Nat → Nat}  (dI : Nat) (dO dG dN dT : Int32) (aN aB : Nat → Int32) (nS nP nR nG : Nat → Int32) (nO nU : Nat → Int64) (nT : Nat → Int32) (tP tR tO tN : Nat → Int32) (tF tZ : Nat) (mP : Nat → Int32) (mN : Int64)   : Met l yMS_isMade wsMS_isMade ({ frames := 0, cells := 0, slots := 0, locals := 0 }) (va_Pc [.ref (a 17)] (gG D (tyC cI cL) (wC cI cL a) ((dI, dO, dG, dN, dT), (aN, aB), (nS, nP, nR, nG, nO, nU, nT), (tP, tR, tO, tN, tF, tZ), (mP, mN)))) (vp_Si (fun r : Int32 => r = bi (fMS_isMade mP))) 0 0 (fun _ => False) := by
  refine g_enter (by decide) rfl (Nat.le_of_ble_eq_true rfl) ?_
  intro p e s m below meth c ls F hK hP hl
  obtain ⟨hx, hb, hr, hml, hown, hts, hlocks⟩ := id F
  have hl : lv_has ls 1 [(0, .ref (a 17))] := hl
  refine lv_aload_n hx hb dMS_isMade_0 rfl (lv_at hl 0 rfl) ?_
  refine va_get (D := D) (ci := 1) (v := .ref (a 18)) (C := RMS) (T := TMS) (N := 2) hx hb hts inMS hown hK hP 17 rfl rfl 0 (by decide) (hts _ k121) (fun _ h9 => h9) rfl dMS_isMade_1 ?_
  refine lv_iconst (v := nI 0) hx hb dMS_isMade_4 (by decide) ?_
  refine ir_iald hx hb hK hP 18 0 rfl rfl (k := 0) (by omega) (by decide) dMS_isMade_5 ?_
  refine lv_if_eq (tgt := 13) hx hb dMS_isMade_6 (by decide) (fun c1 => ?_) (fun c1 => ?_)
  · refine lv_iconst (v := bi false) hx hb dMS_isMade_13 (by decide) ?_
    have e1 : fMS_isMade mP = false := by simp only [fMS_isMade, if_pos c1]
    exact r_zret hx hb hr (by first | rfl | (rw [e1] <;> rfl)) hlocks dMS_isMade_14
  · refine lv_iconst (v := bi true) hx hb dMS_isMade_9 (by decide) ?_
    refine lv_goto (tgt := 14) hx hb dMS_isMade_10 (by decide) ?_
    have e1 : fMS_isMade mP = true := by simp only [fMS_isMade, if_neg c1]
    exact r_zret hx hb hr (by first | rfl | (rw [e1] <;> rfl)) hlocks dMS_isMade_14
set_option maxHeartbeats 4000000 in
set_option maxRecDepth 100000 in
theorem c_MS_part (l : Launch) {D : va_G} {cI cL : ClassId} {a : Nat → Nat}  (dI : Nat) (dO dG dN dT : Int32) (aN aB : Nat → Int32) (nS nP nR nG : Nat → Int32) (nO nU : Nat → Int64) (nT : Nat → Int32) (tP tR tO tN : Nat → Int32) (tF tZ : Nat) (mP : Nat → Int32) (mN : Int64) (i : Nat) (hi : i < 6) : Met l yMS_part wsMS_part ({ frames := 0, cells := 0, slots := 0, locals := 0 }) (va_Pc [.ref (a 17), .int (nI i)] (gG D (tyC cI cL) (wC cI cL a) ((dI, dO, dG, dN, dT), (aN, aB), (nS, nP, nR, nG, nO, nU, nT), (tP, tR, tO, tN, tF, tZ), (mP, mN)))) (vp_Si (fun r : Int32 => r = mP i)) 0 0 (fun _ => False) := by
  refine g_enter (by decide) rfl (Nat.le_of_ble_eq_true rfl) ?_
  intro p e s m below meth c ls F hK hP hl
  obtain ⟨hx, hb, hr, hml, hown, hts, hlocks⟩ := id F
  have hl : lv_has ls 2 [(0, .ref (a 17)), (1, .int (nI i))] := hl
  refine lv_aload_n hx hb dMS_part_0 rfl (lv_at hl 0 rfl) ?_
  refine va_get (D := D) (ci := 1) (v := .ref (a 18)) (C := RMS) (T := TMS) (N := 2) hx hb hts inMS hown hK hP 17 rfl rfl 0 (by decide) (hts _ k121) (fun _ h9 => h9) rfl dMS_part_1 ?_
  refine lv_iload_n hx hb dMS_part_4 rfl (lv_at hl 1 rfl) ?_
  refine ir_iald hx hb hK hP 18 0 rfl rfl (k := i) (by omega) (by decide) dMS_part_5 ?_
  exact r_iret hx hb hr (rfl) hlocks dMS_part_6
set_option maxHeartbeats 4000000 in
set_option maxRecDepth 100000 in
theorem c_MS_namedRouters (l : Launch) {D : va_G} {cI cL : ClassId} {a : Nat → Nat}  (dI : Nat) (dO dG dN dT : Int32) (aN aB : Nat → Int32) (nS nP nR nG : Nat → Int32) (nO nU : Nat → Int64) (nT : Nat → Int32) (tP tR tO tN : Nat → Int32) (tF tZ : Nat) (mP : Nat → Int32) (mN : Int64)   : Met l yMS_namedRouters wsMS_namedRouters ({ frames := 0, cells := 0, slots := 0, locals := 0 }) (va_Pc [.ref (a 17)] (gG D (tyC cI cL) (wC cI cL a) ((dI, dO, dG, dN, dT), (aN, aB), (nS, nP, nR, nG, nO, nU, nT), (tP, tR, tO, tN, tF, tZ), (mP, mN)))) (vp_Sl (fun r : Int64 => r = mN)) 0 0 (fun _ => False) := by
  refine g_enter (by decide) rfl (Nat.le_of_ble_eq_true rfl) ?_
  intro p e s m below meth c ls F hK hP hl
  obtain ⟨hx, hb, hr, hml, hown, hts, hlocks⟩ := id F
  have hl : lv_has ls 1 [(0, .ref (a 17))] := hl
  refine lv_aload_n hx hb dMS_namedRouters_0 rfl (lv_at hl 0 rfl) ?_
  refine va_get (D := D) (ci := 1) (v := .long mN) (C := RMS) (T := TMS) (N := 2) hx hb hts inMS hown hK hP 17 rfl rfl 1 (by decide) (hts _ k122) (fun _ h9 => h9) rfl dMS_namedRouters_1 ?_
  exact r_lret hx hb hr (rfl) hlocks dMS_namedRouters_4
set_option maxHeartbeats 4000000 in
set_option maxRecDepth 100000 in
theorem c_MS_address (l : Launch) {D : va_G} {cI cL : ClassId} {a : Nat → Nat} {A : Nat → Prop} (hA : ∀ v : CS, va_D A (wC cI cL a v)) (dI : Nat) (dO dG dN dT : Int32) (aN aB : Nat → Int32) (nS nP nR nG : Nat → Int32) (nO nU : Nat → Int64) (nT : Nat → Int32) (tP tR tO tN : Nat → Int32) (tF tZ : Nat) (mP : Nat → Int32) (mN : Int64) (x : Int32) (y : Int32) (z : Int32)  : Met l yMS_address wsMS_address ({ frames := 0, cells := 0, slots := 0, locals := 0 }) (va_Pc [.ref (a 17), .int x, .int y, .int z] (gG D (tyC cI cL) (wC cI cL a) ((dI, dO, dG, dN, dT), (aN, aB), (nS, nP, nR, nG, nO, nU, nT), (tP, tR, tO, tN, tF, tZ), (mP, mN)))) (va_Qv (fun u : CS => u = ((dI, dO, dG, dN, dT), (aN, aB), (nS, nP, nR, nG, nO, nU, nT), (tP, tR, tO, tN, tF, tZ), (upd (upd (upd mP 0 x) 1 y) 2 z, mN))) (gG D (tyC cI cL) (wC cI cL a)) A) 0 0 A := by
  refine g_enter (by decide) rfl (Nat.le_of_ble_eq_true rfl) ?_
  intro p e s m below meth c ls F hK hP hl
  obtain ⟨hx, hb, hr, hml, hown, hts, hlocks⟩ := id F
  have hS : va_S A s.heap s.heap [] := va_S.rf
  have hl : lv_has ls 4 [(0, .ref (a 17)), (1, .int x), (2, .int y), (3, .int z)] := hl
  refine lv_aload_n hx hb dMS_address_0 rfl (lv_at hl 0 rfl) ?_
  refine va_get (D := D) (ci := 1) (v := .ref (a 18)) (C := RMS) (T := TMS) (N := 2) hx hb hts inMS hown hK hP 17 rfl rfl 0 (by decide) (hts _ k121) (fun _ h9 => h9) rfl dMS_address_1 ?_
  refine lv_iconst (v := nI 0) hx hb dMS_address_4 (by decide) ?_
  refine lv_iload_n hx hb dMS_address_5 rfl (lv_at hl 1 rfl) ?_
  refine ir_iast hx hb hK hP (hA _) hS 18 0 rfl rfl (k := 0) (by omega) (by decide) dMS_address_6 (fun H locs hP hS => ?_)
  have hP : va_P D vwCl (wC cI cL a ((dI, dO, dG, dN, dT), (aN, aB), (nS, nP, nR, nG, nO, nU, nT), (tP, tR, tO, tN, tF, tZ), (upd mP 0 x, mN))) H := hP
  refine lv_aload_n hx hb dMS_address_7 rfl (lv_at hl 0 rfl) ?_
  refine va_get (D := D) (ci := 1) (v := .ref (a 18)) (C := RMS) (T := TMS) (N := 2) hx hb hts inMS hown hK hP 17 rfl rfl 0 (by decide) (hts _ k121) (fun _ h9 => h9) rfl dMS_address_8 ?_
  refine lv_iconst (v := nI 1) hx hb dMS_address_11 (by decide) ?_
  refine lv_iload_n hx hb dMS_address_12 rfl (lv_at hl 2 rfl) ?_
  refine ir_iast hx hb hK hP (hA _) hS 18 0 rfl rfl (k := 1) (by omega) (by decide) dMS_address_13 (fun H locs hP hS => ?_)
  have hP : va_P D vwCl (wC cI cL a ((dI, dO, dG, dN, dT), (aN, aB), (nS, nP, nR, nG, nO, nU, nT), (tP, tR, tO, tN, tF, tZ), (upd (upd mP 0 x) 1 y, mN))) H := hP
  refine lv_aload_n hx hb dMS_address_14 rfl (lv_at hl 0 rfl) ?_
  refine va_get (D := D) (ci := 1) (v := .ref (a 18)) (C := RMS) (T := TMS) (N := 2) hx hb hts inMS hown hK hP 17 rfl rfl 0 (by decide) (hts _ k121) (fun _ h9 => h9) rfl dMS_address_15 ?_
  refine lv_iconst (v := nI 2) hx hb dMS_address_18 (by decide) ?_
  refine lv_iload_n hx hb dMS_address_19 rfl (lv_at hl 3 rfl) ?_
  refine ir_iast hx hb hK hP (hA _) hS 18 0 rfl rfl (k := 2) (by omega) (by decide) dMS_address_20 (fun H locs hP hS => ?_)
  have hP : va_P D vwCl (wC cI cL a ((dI, dO, dG, dN, dT), (aN, aB), (nS, nP, nR, nG, nO, nU, nT), (tP, tR, tO, tN, tF, tZ), (upd (upd (upd mP 0 x) 1 y) 2 z, mN))) H := hP
  exact g_vret (v := ((dI, dO, dG, dN, dT), (aN, aB), (nS, nP, nR, nG, nO, nU, nT), (tP, tR, tO, tN, tF, tZ), (upd (upd (upd mP 0 x) 1 y) 2 z, mN))) hx hb hr hK hP hS (rfl) hlocks dMS_address_21
set_option maxHeartbeats 4000000 in
set_option maxRecDepth 100000 in
theorem c_MS_fill (l : Launch) {D : va_G} {cI cL : ClassId} {a : Nat → Nat} {A : Nat → Prop} (hA : ∀ v : CS, va_D A (wC cI cL a v)) (dI : Nat) (dO dG dN dT : Int32) (aN aB : Nat → Int32) (nS nP nR nG : Nat → Int32) (nO nU : Nat → Int64) (nT : Nat → Int32) (tP tR tO tN : Nat → Int32) (tF tZ : Nat) (mP : Nat → Int32) (mN : Int64) (x : Int32) (y : Int32) (z : Int32)  : Met l yMS_fill wsMS_fill ({ frames := 0, cells := 0, slots := 0, locals := 0 }) (va_Pc [.ref (a 17), .int x, .int y, .int z] (gG D (tyC cI cL) (wC cI cL a) ((dI, dO, dG, dN, dT), (aN, aB), (nS, nP, nR, nG, nO, nU, nT), (tP, tR, tO, tN, tF, tZ), (mP, mN)))) (va_Qv (fun u : CS => u = ((dI, dO, dG, dN, dT), (aN, aB), (nS, nP, nR, nG, nO, nU, nT), (tP, tR, tO, tN, tF, tZ), (upd (upd (upd mP 3 x) 4 y) 5 z, mN))) (gG D (tyC cI cL) (wC cI cL a)) A) 0 0 A := by
  refine g_enter (by decide) rfl (Nat.le_of_ble_eq_true rfl) ?_
  intro p e s m below meth c ls F hK hP hl
  obtain ⟨hx, hb, hr, hml, hown, hts, hlocks⟩ := id F
  have hS : va_S A s.heap s.heap [] := va_S.rf
  have hl : lv_has ls 4 [(0, .ref (a 17)), (1, .int x), (2, .int y), (3, .int z)] := hl
  refine lv_aload_n hx hb dMS_fill_0 rfl (lv_at hl 0 rfl) ?_
  refine va_get (D := D) (ci := 1) (v := .ref (a 18)) (C := RMS) (T := TMS) (N := 2) hx hb hts inMS hown hK hP 17 rfl rfl 0 (by decide) (hts _ k121) (fun _ h9 => h9) rfl dMS_fill_1 ?_
  refine lv_iconst (v := nI 3) hx hb dMS_fill_4 (by decide) ?_
  refine lv_iload_n hx hb dMS_fill_5 rfl (lv_at hl 1 rfl) ?_
  refine ir_iast hx hb hK hP (hA _) hS 18 0 rfl rfl (k := 3) (by omega) (by decide) dMS_fill_6 (fun H locs hP hS => ?_)
  have hP : va_P D vwCl (wC cI cL a ((dI, dO, dG, dN, dT), (aN, aB), (nS, nP, nR, nG, nO, nU, nT), (tP, tR, tO, tN, tF, tZ), (upd mP 3 x, mN))) H := hP
  refine lv_aload_n hx hb dMS_fill_7 rfl (lv_at hl 0 rfl) ?_
  refine va_get (D := D) (ci := 1) (v := .ref (a 18)) (C := RMS) (T := TMS) (N := 2) hx hb hts inMS hown hK hP 17 rfl rfl 0 (by decide) (hts _ k121) (fun _ h9 => h9) rfl dMS_fill_8 ?_
  refine lv_iconst (v := nI 4) hx hb dMS_fill_11 (by decide) ?_
  refine lv_iload_n hx hb dMS_fill_12 rfl (lv_at hl 2 rfl) ?_
  refine ir_iast hx hb hK hP (hA _) hS 18 0 rfl rfl (k := 4) (by omega) (by decide) dMS_fill_13 (fun H locs hP hS => ?_)
  have hP : va_P D vwCl (wC cI cL a ((dI, dO, dG, dN, dT), (aN, aB), (nS, nP, nR, nG, nO, nU, nT), (tP, tR, tO, tN, tF, tZ), (upd (upd mP 3 x) 4 y, mN))) H := hP
  refine lv_aload_n hx hb dMS_fill_14 rfl (lv_at hl 0 rfl) ?_
  refine va_get (D := D) (ci := 1) (v := .ref (a 18)) (C := RMS) (T := TMS) (N := 2) hx hb hts inMS hown hK hP 17 rfl rfl 0 (by decide) (hts _ k121) (fun _ h9 => h9) rfl dMS_fill_15 ?_
  refine lv_iconst (v := nI 5) hx hb dMS_fill_18 (by decide) ?_
  refine lv_iload_n hx hb dMS_fill_19 rfl (lv_at hl 3 rfl) ?_
  refine ir_iast hx hb hK hP (hA _) hS 18 0 rfl rfl (k := 5) (by omega) (by decide) dMS_fill_20 (fun H locs hP hS => ?_)
  have hP : va_P D vwCl (wC cI cL a ((dI, dO, dG, dN, dT), (aN, aB), (nS, nP, nR, nG, nO, nU, nT), (tP, tR, tO, tN, tF, tZ), (upd (upd (upd mP 3 x) 4 y) 5 z, mN))) H := hP
  exact g_vret (v := ((dI, dO, dG, dN, dT), (aN, aB), (nS, nP, nR, nG, nO, nU, nT), (tP, tR, tO, tN, tF, tZ), (upd (upd (upd mP 3 x) 4 y) 5 z, mN))) hx hb hr hK hP hS (rfl) hlocks dMS_fill_21
set_option maxHeartbeats 4000000 in
set_option maxRecDepth 100000 in
theorem c_MS_makeGreeting (l : Launch) {D : va_G} {cI cL : ClassId} {a : Nat → Nat} {A : Nat → Prop} (hA : ∀ v : CS, va_D A (wC cI cL a v)) (dI : Nat) (dO dG dN dT : Int32) (aN aB : Nat → Int32) (nS nP nR nG : Nat → Int32) (nO nU : Nat → Int64) (nT : Nat → Int32) (tP tR tO tN : Nat → Int32) (tF tZ : Nat) (mP : Nat → Int32) (mN : Int64) (x : Int32) (w : Int64)  : Met l yMS_makeGreeting wsMS_makeGreeting ({ frames := 1, cells := 0, slots := 0, locals := 23 }) (va_Pc [.ref (a 17), .int x, .long w] (gG D (tyC cI cL) (wC cI cL a) ((dI, dO, dG, dN, dT), (aN, aB), (nS, nP, nR, nG, nO, nU, nT), (tP, tR, tO, tN, tF, tZ), (mP, mN)))) (va_Qv (fun u : CS => u = ((dI, dO, dG, dN, dT), (aN, aB), (nS, nP, nR, nG, nO, nU, nT), (tP, tR, tO, tN, tF, tZ), (upd (upd (upd (upd (upd (upd mP 0 1) 1 x) 2 (-1)) 3 (-1)) 4 0) 5 0, w))) (gG D (tyC cI cL) (wC cI cL a)) A) 0 0 A := by
  refine g_enter (by decide) rfl (Nat.le_of_ble_eq_true rfl) ?_
  intro p e s m below meth c ls F hK hP hl
  obtain ⟨hx, hb, hr, hml, hown, hts, hlocks⟩ := id F
  have hS : va_S A s.heap s.heap [] := va_S.rf
  have hl : lv_has ls 4 [(0, .ref (a 17)), (1, .int x), (2, .long w)] := hl
  refine lv_aload_n hx hb dMS_makeGreeting_0 rfl (lv_at hl 0 rfl) ?_
  refine lv_iconst (v := 1) hx hb dMS_makeGreeting_1 (by decide) ?_
  refine lv_iload_n hx hb dMS_makeGreeting_2 rfl (lv_at hl 1 rfl) ?_
  refine lv_iconst (v := (-1)) hx hb dMS_makeGreeting_3 (by decide) ?_
  refine g_callVv (As := [.int 1, .int x, .int (-1)]) (rest := []) ⟨hx, hb, hml, hown, hts⟩ (c_MS_address l hA dI dO dG dN dT aN aB nS nP nR nG nO nU nT tP tR tO tN tF tZ mP mN 1 x (-1)) (cwV 3 hts (gw_V k188 k190 k1 k31 k191) rfl rfl rfl (by decide +kernel) ⟨Nat.le_of_ble_eq_true rfl, Nat.le_of_ble_eq_true rfl⟩) hK hP (va_recv hK hP (ci := 1) (q0 := 17) rfl rfl) rfl hl.1 rfl (Nat.le_of_ble_eq_true rfl) dMS_makeGreeting_4 ⟨Nat.zero_le _, Nat.zero_le _⟩ (fun q h => h) hS (fun H locs hP hS => ?_)
  have hP : va_P D vwCl (wC cI cL a ((dI, dO, dG, dN, dT), (aN, aB), (nS, nP, nR, nG, nO, nU, nT), (tP, tR, tO, tN, tF, tZ), (upd (upd (upd mP 0 1) 1 x) 2 (-1), mN))) H := hP
  refine lv_aload_n hx hb dMS_makeGreeting_7 rfl (lv_at hl 0 rfl) ?_
  refine lv_iconst (v := (-1)) hx hb dMS_makeGreeting_8 (by decide) ?_
  refine lv_iconst (v := 0) hx hb dMS_makeGreeting_9 (by decide) ?_
  refine lv_iconst (v := 0) hx hb dMS_makeGreeting_10 (by decide) ?_
  refine g_callVv (As := [.int (-1), .int 0, .int 0]) (rest := []) ⟨hx, hb, hml, hown, hts⟩ (c_MS_fill l hA dI dO dG dN dT aN aB nS nP nR nG nO nU nT tP tR tO tN tF tZ (upd (upd (upd mP 0 1) 1 x) 2 (-1)) mN (-1) 0 0) (cwV 3 hts (gw_V k192 k194 k2 k31 k195) rfl rfl rfl (by decide +kernel) ⟨Nat.le_of_ble_eq_true rfl, Nat.le_of_ble_eq_true rfl⟩) hK hP (va_recv hK hP (ci := 1) (q0 := 17) rfl rfl) rfl hl.1 rfl (Nat.le_of_ble_eq_true rfl) dMS_makeGreeting_11 ⟨Nat.zero_le _, Nat.zero_le _⟩ (fun q h => h) hS (fun H locs hP hS => ?_)
  have hP : va_P D vwCl (wC cI cL a ((dI, dO, dG, dN, dT), (aN, aB), (nS, nP, nR, nG, nO, nU, nT), (tP, tR, tO, tN, tF, tZ), (upd (upd (upd (upd (upd (upd mP 0 1) 1 x) 2 (-1)) 3 (-1)) 4 0) 5 0, mN))) H := hP
  refine lv_aload_n hx hb dMS_makeGreeting_14 rfl (lv_at hl 0 rfl) ?_
  refine lv_lload_n hx hb dMS_makeGreeting_15 rfl (lv_at hl 2 rfl) ?_
  refine va_put (D := D) (ci := 1) (v := .long w) (ty := .long) (C := RMS) (T := TMS) (N := 2) hx hb hts inMS tyMS tyMS_ok nmMS hown hK hP (hA _) hS 17 rfl rfl 1 (by decide) (hts _ k122) (fun _ h9 => h9) rfl (by decide +kernel) rfl rfl (Nat.le_of_ble_eq_true rfl) dMS_makeGreeting_16 (fun H locs hP _ hS => ?_)
  have hP : va_P D vwCl (wC cI cL a ((dI, dO, dG, dN, dT), (aN, aB), (nS, nP, nR, nG, nO, nU, nT), (tP, tR, tO, tN, tF, tZ), (upd (upd (upd (upd (upd (upd mP 0 1) 1 x) 2 (-1)) 3 (-1)) 4 0) 5 0, w))) H := hP
  exact g_vret (v := ((dI, dO, dG, dN, dT), (aN, aB), (nS, nP, nR, nG, nO, nU, nT), (tP, tR, tO, tN, tF, tZ), (upd (upd (upd (upd (upd (upd mP 0 1) 1 x) 2 (-1)) 3 (-1)) 4 0) 5 0, w))) hx hb hr hK hP hS (rfl) hlocks dMS_makeGreeting_19
set_option maxHeartbeats 4000000 in
set_option maxRecDepth 100000 in
theorem c_MS_makeThanks (l : Launch) {D : va_G} {cI cL : ClassId} {a : Nat → Nat} {A : Nat → Prop} (hA : ∀ v : CS, va_D A (wC cI cL a v)) (dI : Nat) (dO dG dN dT : Int32) (aN aB : Nat → Int32) (nS nP nR nG : Nat → Int32) (nO nU : Nat → Int64) (nT : Nat → Int32) (tP tR tO tN : Nat → Int32) (tF tZ : Nat) (mP : Nat → Int32) (mN : Int64) (x : Int32) (y : Int32) (z : Int32) (q : Int32)  : Met l yMS_makeThanks wsMS_makeThanks ({ frames := 1, cells := 0, slots := 0, locals := 23 }) (va_Pc [.ref (a 17), .int x, .int y, .int z, .int q] (gG D (tyC cI cL) (wC cI cL a) ((dI, dO, dG, dN, dT), (aN, aB), (nS, nP, nR, nG, nO, nU, nT), (tP, tR, tO, tN, tF, tZ), (mP, mN)))) (va_Qv (fun u : CS => u = ((dI, dO, dG, dN, dT), (aN, aB), (nS, nP, nR, nG, nO, nU, nT), (tP, tR, tO, tN, tF, tZ), (upd (upd (upd (upd (upd (upd mP 0 2) 1 x) 2 y) 3 z) 4 q) 5 0, 0))) (gG D (tyC cI cL) (wC cI cL a)) A) 0 0 A := by
  refine g_enter (by decide) rfl (Nat.le_of_ble_eq_true rfl) ?_
  intro p e s m below meth c ls F hK hP hl
  obtain ⟨hx, hb, hr, hml, hown, hts, hlocks⟩ := id F
  have hS : va_S A s.heap s.heap [] := va_S.rf
  have hl : lv_has ls 5 [(0, .ref (a 17)), (1, .int x), (2, .int y), (3, .int z), (4, .int q)] := hl
  refine lv_aload_n hx hb dMS_makeThanks_0 rfl (lv_at hl 0 rfl) ?_
  refine lv_iconst (v := 2) hx hb dMS_makeThanks_1 (by decide) ?_
  refine lv_iload_n hx hb dMS_makeThanks_2 rfl (lv_at hl 1 rfl) ?_
  refine lv_iload_n hx hb dMS_makeThanks_3 rfl (lv_at hl 2 rfl) ?_
  refine g_callVv (As := [.int 2, .int x, .int y]) (rest := []) ⟨hx, hb, hml, hown, hts⟩ (c_MS_address l hA dI dO dG dN dT aN aB nS nP nR nG nO nU nT tP tR tO tN tF tZ mP mN 2 x y) (cwV 3 hts (gw_V k188 k190 k1 k31 k191) rfl rfl rfl (by decide +kernel) ⟨Nat.le_of_ble_eq_true rfl, Nat.le_of_ble_eq_true rfl⟩) hK hP (va_recv hK hP (ci := 1) (q0 := 17) rfl rfl) rfl hl.1 rfl (Nat.le_of_ble_eq_true rfl) dMS_makeThanks_4 ⟨Nat.zero_le _, Nat.zero_le _⟩ (fun q h => h) hS (fun H locs hP hS => ?_)
  have hP : va_P D vwCl (wC cI cL a ((dI, dO, dG, dN, dT), (aN, aB), (nS, nP, nR, nG, nO, nU, nT), (tP, tR, tO, tN, tF, tZ), (upd (upd (upd mP 0 2) 1 x) 2 y, mN))) H := hP
  refine lv_aload_n hx hb dMS_makeThanks_7 rfl (lv_at hl 0 rfl) ?_
  refine lv_iload_n hx hb dMS_makeThanks_8 rfl (lv_at hl 3 rfl) ?_
  refine lv_iload hx hb dMS_makeThanks_9 (lv_at hl 4 rfl) ?_
  refine lv_iconst (v := 0) hx hb dMS_makeThanks_11 (by decide) ?_
  refine g_callVv (As := [.int z, .int q, .int 0]) (rest := []) ⟨hx, hb, hml, hown, hts⟩ (c_MS_fill l hA dI dO dG dN dT aN aB nS nP nR nG nO nU nT tP tR tO tN tF tZ (upd (upd (upd mP 0 2) 1 x) 2 y) mN z q 0) (cwV 3 hts (gw_V k192 k194 k2 k31 k195) rfl rfl rfl (by decide +kernel) ⟨Nat.le_of_ble_eq_true rfl, Nat.le_of_ble_eq_true rfl⟩) hK hP (va_recv hK hP (ci := 1) (q0 := 17) rfl rfl) rfl hl.1 rfl (Nat.le_of_ble_eq_true rfl) dMS_makeThanks_12 ⟨Nat.zero_le _, Nat.zero_le _⟩ (fun q h => h) hS (fun H locs hP hS => ?_)
  have hP : va_P D vwCl (wC cI cL a ((dI, dO, dG, dN, dT), (aN, aB), (nS, nP, nR, nG, nO, nU, nT), (tP, tR, tO, tN, tF, tZ), (upd (upd (upd (upd (upd (upd mP 0 2) 1 x) 2 y) 3 z) 4 q) 5 0, mN))) H := hP
  refine lv_aload_n hx hb dMS_makeThanks_15 rfl (lv_at hl 0 rfl) ?_
  refine lv_lconst (v := 0) hx hb dMS_makeThanks_16 (by decide) ?_
  refine va_put (D := D) (ci := 1) (v := .long 0) (ty := .long) (C := RMS) (T := TMS) (N := 2) hx hb hts inMS tyMS tyMS_ok nmMS hown hK hP (hA _) hS 17 rfl rfl 1 (by decide) (hts _ k122) (fun _ h9 => h9) rfl (by decide +kernel) rfl rfl (Nat.le_of_ble_eq_true rfl) dMS_makeThanks_17 (fun H locs hP _ hS => ?_)
  have hP : va_P D vwCl (wC cI cL a ((dI, dO, dG, dN, dT), (aN, aB), (nS, nP, nR, nG, nO, nU, nT), (tP, tR, tO, tN, tF, tZ), (upd (upd (upd (upd (upd (upd mP 0 2) 1 x) 2 y) 3 z) 4 q) 5 0, 0))) H := hP
  exact g_vret (v := ((dI, dO, dG, dN, dT), (aN, aB), (nS, nP, nR, nG, nO, nU, nT), (tP, tR, tO, tN, tF, tZ), (upd (upd (upd (upd (upd (upd mP 0 2) 1 x) 2 y) 3 z) 4 q) 5 0, 0))) hx hb hr hK hP hS (rfl) hlocks dMS_makeThanks_20
set_option maxHeartbeats 4000000 in
set_option maxRecDepth 100000 in
theorem c_MS_makeAdvert (l : Launch) {D : va_G} {cI cL : ClassId} {a : Nat → Nat} {A : Nat → Prop} (hA : ∀ v : CS, va_D A (wC cI cL a v)) (dI : Nat) (dO dG dN dT : Int32) (aN aB : Nat → Int32) (nS nP nR nG : Nat → Int32) (nO nU : Nat → Int64) (nT : Nat → Int32) (tP tR tO tN : Nat → Int32) (tF tZ : Nat) (mP : Nat → Int32) (mN : Int64) (x : Int32) (y : Int32) (z : Int32) (q : Int32) (b : Int32)  : Met l yMS_makeAdvert wsMS_makeAdvert ({ frames := 1, cells := 0, slots := 0, locals := 23 }) (va_Pc [.ref (a 17), .int x, .int y, .int z, .int q, .int b] (gG D (tyC cI cL) (wC cI cL a) ((dI, dO, dG, dN, dT), (aN, aB), (nS, nP, nR, nG, nO, nU, nT), (tP, tR, tO, tN, tF, tZ), (mP, mN)))) (va_Qv (fun u : CS => u = ((dI, dO, dG, dN, dT), (aN, aB), (nS, nP, nR, nG, nO, nU, nT), (tP, tR, tO, tN, tF, tZ), (upd (upd (upd (upd (upd (upd mP 0 3) 1 x) 2 y) 3 z) 4 q) 5 b, 0))) (gG D (tyC cI cL) (wC cI cL a)) A) 0 0 A := by
  refine g_enter (by decide) rfl (Nat.le_of_ble_eq_true rfl) ?_
  intro p e s m below meth c ls F hK hP hl
  obtain ⟨hx, hb, hr, hml, hown, hts, hlocks⟩ := id F
  have hS : va_S A s.heap s.heap [] := va_S.rf
  have hl : lv_has ls 6 [(0, .ref (a 17)), (1, .int x), (2, .int y), (3, .int z), (4, .int q), (5, .int b)] := hl
  refine lv_aload_n hx hb dMS_makeAdvert_0 rfl (lv_at hl 0 rfl) ?_
  refine lv_iconst (v := 3) hx hb dMS_makeAdvert_1 (by decide) ?_
  refine lv_iload_n hx hb dMS_makeAdvert_2 rfl (lv_at hl 1 rfl) ?_
  refine lv_iload_n hx hb dMS_makeAdvert_3 rfl (lv_at hl 2 rfl) ?_
  refine g_callVv (As := [.int 3, .int x, .int y]) (rest := []) ⟨hx, hb, hml, hown, hts⟩ (c_MS_address l hA dI dO dG dN dT aN aB nS nP nR nG nO nU nT tP tR tO tN tF tZ mP mN 3 x y) (cwV 3 hts (gw_V k188 k190 k1 k31 k191) rfl rfl rfl (by decide +kernel) ⟨Nat.le_of_ble_eq_true rfl, Nat.le_of_ble_eq_true rfl⟩) hK hP (va_recv hK hP (ci := 1) (q0 := 17) rfl rfl) rfl hl.1 rfl (Nat.le_of_ble_eq_true rfl) dMS_makeAdvert_4 ⟨Nat.zero_le _, Nat.zero_le _⟩ (fun q h => h) hS (fun H locs hP hS => ?_)
  have hP : va_P D vwCl (wC cI cL a ((dI, dO, dG, dN, dT), (aN, aB), (nS, nP, nR, nG, nO, nU, nT), (tP, tR, tO, tN, tF, tZ), (upd (upd (upd mP 0 3) 1 x) 2 y, mN))) H := hP
  refine lv_aload_n hx hb dMS_makeAdvert_7 rfl (lv_at hl 0 rfl) ?_
  refine lv_iload_n hx hb dMS_makeAdvert_8 rfl (lv_at hl 3 rfl) ?_
  refine lv_iload hx hb dMS_makeAdvert_9 (lv_at hl 4 rfl) ?_
  refine lv_iload hx hb dMS_makeAdvert_11 (lv_at hl 5 rfl) ?_
  refine g_callVv (As := [.int z, .int q, .int b]) (rest := []) ⟨hx, hb, hml, hown, hts⟩ (c_MS_fill l hA dI dO dG dN dT aN aB nS nP nR nG nO nU nT tP tR tO tN tF tZ (upd (upd (upd mP 0 3) 1 x) 2 y) mN z q b) (cwV 3 hts (gw_V k192 k194 k2 k31 k195) rfl rfl rfl (by decide +kernel) ⟨Nat.le_of_ble_eq_true rfl, Nat.le_of_ble_eq_true rfl⟩) hK hP (va_recv hK hP (ci := 1) (q0 := 17) rfl rfl) rfl hl.1 rfl (Nat.le_of_ble_eq_true rfl) dMS_makeAdvert_13 ⟨Nat.zero_le _, Nat.zero_le _⟩ (fun q h => h) hS (fun H locs hP hS => ?_)
  have hP : va_P D vwCl (wC cI cL a ((dI, dO, dG, dN, dT), (aN, aB), (nS, nP, nR, nG, nO, nU, nT), (tP, tR, tO, tN, tF, tZ), (upd (upd (upd (upd (upd (upd mP 0 3) 1 x) 2 y) 3 z) 4 q) 5 b, mN))) H := hP
  refine lv_aload_n hx hb dMS_makeAdvert_16 rfl (lv_at hl 0 rfl) ?_
  refine lv_lconst (v := 0) hx hb dMS_makeAdvert_17 (by decide) ?_
  refine va_put (D := D) (ci := 1) (v := .long 0) (ty := .long) (C := RMS) (T := TMS) (N := 2) hx hb hts inMS tyMS tyMS_ok nmMS hown hK hP (hA _) hS 17 rfl rfl 1 (by decide) (hts _ k122) (fun _ h9 => h9) rfl (by decide +kernel) rfl rfl (Nat.le_of_ble_eq_true rfl) dMS_makeAdvert_18 (fun H locs hP _ hS => ?_)
  have hP : va_P D vwCl (wC cI cL a ((dI, dO, dG, dN, dT), (aN, aB), (nS, nP, nR, nG, nO, nU, nT), (tP, tR, tO, tN, tF, tZ), (upd (upd (upd (upd (upd (upd mP 0 3) 1 x) 2 y) 3 z) 4 q) 5 b, 0))) H := hP
  exact g_vret (v := ((dI, dO, dG, dN, dT), (aN, aB), (nS, nP, nR, nG, nO, nU, nT), (tP, tR, tO, tN, tF, tZ), (upd (upd (upd (upd (upd (upd mP 0 3) 1 x) 2 y) 3 z) 4 q) 5 b, 0))) hx hb hr hK hP hS (rfl) hlocks dMS_makeAdvert_21
end
section
def fTQ_isEmpty (tZ : Nat) : Bool := (if tZ = 0 then true else false)
set_option maxHeartbeats 4000000 in
set_option maxRecDepth 100000 in
theorem c_TQ_isEmpty (l : Launch) {D : va_G} {cI cL : ClassId} {a : Nat → Nat}  (dI : Nat) (dO dG dN dT : Int32) (aN aB : Nat → Int32) (nS nP nR nG : Nat → Int32) (nO nU : Nat → Int64) (nT : Nat → Int32) (tP tR tO tN : Nat → Int32) (tF tZ : Nat) (mP : Nat → Int32) (mN : Int64)  (hZ : tZ ≤ 64) : Met l yTQ_isEmpty wsTQ_isEmpty ({ frames := 0, cells := 0, slots := 0, locals := 0 }) (va_Pc [.ref (a 12)] (gG D (tyC cI cL) (wC cI cL a) ((dI, dO, dG, dN, dT), (aN, aB), (nS, nP, nR, nG, nO, nU, nT), (tP, tR, tO, tN, tF, tZ), (mP, mN)))) (vp_Si (fun r : Int32 => r = bi (fTQ_isEmpty tZ))) 0 0 (fun _ => False) := by
  refine g_enter (by decide) rfl (Nat.le_of_ble_eq_true rfl) ?_
  intro p e s m below meth c ls F hK hP hl
  obtain ⟨hx, hb, hr, hml, hown, hts, hlocks⟩ := id F
  have hl : lv_has ls 1 [(0, .ref (a 12))] := hl
  refine lv_aload_n hx hb dTQ_isEmpty_0 rfl (lv_at hl 0 rfl) ?_
  refine va_get (D := D) (ci := 3) (v := .int (nI tZ)) (C := RTQ) (T := TTQ) (N := 6) hx hb hts inTQ hown hK hP 12 rfl rfl 5 (by decide) (hts _ k101) (fun _ h9 => h9) rfl dTQ_isEmpty_1 ?_
  refine lv_if_ne (tgt := 11) hx hb dTQ_isEmpty_4 (by decide) (fun c1 => ?_) (fun c1 => ?_)
  · have c1 : ¬ tZ = 0 := fun q => c1 ((nI_z (by omega)).mpr q)
    refine lv_iconst (v := bi false) hx hb dTQ_isEmpty_11 (by decide) ?_
    have e1 : fTQ_isEmpty tZ = false := by simp only [fTQ_isEmpty, if_neg c1]
    exact r_zret hx hb hr (by first | rfl | (rw [e1] <;> rfl)) hlocks dTQ_isEmpty_12
  · have c1 := (nI_z (by omega)).mp c1
    refine lv_iconst (v := bi true) hx hb dTQ_isEmpty_7 (by decide) ?_
    refine lv_goto (tgt := 12) hx hb dTQ_isEmpty_8 (by decide) ?_
    have e1 : fTQ_isEmpty tZ = true := by simp only [fTQ_isEmpty, if_pos c1]
    exact r_zret hx hb hr (by first | rfl | (rw [e1] <;> rfl)) hlocks dTQ_isEmpty_12
theorem isEmpty_pos {z : Nat} (h : fTQ_isEmpty z = false) : 0 < z := by
  unfold fTQ_isEmpty at h
  by_cases hz : z = 0
  · rw [if_pos hz] at h; cases h
  · omega
def fTQ_add (tP : Nat → Int32) (tR : Nat → Int32) (tO : Nat → Int32) (tN : Nat → Int32) (tF : Nat) (tZ : Nat) (x : Int32) (y : Int32) (z : Int32) (q : Int32) : (Nat → Int32) × (Nat → Int32) × (Nat → Int32) × (Nat → Int32) × Nat := (if tZ < 64 then (upd tP ((tF + tZ) % 64) x, upd tR ((tF + tZ) % 64) y, upd tO ((tF + tZ) % 64) z, upd tN ((tF + tZ) % 64) q, tZ + 1) else (tP, tR, tO, tN, tZ))
set_option maxHeartbeats 4000000 in
set_option maxRecDepth 100000 in
theorem c_TQ_add (l : Launch) {D : va_G} {cI cL : ClassId} {a : Nat → Nat} {A : Nat → Prop} (hA : ∀ v : CS, va_D A (wC cI cL a v)) (dI : Nat) (dO dG dN dT : Int32) (aN aB : Nat → Int32) (nS nP nR nG : Nat → Int32) (nO nU : Nat → Int64) (nT : Nat → Int32) (tP tR tO tN : Nat → Int32) (tF tZ : Nat) (mP : Nat → Int32) (mN : Int64) (x : Int32) (y : Int32) (z : Int32) (q : Int32) (hF : tF < 64) (hZ : tZ ≤ 64) : Met l yTQ_add wsTQ_add ({ frames := 0, cells := 0, slots := 0, locals := 0 }) (va_Pc [.ref (a 12), .int x, .int y, .int z, .int q] (gG D (tyC cI cL) (wC cI cL a) ((dI, dO, dG, dN, dT), (aN, aB), (nS, nP, nR, nG, nO, nU, nT), (tP, tR, tO, tN, tF, tZ), (mP, mN)))) (va_Qv (fun u : CS => u = ((dI, dO, dG, dN, dT), (aN, aB), (nS, nP, nR, nG, nO, nU, nT), ((fTQ_add tP tR tO tN tF tZ x y z q).1, (fTQ_add tP tR tO tN tF tZ x y z q).2.1, (fTQ_add tP tR tO tN tF tZ x y z q).2.2.1, (fTQ_add tP tR tO tN tF tZ x y z q).2.2.2.1, tF, (fTQ_add tP tR tO tN tF tZ x y z q).2.2.2.2), (mP, mN))) (gG D (tyC cI cL) (wC cI cL a)) A) 0 0 A := by
  refine g_enter (by decide) rfl (Nat.le_of_ble_eq_true rfl) ?_
  intro p e s m below meth c ls F hK hP hl
  obtain ⟨hx, hb, hr, hml, hown, hts, hlocks⟩ := id F
  have hS : va_S A s.heap s.heap [] := va_S.rf
  have hl : lv_has ls 6 [(0, .ref (a 12)), (1, .int x), (2, .int y), (3, .int z), (4, .int q)] := hl
  refine lv_aload_n hx hb dTQ_add_0 rfl (lv_at hl 0 rfl) ?_
  refine va_get (D := D) (ci := 3) (v := .int (nI tZ)) (C := RTQ) (T := TTQ) (N := 6) hx hb hts inTQ hown hK hP 12 rfl rfl 5 (by decide) (hts _ k101) (fun _ h9 => h9) rfl dTQ_add_1 ?_
  refine lv_bipush (v := nI 64) hx hb dTQ_add_4 (by decide) ?_
  refine lv_icmp_lt (tgt := 10) hx hb dTQ_add_6 (by decide) (fun c1 => ?_) (fun c1 => ?_)
  · have c1 := (nI_ltI (by omega) (by omega)).mp c1
    refine lv_aload_n hx hb dTQ_add_10 rfl (lv_at hl 0 rfl) ?_
    refine va_get (D := D) (ci := 3) (v := .int (nI tF)) (C := RTQ) (T := TTQ) (N := 6) hx hb hts inTQ hown hK hP 12 rfl rfl 4 (by decide) (hts _ k100) (fun _ h9 => h9) rfl dTQ_add_11 ?_
    refine lv_aload_n hx hb dTQ_add_14 rfl (lv_at hl 0 rfl) ?_
    refine va_get (D := D) (ci := 3) (v := .int (nI tZ)) (C := RTQ) (T := TTQ) (N := 6) hx hb hts inTQ hown hK hP 12 rfl rfl 5 (by decide) (hts _ k101) (fun _ h9 => h9) rfl dTQ_add_15 ?_
    refine lv_iadd hx hb dTQ_add_18 ?_
    refine lv_eqi (y := nI (tF + tZ)) (nI_add tF tZ) ?_
    refine lv_bipush (v := nI 64) hx hb dTQ_add_19 (by decide) ?_
    refine lv_irem hx hb dTQ_add_21 (by decide) ?_
    refine lv_eqi (y := nI ((tF + tZ) % 64)) (pk_rem (by omega) (by decide) (by decide)) ?_
    refine lv_istore (lv' := [(5, .int (nI ((tF + tZ) % 64))), (0, .ref (a 12)), (1, .int x), (2, .int y), (3, .int z), (4, .int q)]) hx hb dTQ_add_22 hl (by decide) rfl (fun ls hl => ?_)
    refine lv_aload_n hx hb dTQ_add_24 rfl (lv_at hl 1 rfl) ?_
    refine va_get (D := D) (ci := 3) (v := .ref (a 13)) (C := RTQ) (T := TTQ) (N := 6) hx hb hts inTQ hown hK hP 12 rfl rfl 0 (by decide) (hts _ k96) (fun _ h9 => h9) rfl dTQ_add_25 ?_
    refine lv_iload hx hb dTQ_add_28 (lv_at hl 0 rfl) ?_
    refine lv_iload_n hx hb dTQ_add_30 rfl (lv_at hl 2 rfl) ?_
    refine ir_iast hx hb hK hP (hA _) hS 13 0 rfl rfl (k := (tF + tZ) % 64) (by omega) (by decide) dTQ_add_31 (fun H locs hP hS => ?_)
    have hP : va_P D vwCl (wC cI cL a ((dI, dO, dG, dN, dT), (aN, aB), (nS, nP, nR, nG, nO, nU, nT), (upd tP ((tF + tZ) % 64) x, tR, tO, tN, tF, tZ), (mP, mN))) H := hP
    refine lv_aload_n hx hb dTQ_add_32 rfl (lv_at hl 1 rfl) ?_
    refine va_get (D := D) (ci := 3) (v := .ref (a 14)) (C := RTQ) (T := TTQ) (N := 6) hx hb hts inTQ hown hK hP 12 rfl rfl 1 (by decide) (hts _ k97) (fun _ h9 => h9) rfl dTQ_add_33 ?_
    refine lv_iload hx hb dTQ_add_36 (lv_at hl 0 rfl) ?_
    refine lv_iload_n hx hb dTQ_add_38 rfl (lv_at hl 3 rfl) ?_
    refine ir_iast hx hb hK hP (hA _) hS 14 0 rfl rfl (k := (tF + tZ) % 64) (by omega) (by decide) dTQ_add_39 (fun H locs hP hS => ?_)
    have hP : va_P D vwCl (wC cI cL a ((dI, dO, dG, dN, dT), (aN, aB), (nS, nP, nR, nG, nO, nU, nT), (upd tP ((tF + tZ) % 64) x, upd tR ((tF + tZ) % 64) y, tO, tN, tF, tZ), (mP, mN))) H := hP
    refine lv_aload_n hx hb dTQ_add_40 rfl (lv_at hl 1 rfl) ?_
    refine va_get (D := D) (ci := 3) (v := .ref (a 15)) (C := RTQ) (T := TTQ) (N := 6) hx hb hts inTQ hown hK hP 12 rfl rfl 2 (by decide) (hts _ k98) (fun _ h9 => h9) rfl dTQ_add_41 ?_
    refine lv_iload hx hb dTQ_add_44 (lv_at hl 0 rfl) ?_
    refine lv_iload_n hx hb dTQ_add_46 rfl (lv_at hl 4 rfl) ?_
    refine ir_iast hx hb hK hP (hA _) hS 15 0 rfl rfl (k := (tF + tZ) % 64) (by omega) (by decide) dTQ_add_47 (fun H locs hP hS => ?_)
    have hP : va_P D vwCl (wC cI cL a ((dI, dO, dG, dN, dT), (aN, aB), (nS, nP, nR, nG, nO, nU, nT), (upd tP ((tF + tZ) % 64) x, upd tR ((tF + tZ) % 64) y, upd tO ((tF + tZ) % 64) z, tN, tF, tZ), (mP, mN))) H := hP
    refine lv_aload_n hx hb dTQ_add_48 rfl (lv_at hl 1 rfl) ?_
    refine va_get (D := D) (ci := 3) (v := .ref (a 16)) (C := RTQ) (T := TTQ) (N := 6) hx hb hts inTQ hown hK hP 12 rfl rfl 3 (by decide) (hts _ k99) (fun _ h9 => h9) rfl dTQ_add_49 ?_
    refine lv_iload hx hb dTQ_add_52 (lv_at hl 0 rfl) ?_
    refine lv_iload hx hb dTQ_add_54 (lv_at hl 5 rfl) ?_
    refine ir_iast hx hb hK hP (hA _) hS 16 0 rfl rfl (k := (tF + tZ) % 64) (by omega) (by decide) dTQ_add_56 (fun H locs hP hS => ?_)
    have hP : va_P D vwCl (wC cI cL a ((dI, dO, dG, dN, dT), (aN, aB), (nS, nP, nR, nG, nO, nU, nT), (upd tP ((tF + tZ) % 64) x, upd tR ((tF + tZ) % 64) y, upd tO ((tF + tZ) % 64) z, upd tN ((tF + tZ) % 64) q, tF, tZ), (mP, mN))) H := hP
    refine lv_aload_n hx hb dTQ_add_57 rfl (lv_at hl 1 rfl) ?_
    refine lv_dup hx hb dTQ_add_58 rfl ?_
    refine va_get (D := D) (ci := 3) (v := .int (nI tZ)) (C := RTQ) (T := TTQ) (N := 6) hx hb hts inTQ hown hK hP 12 rfl rfl 5 (by decide) (hts _ k101) (fun _ h9 => h9) rfl dTQ_add_59 ?_
    refine lv_iconst (v := 1) hx hb dTQ_add_62 (by decide) ?_
    refine lv_iadd hx hb dTQ_add_63 ?_
    refine lv_eqi (y := nI (tZ + 1)) (nI_1 tZ) ?_
    refine va_put (D := D) (ci := 3) (v := .int (nI (tZ + 1))) (ty := .int) (C := RTQ) (T := TTQ) (N := 6) hx hb hts inTQ tyTQ tyTQ_ok nmTQ hown hK hP (hA _) hS 12 rfl rfl 5 (by decide) (hts _ k101) (fun _ h9 => h9) rfl (by decide +kernel) rfl rfl (Nat.le_of_ble_eq_true rfl) dTQ_add_64 (fun H locs hP _ hS => ?_)
    have hP : va_P D vwCl (wC cI cL a ((dI, dO, dG, dN, dT), (aN, aB), (nS, nP, nR, nG, nO, nU, nT), (upd tP ((tF + tZ) % 64) x, upd tR ((tF + tZ) % 64) y, upd tO ((tF + tZ) % 64) z, upd tN ((tF + tZ) % 64) q, tF, tZ + 1), (mP, mN))) H := hP
    have e1 : fTQ_add tP tR tO tN tF tZ x y z q = (upd tP ((tF + tZ) % 64) x, upd tR ((tF + tZ) % 64) y, upd tO ((tF + tZ) % 64) z, upd tN ((tF + tZ) % 64) q, tZ + 1) := by simp only [fTQ_add, if_pos c1]
    exact g_vret (v := ((dI, dO, dG, dN, dT), (aN, aB), (nS, nP, nR, nG, nO, nU, nT), (upd tP ((tF + tZ) % 64) x, upd tR ((tF + tZ) % 64) y, upd tO ((tF + tZ) % 64) z, upd tN ((tF + tZ) % 64) q, tF, tZ + 1), (mP, mN))) hx hb hr hK hP hS (by first | rfl | (rw [e1] <;> rfl)) hlocks dTQ_add_67
  · have c1 : ¬ tZ < 64 := fun q => c1 ((nI_ltI (by omega) (by omega)).mpr q)
    have e1 : fTQ_add tP tR tO tN tF tZ x y z q = (tP, tR, tO, tN, tZ) := by simp only [fTQ_add, if_neg c1]
    exact g_vret (v := ((dI, dO, dG, dN, dT), (aN, aB), (nS, nP, nR, nG, nO, nU, nT), (tP, tR, tO, tN, tF, tZ), (mP, mN))) hx hb hr hK hP hS (by first | rfl | (rw [e1] <;> rfl)) hlocks dTQ_add_9
set_option maxHeartbeats 4000000 in
set_option maxRecDepth 100000 in
theorem c_TQ_moveFirstTo (l : Launch) {D : va_G} {cI cL : ClassId} {a : Nat → Nat} {A : Nat → Prop} (hA : ∀ v : CS, va_D A (wC cI cL a v)) (dI : Nat) (dO dG dN dT : Int32) (aN aB : Nat → Int32) (nS nP nR nG : Nat → Int32) (nO nU : Nat → Int64) (nT : Nat → Int32) (tP tR tO tN : Nat → Int32) (tF tZ : Nat) (mP : Nat → Int32) (mN : Int64)  (hF : tF < 64) (hZ : 0 < tZ ∧ tZ ≤ 64) : Met l yTQ_moveFirstTo wsTQ_moveFirstTo ({ frames := 2, cells := 0, slots := 0, locals := 47 }) (va_Pc [.ref (a 12), .ref (a 17)] (gG D (tyC cI cL) (wC cI cL a) ((dI, dO, dG, dN, dT), (aN, aB), (nS, nP, nR, nG, nO, nU, nT), (tP, tR, tO, tN, tF, tZ), (mP, mN)))) (va_Qv (fun u : CS => u = ((dI, dO, dG, dN, dT), (aN, aB), (nS, nP, nR, nG, nO, nU, nT), (tP, tR, tO, tN, (tF + 1) % 64, tZ - 1), (upd (upd (upd (upd (upd (upd mP 0 2) 1 (tP tF)) 2 (tR tF)) 3 (tO tF)) 4 (tN tF)) 5 0, 0))) (gG D (tyC cI cL) (wC cI cL a)) A) 0 0 A := by
  refine g_enter (by decide) rfl (Nat.le_of_ble_eq_true rfl) ?_
  intro p e s m below meth c ls F hK hP hl
  obtain ⟨hx, hb, hr, hml, hown, hts, hlocks⟩ := id F
  have hS : va_S A s.heap s.heap [] := va_S.rf
  have hl : lv_has ls 2 [(0, .ref (a 12)), (1, .ref (a 17))] := hl
  refine lv_aload_n hx hb dTQ_moveFirstTo_0 rfl (lv_at hl 1 rfl) ?_
  refine lv_aload_n hx hb dTQ_moveFirstTo_1 rfl (lv_at hl 0 rfl) ?_
  refine va_get (D := D) (ci := 3) (v := .ref (a 13)) (C := RTQ) (T := TTQ) (N := 6) hx hb hts inTQ hown hK hP 12 rfl rfl 0 (by decide) (hts _ k96) (fun _ h9 => h9) rfl dTQ_moveFirstTo_2 ?_
  refine lv_aload_n hx hb dTQ_moveFirstTo_5 rfl (lv_at hl 0 rfl) ?_
  refine va_get (D := D) (ci := 3) (v := .int (nI tF)) (C := RTQ) (T := TTQ) (N := 6) hx hb hts inTQ hown hK hP 12 rfl rfl 4 (by decide) (hts _ k100) (fun _ h9 => h9) rfl dTQ_moveFirstTo_6 ?_
  refine ir_iald hx hb hK hP 13 0 rfl rfl (k := tF) (by omega) (by decide) dTQ_moveFirstTo_9 ?_
  refine lv_aload_n hx hb dTQ_moveFirstTo_10 rfl (lv_at hl 0 rfl) ?_
  refine va_get (D := D) (ci := 3) (v := .ref (a 14)) (C := RTQ) (T := TTQ) (N := 6) hx hb hts inTQ hown hK hP 12 rfl rfl 1 (by decide) (hts _ k97) (fun _ h9 => h9) rfl dTQ_moveFirstTo_11 ?_
  refine lv_aload_n hx hb dTQ_moveFirstTo_14 rfl (lv_at hl 0 rfl) ?_
  refine va_get (D := D) (ci := 3) (v := .int (nI tF)) (C := RTQ) (T := TTQ) (N := 6) hx hb hts inTQ hown hK hP 12 rfl rfl 4 (by decide) (hts _ k100) (fun _ h9 => h9) rfl dTQ_moveFirstTo_15 ?_
  refine ir_iald hx hb hK hP 14 0 rfl rfl (k := tF) (by omega) (by decide) dTQ_moveFirstTo_18 ?_
  refine lv_aload_n hx hb dTQ_moveFirstTo_19 rfl (lv_at hl 0 rfl) ?_
  refine va_get (D := D) (ci := 3) (v := .ref (a 15)) (C := RTQ) (T := TTQ) (N := 6) hx hb hts inTQ hown hK hP 12 rfl rfl 2 (by decide) (hts _ k98) (fun _ h9 => h9) rfl dTQ_moveFirstTo_20 ?_
  refine lv_aload_n hx hb dTQ_moveFirstTo_23 rfl (lv_at hl 0 rfl) ?_
  refine va_get (D := D) (ci := 3) (v := .int (nI tF)) (C := RTQ) (T := TTQ) (N := 6) hx hb hts inTQ hown hK hP 12 rfl rfl 4 (by decide) (hts _ k100) (fun _ h9 => h9) rfl dTQ_moveFirstTo_24 ?_
  refine ir_iald hx hb hK hP 15 0 rfl rfl (k := tF) (by omega) (by decide) dTQ_moveFirstTo_27 ?_
  refine lv_aload_n hx hb dTQ_moveFirstTo_28 rfl (lv_at hl 0 rfl) ?_
  refine va_get (D := D) (ci := 3) (v := .ref (a 16)) (C := RTQ) (T := TTQ) (N := 6) hx hb hts inTQ hown hK hP 12 rfl rfl 3 (by decide) (hts _ k99) (fun _ h9 => h9) rfl dTQ_moveFirstTo_29 ?_
  refine lv_aload_n hx hb dTQ_moveFirstTo_32 rfl (lv_at hl 0 rfl) ?_
  refine va_get (D := D) (ci := 3) (v := .int (nI tF)) (C := RTQ) (T := TTQ) (N := 6) hx hb hts inTQ hown hK hP 12 rfl rfl 4 (by decide) (hts _ k100) (fun _ h9 => h9) rfl dTQ_moveFirstTo_33 ?_
  refine ir_iald hx hb hK hP 16 0 rfl rfl (k := tF) (by omega) (by decide) dTQ_moveFirstTo_36 ?_
  refine g_callVv (As := [.int (tP tF), .int (tR tF), .int (tO tF), .int (tN tF)]) (rest := []) ⟨hx, hb, hml, hown, hts⟩ (c_MS_makeThanks l hA dI dO dG dN dT aN aB nS nP nR nG nO nU nT tP tR tO tN tF tZ mP mN (tP tF) (tR tF) (tO tF) (tN tF)) (cwV 4 hts (gw_V k208 k209 k210 k31 k211) rfl rfl rfl (by decide +kernel) ⟨Nat.le_of_ble_eq_true rfl, Nat.le_of_ble_eq_true rfl⟩) hK hP (va_recv hK hP (ci := 1) (q0 := 17) rfl rfl) rfl hl.1 rfl (Nat.le_of_ble_eq_true rfl) dTQ_moveFirstTo_37 ⟨Nat.zero_le _, Nat.zero_le _⟩ (fun q h => h) hS (fun H locs hP hS => ?_)
  have hP : va_P D vwCl (wC cI cL a ((dI, dO, dG, dN, dT), (aN, aB), (nS, nP, nR, nG, nO, nU, nT), (tP, tR, tO, tN, tF, tZ), (upd (upd (upd (upd (upd (upd mP 0 2) 1 (tP tF)) 2 (tR tF)) 3 (tO tF)) 4 (tN tF)) 5 0, 0))) H := hP
  refine lv_aload_n hx hb dTQ_moveFirstTo_40 rfl (lv_at hl 0 rfl) ?_
  refine lv_aload_n hx hb dTQ_moveFirstTo_41 rfl (lv_at hl 0 rfl) ?_
  refine va_get (D := D) (ci := 3) (v := .int (nI tF)) (C := RTQ) (T := TTQ) (N := 6) hx hb hts inTQ hown hK hP 12 rfl rfl 4 (by decide) (hts _ k100) (fun _ h9 => h9) rfl dTQ_moveFirstTo_42 ?_
  refine lv_iconst (v := 1) hx hb dTQ_moveFirstTo_45 (by decide) ?_
  refine lv_iadd hx hb dTQ_moveFirstTo_46 ?_
  refine lv_eqi (y := nI (tF + 1)) (nI_1 tF) ?_
  refine lv_bipush (v := nI 64) hx hb dTQ_moveFirstTo_47 (by decide) ?_
  refine lv_irem hx hb dTQ_moveFirstTo_49 (by decide) ?_
  refine lv_eqi (y := nI ((tF + 1) % 64)) (pk_rem (by omega) (by decide) (by decide)) ?_
  refine va_put (D := D) (ci := 3) (v := .int (nI ((tF + 1) % 64))) (ty := .int) (C := RTQ) (T := TTQ) (N := 6) hx hb hts inTQ tyTQ tyTQ_ok nmTQ hown hK hP (hA _) hS 12 rfl rfl 4 (by decide) (hts _ k100) (fun _ h9 => h9) rfl (by decide +kernel) rfl rfl (Nat.le_of_ble_eq_true rfl) dTQ_moveFirstTo_50 (fun H locs hP _ hS => ?_)
  have hP : va_P D vwCl (wC cI cL a ((dI, dO, dG, dN, dT), (aN, aB), (nS, nP, nR, nG, nO, nU, nT), (tP, tR, tO, tN, (tF + 1) % 64, tZ), (upd (upd (upd (upd (upd (upd mP 0 2) 1 (tP tF)) 2 (tR tF)) 3 (tO tF)) 4 (tN tF)) 5 0, 0))) H := hP
  refine lv_aload_n hx hb dTQ_moveFirstTo_53 rfl (lv_at hl 0 rfl) ?_
  refine lv_dup hx hb dTQ_moveFirstTo_54 rfl ?_
  refine va_get (D := D) (ci := 3) (v := .int (nI tZ)) (C := RTQ) (T := TTQ) (N := 6) hx hb hts inTQ hown hK hP 12 rfl rfl 5 (by decide) (hts _ k101) (fun _ h9 => h9) rfl dTQ_moveFirstTo_55 ?_
  refine lv_iconst (v := 1) hx hb dTQ_moveFirstTo_58 (by decide) ?_
  refine lv_isub hx hb dTQ_moveFirstTo_59 ?_
  refine lv_eqi (y := nI (tZ - 1)) (nI_sub1 (by omega)) ?_
  refine va_put (D := D) (ci := 3) (v := .int (nI (tZ - 1))) (ty := .int) (C := RTQ) (T := TTQ) (N := 6) hx hb hts inTQ tyTQ tyTQ_ok nmTQ hown hK hP (hA _) hS 12 rfl rfl 5 (by decide) (hts _ k101) (fun _ h9 => h9) rfl (by decide +kernel) rfl rfl (Nat.le_of_ble_eq_true rfl) dTQ_moveFirstTo_60 (fun H locs hP _ hS => ?_)
  have hP : va_P D vwCl (wC cI cL a ((dI, dO, dG, dN, dT), (aN, aB), (nS, nP, nR, nG, nO, nU, nT), (tP, tR, tO, tN, (tF + 1) % 64, tZ - 1), (upd (upd (upd (upd (upd (upd mP 0 2) 1 (tP tF)) 2 (tR tF)) 3 (tO tF)) 4 (tN tF)) 5 0, 0))) H := hP
  exact g_vret (v := ((dI, dO, dG, dN, dT), (aN, aB), (nS, nP, nR, nG, nO, nU, nT), (tP, tR, tO, tN, (tF + 1) % 64, tZ - 1), (upd (upd (upd (upd (upd (upd mP 0 2) 1 (tP tF)) 2 (tR tF)) 3 (tO tF)) 4 (tN tF)) 5 0, 0))) hx hb hr hK hP hS (rfl) hlocks dTQ_moveFirstTo_63
end
section
def LNB_heardPlace (nS : Nat → Int32) (nP : Nat → Int32) (nR : Nat → Int32) (x : Int32) (y : Int32) : Nat → Nat → Option Nat
  | 0, k => none
  | n + 1, k => (if (nS k) = 0 then LNB_heardPlace nS nP nR x y n (k + 1)  else (if (nP k) = x then (if (nR k) = y then some k else LNB_heardPlace nS nP nR x y n (k + 1) ) else LNB_heardPlace nS nP nR x y n (k + 1) ))
set_option maxHeartbeats 4000000 in
set_option maxRecDepth 100000 in
theorem lpNB_heardPlace {p : Program} {l : Launch} {e : Env} {s : State} {m : MethodId} {args : Array Value} {below : List Frame} {meth : Method} {c : Code} {D : va_G} {cI cL : ClassId} {a : Nat → Nat}  (F : gFix p c cNB_heardPlace meth (some .int) m s args bigW RNB 4) (hK : va_K D vwCl (tyC cI cL) s) {dI : Nat} {dO : Int32} {dG : Int32} {dN : Int32} {dT : Int32} {aN : Nat → Int32} {aB : Nat → Int32} {nS : Nat → Int32} {nP : Nat → Int32} {nR : Nat → Int32} {nG : Nat → Int32} {nO : Nat → Int64} {nU : Nat → Int64} {nT : Nat → Int32} {tP : Nat → Int32} {tR : Nat → Int32} {tO : Nat → Int32} {tN : Nat → Int32} {tF : Nat} {tZ : Nat} {mP : Nat → Int32} {mN : Int64} {x : Int32} {y : Int32}  (post : Int32 → Prop) : ∀ (n k : Nat)   (ls : Array Slot), k + n = 16 → va_P D vwCl (wC cI cL a ((dI, dO, dG, dN, dT), (aN, aB), (nS, nP, nR, nG, nO, nU, nT), (tP, tR, tO, tN, tF, tZ), (mP, mN))) s.heap → lv_has ls 4 [(3, .int (nI k)), (0, .ref (a 4)), (1, .int x), (2, .int y)] → post (oi (LNB_heardPlace nS nP nR x y n k )) → W p l e ({ frames := 0, cells := 0, slots := 0, locals := 0 }) s m args below meth c s.heap [] 0 0 (MQ below (vp_Si post) args s 0 0 (fun _ => False)) (F0 m 2 ls []) := by
  obtain ⟨hx, hb, hr, hml, hown, hts, hlocks⟩ := F
  intro n
  induction n with
  | zero =>
    intro k  ls hkn  hP hl hq
    refine lv_iload_n hx hb dNB_heardPlace_2 rfl (lv_at hl 0 rfl) ?_
    refine lv_bipush (v := nI 16) hx hb dNB_heardPlace_3 (by decide) ?_
    refine lv_icmp_ge (tgt := 45) hx hb dNB_heardPlace_5 (by decide) (fun _ => ?_) (fun c0 => absurd (nI_le (by omega) (by omega)) c0)
    refine lv_iconst (v := oi none) hx hb dNB_heardPlace_45 (by decide) ?_
    have e1 : LNB_heardPlace nS nP nR x y 0 k  = none := by simp only [LNB_heardPlace]
    rw [e1] at hq
    exact r_iret hx hb hr hq hlocks dNB_heardPlace_46
  | succ n ih =>
    intro k  ls hkn  hP hl hq
    refine lv_iload_n hx hb dNB_heardPlace_2 rfl (lv_at hl 0 rfl) ?_
    refine lv_bipush (v := nI 16) hx hb dNB_heardPlace_3 (by decide) ?_
    refine lv_icmp_ge (tgt := 45) hx hb dNB_heardPlace_5 (by decide) (fun c0 => absurd c0 (nI_ge (by omega) (by decide))) (fun _ => ?_)
    refine lv_aload_n hx hb dNB_heardPlace_8 rfl (lv_at hl 1 rfl) ?_
    refine va_get (D := D) (ci := 2) (v := .ref (a 5)) (C := RNB) (T := TNB) (N := 7) hx hb hts inNB hown hK hP 4 rfl rfl 0 (by decide) (hts _ k67) (fun _ h9 => h9) rfl dNB_heardPlace_9 ?_
    refine lv_iload_n hx hb dNB_heardPlace_12 rfl (lv_at hl 0 rfl) ?_
    refine ir_iald hx hb hK hP 5 0 rfl rfl (k := k) (by omega) (by decide) dNB_heardPlace_13 ?_
    refine lv_if_eq (tgt := 39) hx hb dNB_heardPlace_14 (by decide) (fun c3 => ?_) (fun c3 => ?_)
    · refine lv_iinc (v := nI (k + 1)) (lv' := [(3, .int (nI (k + 1))), (0, .ref (a 4)), (1, .int x), (2, .int y)]) hx hb dNB_heardPlace_39 hl (k := 0) rfl (nI_1 k) (by decide) rfl (fun ls hl => ?_)
      refine lv_goto (tgt := 2) hx hb dNB_heardPlace_42 (by decide) ?_
      have e1 : LNB_heardPlace nS nP nR x y (n + 1) k  = LNB_heardPlace nS nP nR x y n (k + 1)  := by simp only [LNB_heardPlace, if_pos c3]
      rw [e1] at hq
      exact ih (k + 1)  ls (by omega)  hP (lv_sub hl [0, 1, 2, 3] rfl) hq
    · refine lv_aload_n hx hb dNB_heardPlace_17 rfl (lv_at hl 1 rfl) ?_
      refine va_get (D := D) (ci := 2) (v := .ref (a 6)) (C := RNB) (T := TNB) (N := 7) hx hb hts inNB hown hK hP 4 rfl rfl 1 (by decide) (hts _ k68) (fun _ h9 => h9) rfl dNB_heardPlace_18 ?_
      refine lv_iload_n hx hb dNB_heardPlace_21 rfl (lv_at hl 0 rfl) ?_
      refine ir_iald hx hb hK hP 6 0 rfl rfl (k := k) (by omega) (by decide) dNB_heardPlace_22 ?_
      refine lv_iload_n hx hb dNB_heardPlace_23 rfl (lv_at hl 2 rfl) ?_
      refine lv_icmp_ne (tgt := 39) hx hb dNB_heardPlace_24 (by decide) (fun c4 => ?_) (fun c4 => ?_)
      · refine lv_iinc (v := nI (k + 1)) (lv' := [(3, .int (nI (k + 1))), (0, .ref (a 4)), (1, .int x), (2, .int y)]) hx hb dNB_heardPlace_39 hl (k := 0) rfl (nI_1 k) (by decide) rfl (fun ls hl => ?_)
        refine lv_goto (tgt := 2) hx hb dNB_heardPlace_42 (by decide) ?_
        have e1 : LNB_heardPlace nS nP nR x y (n + 1) k  = LNB_heardPlace nS nP nR x y n (k + 1)  := by simp only [LNB_heardPlace, if_neg c3, if_neg c4]
        rw [e1] at hq
        exact ih (k + 1)  ls (by omega)  hP (lv_sub hl [0, 1, 2, 3] rfl) hq
      · refine lv_aload_n hx hb dNB_heardPlace_27 rfl (lv_at hl 1 rfl) ?_
        refine va_get (D := D) (ci := 2) (v := .ref (a 7)) (C := RNB) (T := TNB) (N := 7) hx hb hts inNB hown hK hP 4 rfl rfl 2 (by decide) (hts _ k69) (fun _ h9 => h9) rfl dNB_heardPlace_28 ?_
        refine lv_iload_n hx hb dNB_heardPlace_31 rfl (lv_at hl 0 rfl) ?_
        refine ir_iald hx hb hK hP 7 0 rfl rfl (k := k) (by omega) (by decide) dNB_heardPlace_32 ?_
        refine lv_iload_n hx hb dNB_heardPlace_33 rfl (lv_at hl 3 rfl) ?_
        refine lv_icmp_ne (tgt := 39) hx hb dNB_heardPlace_34 (by decide) (fun c5 => ?_) (fun c5 => ?_)
        · refine lv_iinc (v := nI (k + 1)) (lv' := [(3, .int (nI (k + 1))), (0, .ref (a 4)), (1, .int x), (2, .int y)]) hx hb dNB_heardPlace_39 hl (k := 0) rfl (nI_1 k) (by decide) rfl (fun ls hl => ?_)
          refine lv_goto (tgt := 2) hx hb dNB_heardPlace_42 (by decide) ?_
          have e1 : LNB_heardPlace nS nP nR x y (n + 1) k  = LNB_heardPlace nS nP nR x y n (k + 1)  := by simp only [LNB_heardPlace, if_neg c3, if_pos c4, if_neg c5]
          rw [e1] at hq
          exact ih (k + 1)  ls (by omega)  hP (lv_sub hl [0, 1, 2, 3] rfl) hq
        · refine lv_iload_n hx hb dNB_heardPlace_37 rfl (lv_at hl 0 rfl) ?_
          have e1 : LNB_heardPlace nS nP nR x y (n + 1) k  = some k := by simp only [LNB_heardPlace, if_neg c3, if_pos c4, if_pos c5]
          rw [e1] at hq
          exact r_iret hx hb hr hq hlocks dNB_heardPlace_38
set_option maxHeartbeats 4000000 in
set_option maxRecDepth 100000 in
theorem c_NB_heardPlace (l : Launch) {D : va_G} {cI cL : ClassId} {a : Nat → Nat}  (dI : Nat) (dO dG dN dT : Int32) (aN aB : Nat → Int32) (nS nP nR nG : Nat → Int32) (nO nU : Nat → Int64) (nT : Nat → Int32) (tP tR tO tN : Nat → Int32) (tF tZ : Nat) (mP : Nat → Int32) (mN : Int64) (x : Int32) (y : Int32)  : Met l yNB_heardPlace wsNB_heardPlace ({ frames := 0, cells := 0, slots := 0, locals := 0 }) (va_Pc [.ref (a 4), .int x, .int y] (gG D (tyC cI cL) (wC cI cL a) ((dI, dO, dG, dN, dT), (aN, aB), (nS, nP, nR, nG, nO, nU, nT), (tP, tR, tO, tN, tF, tZ), (mP, mN)))) (vp_Si (fun r : Int32 => r = oi (LNB_heardPlace nS nP nR x y 16 0 ))) 0 0 (fun _ => False) := by
  refine g_enter (by decide) rfl (Nat.le_of_ble_eq_true rfl) ?_
  intro p e s m below meth c ls F hK hP hl
  obtain ⟨hx, hb, hr, hml, hown, hts, hlocks⟩ := id F
  have hl : lv_has ls 4 [(0, .ref (a 4)), (1, .int x), (2, .int y)] := hl
  refine lv_iconst (v := nI 0) hx hb dNB_heardPlace_0 (by decide) ?_
  refine lv_istore_n (lv' := [(3, .int (nI 0)), (0, .ref (a 4)), (1, .int x), (2, .int y)]) hx hb dNB_heardPlace_1 rfl hl (by decide) rfl (fun ls hl => ?_)
  exact lpNB_heardPlace F hK  _ 16 0  ls rfl  hP (lv_sub hl [0, 1, 2, 3] rfl) rfl
theorem LNB_heardPlace_lt {nS nP nR : Nat → Int32} {x y : Int32} : ∀ (n k j : Nat), LNB_heardPlace nS nP nR x y n k = some j → j < k + n := by
  intro n
  induction n with
  | zero => intro k j h; simp only [LNB_heardPlace] at h; cases h
  | succ n ih =>
    intro k j h
    simp only [LNB_heardPlace] at h
    repeat' split at h
    all_goals first | (have := ih _ _ h; omega) | (cases h; omega)
theorem c_NB_heardPlace_lt {nS nP nR : Nat → Int32} {x y : Int32} {k : Nat} (h : LNB_heardPlace nS nP nR x y 16 0 = some k) : k < 16 := by
  have := LNB_heardPlace_lt _ _ _ h; omega
def fNB_friendPlace (nS : Nat → Int32) (nP : Nat → Int32) (nR : Nat → Int32) (x : Int32) (y : Int32) : Option Nat := (match LNB_heardPlace nS nP nR x y 16 0  with | none => none | some k1 => (if (nS k1) = 2 then some k1 else none))
set_option maxHeartbeats 4000000 in
set_option maxRecDepth 100000 in
theorem c_NB_friendPlace (l : Launch) {D : va_G} {cI cL : ClassId} {a : Nat → Nat}  (dI : Nat) (dO dG dN dT : Int32) (aN aB : Nat → Int32) (nS nP nR nG : Nat → Int32) (nO nU : Nat → Int64) (nT : Nat → Int32) (tP tR tO tN : Nat → Int32) (tF tZ : Nat) (mP : Nat → Int32) (mN : Int64) (x : Int32) (y : Int32)  : Met l yNB_friendPlace wsNB_friendPlace ({ frames := 1, cells := 0, slots := 0, locals := 23 }) (va_Pc [.ref (a 4), .int x, .int y] (gG D (tyC cI cL) (wC cI cL a) ((dI, dO, dG, dN, dT), (aN, aB), (nS, nP, nR, nG, nO, nU, nT), (tP, tR, tO, tN, tF, tZ), (mP, mN)))) (vp_Si (fun r : Int32 => r = oi (fNB_friendPlace nS nP nR x y))) 0 0 (fun _ => False) := by
  refine g_enter (by decide) rfl (Nat.le_of_ble_eq_true rfl) ?_
  intro p e s m below meth c ls F hK hP hl
  obtain ⟨hx, hb, hr, hml, hown, hts, hlocks⟩ := id F
  have hl : lv_has ls 4 [(0, .ref (a 4)), (1, .int x), (2, .int y)] := hl
  refine lv_aload_n hx hb dNB_friendPlace_0 rfl (lv_at hl 0 rfl) ?_
  refine lv_iload_n hx hb dNB_friendPlace_1 rfl (lv_at hl 1 rfl) ?_
  refine lv_iload_n hx hb dNB_friendPlace_2 rfl (lv_at hl 2 rfl) ?_
  refine g_roVi (As := [.int x, .int y]) (rest := []) ⟨hx, hb, hml, hown, hts⟩ (c_NB_heardPlace l dI dO dG dN dT aN aB nS nP nR nG nO nU nT tP tR tO tN tF tZ mP mN x y) (cwV 2 hts (gw_V k411 k413 k12 k29 k414) rfl rfl rfl (by decide +kernel) ⟨Nat.le_of_ble_eq_true rfl, Nat.le_of_ble_eq_true rfl⟩) hK hP (va_recv hK hP (ci := 2) (q0 := 4) rfl rfl) rfl hl.1 rfl (Nat.le_of_ble_eq_true rfl) dNB_friendPlace_3 ⟨Nat.zero_le _, Nat.zero_le _⟩ ?_
  rcases ho2 : LNB_heardPlace nS nP nR x y 16 0  with _ | k1
  · refine lv_istore_n (lv' := [(3, .int (oi none)), (0, .ref (a 4)), (1, .int x), (2, .int y)]) hx hb dNB_friendPlace_6 rfl hl (by decide) rfl (fun ls hl => ?_)
    refine lv_iload_n hx hb dNB_friendPlace_7 rfl (lv_at hl 0 rfl) ?_
    refine lv_iconst (v := (-1)) hx hb dNB_friendPlace_8 (by decide) ?_
    refine lv_icmp_eq (tgt := 26) hx hb dNB_friendPlace_9 (by decide) (fun _ => ?_) (fun c0 => absurd rfl c0)
    refine lv_iconst (v := oi none) hx hb dNB_friendPlace_26 (by decide) ?_
    have e1 : fNB_friendPlace nS nP nR x y = none := by simp only [fNB_friendPlace, ho2, cond_true, cond_false]
    exact r_iret hx hb hr (by first | rfl | (rw [e1] <;> rfl)) hlocks dNB_friendPlace_27
  · have hk1 := c_NB_heardPlace_lt ho2
    refine lv_istore_n (lv' := [(3, .int (nI k1)), (0, .ref (a 4)), (1, .int x), (2, .int y)]) hx hb dNB_friendPlace_6 rfl hl (by decide) rfl (fun ls hl => ?_)
    refine lv_iload_n hx hb dNB_friendPlace_7 rfl (lv_at hl 0 rfl) ?_
    refine lv_iconst (v := (-1)) hx hb dNB_friendPlace_8 (by decide) ?_
    refine lv_icmp_eq (tgt := 26) hx hb dNB_friendPlace_9 (by decide) (fun c0 => absurd c0 (nI_m1 (by omega))) (fun _ => ?_)
    refine lv_aload_n hx hb dNB_friendPlace_12 rfl (lv_at hl 1 rfl) ?_
    refine va_get (D := D) (ci := 2) (v := .ref (a 5)) (C := RNB) (T := TNB) (N := 7) hx hb hts inNB hown hK hP 4 rfl rfl 0 (by decide) (hts _ k67) (fun _ h9 => h9) rfl dNB_friendPlace_13 ?_
    refine lv_iload_n hx hb dNB_friendPlace_16 rfl (lv_at hl 0 rfl) ?_
    refine ir_iald hx hb hK hP 5 0 rfl rfl (k := k1) (by omega) (by decide) dNB_friendPlace_17 ?_
    refine lv_iconst (v := 2) hx hb dNB_friendPlace_18 (by decide) ?_
    refine lv_icmp_ne (tgt := 26) hx hb dNB_friendPlace_19 (by decide) (fun c5 => ?_) (fun c5 => ?_)
    · refine lv_iconst (v := oi none) hx hb dNB_friendPlace_26 (by decide) ?_
      have e1 : fNB_friendPlace nS nP nR x y = none := by first | (simp only [fNB_friendPlace, ho2, if_neg c5, cond_true, cond_false]; done) | (simp only [fNB_friendPlace, ho2, cond_true, cond_false]; simp only [if_neg c5])
      exact r_iret hx hb hr (by first | rfl | (rw [e1] <;> rfl)) hlocks dNB_friendPlace_27
    · refine lv_iload_n hx hb dNB_friendPlace_22 rfl (lv_at hl 0 rfl) ?_
      refine lv_goto (tgt := 27) hx hb dNB_friendPlace_23 (by decide) ?_
      have e1 : fNB_friendPlace nS nP nR x y = some k1 := by first | (simp only [fNB_friendPlace, ho2, if_pos c5, cond_true, cond_false]; done) | (simp only [fNB_friendPlace, ho2, cond_true, cond_false]; simp only [if_pos c5])
      exact r_iret hx hb hr (by first | rfl | (rw [e1] <;> rfl)) hlocks dNB_friendPlace_27
theorem c_NB_friendPlace_lt {nS nP nR : Nat → Int32} {x y : Int32} {k : Nat} (h : fNB_friendPlace nS nP nR x y = some k) : k < 16 := by
  unfold fNB_friendPlace at h
  split at h
  · cases h
  · rename_i j hj
    split at h
    · cases h; exact c_NB_heardPlace_lt hj
    · cases h
def LNB_takeFreePlace (nS : Nat → Int32) (nP : Nat → Int32) (nR : Nat → Int32) (x : Int32) (y : Int32) : Nat → Nat → Option Nat × (Nat → Int32) × (Nat → Int32) × (Nat → Int32)
  | 0, k => (none, nS, nP, nR)
  | n + 1, k => (if (nS k) = 0 then (some k, upd nS k 1, upd nP k x, upd nR k y) else LNB_takeFreePlace nS nP nR x y n (k + 1) )
set_option maxHeartbeats 4000000 in
set_option maxRecDepth 100000 in
theorem lpNB_takeFreePlace {p : Program} {l : Launch} {e : Env} {s : State} {m : MethodId} {args : Array Value} {below : List Frame} {meth : Method} {c : Code} {D : va_G} {cI cL : ClassId} {a : Nat → Nat} {A : Nat → Prop} (hA : ∀ v : CS, va_D A (wC cI cL a v)) (F : gFix p c cNB_takeFreePlace meth (some .int) m s args bigW RNB 4) (hK : va_K D vwCl (tyC cI cL) s) {dI : Nat} {dO : Int32} {dG : Int32} {dN : Int32} {dT : Int32} {aN : Nat → Int32} {aB : Nat → Int32} {nS : Nat → Int32} {nP : Nat → Int32} {nR : Nat → Int32} {nG : Nat → Int32} {nO : Nat → Int64} {nU : Nat → Int64} {nT : Nat → Int32} {tP : Nat → Int32} {tR : Nat → Int32} {tO : Nat → Int32} {tN : Nat → Int32} {tF : Nat} {tZ : Nat} {mP : Nat → Int32} {mN : Int64} {x : Int32} {y : Int32}  (post : Int32 → CS → Prop) : ∀ (n k : Nat)   (ls : Array Slot) (H : Heap) (locs : List Loc), k + n = 16 → va_P D vwCl (wC cI cL a ((dI, dO, dG, dN, dT), (aN, aB), (nS, nP, nR, nG, nO, nU, nT), (tP, tR, tO, tN, tF, tZ), (mP, mN))) H → va_S A s.heap H locs → lv_has ls 4 [(3, .int (nI k)), (0, .ref (a 4)), (1, .int x), (2, .int y)] → post (oi ((LNB_takeFreePlace nS nP nR x y n k ).1)) ((dI, dO, dG, dN, dT), (aN, aB), ((LNB_takeFreePlace nS nP nR x y n k ).2.1, (LNB_takeFreePlace nS nP nR x y n k ).2.2.1, (LNB_takeFreePlace nS nP nR x y n k ).2.2.2, nG, nO, nU, nT), (tP, tR, tO, tN, tF, tZ), (mP, mN)) → W p l e ({ frames := 0, cells := 0, slots := 0, locals := 0 }) s m args below meth c H locs 0 0 (MQ below (va_Qi post (gG D (tyC cI cL) (wC cI cL a)) A) args s 0 0 A) (F0 m 2 ls []) := by
  obtain ⟨hx, hb, hr, hml, hown, hts, hlocks⟩ := F
  intro n
  induction n with
  | zero =>
    intro k  ls H locs hkn  hP hS hl hq
    refine lv_iload_n hx hb dNB_takeFreePlace_2 rfl (lv_at hl 0 rfl) ?_
    refine lv_bipush (v := nI 16) hx hb dNB_takeFreePlace_3 (by decide) ?_
    refine lv_icmp_ge (tgt := 46) hx hb dNB_takeFreePlace_5 (by decide) (fun _ => ?_) (fun c0 => absurd (nI_le (by omega) (by omega)) c0)
    refine lv_iconst (v := oi none) hx hb dNB_takeFreePlace_46 (by decide) ?_
    have e1 : LNB_takeFreePlace nS nP nR x y 0 k  = (none, nS, nP, nR) := by simp only [LNB_takeFreePlace]
    rw [e1] at hq
    exact g_iret hx hb hr hK hP hS hq hlocks dNB_takeFreePlace_47
  | succ n ih =>
    intro k  ls H locs hkn  hP hS hl hq
    refine lv_iload_n hx hb dNB_takeFreePlace_2 rfl (lv_at hl 0 rfl) ?_
    refine lv_bipush (v := nI 16) hx hb dNB_takeFreePlace_3 (by decide) ?_
    refine lv_icmp_ge (tgt := 46) hx hb dNB_takeFreePlace_5 (by decide) (fun c0 => absurd c0 (nI_ge (by omega) (by decide))) (fun _ => ?_)
    refine lv_aload_n hx hb dNB_takeFreePlace_8 rfl (lv_at hl 1 rfl) ?_
    refine va_get (D := D) (ci := 2) (v := .ref (a 5)) (C := RNB) (T := TNB) (N := 7) hx hb hts inNB hown hK hP 4 rfl rfl 0 (by decide) (hts _ k67) (fun _ h9 => h9) rfl dNB_takeFreePlace_9 ?_
    refine lv_iload_n hx hb dNB_takeFreePlace_12 rfl (lv_at hl 0 rfl) ?_
    refine ir_iald hx hb hK hP 5 0 rfl rfl (k := k) (by omega) (by decide) dNB_takeFreePlace_13 ?_
    refine lv_if_ne (tgt := 40) hx hb dNB_takeFreePlace_14 (by decide) (fun c3 => ?_) (fun c3 => ?_)
    · refine lv_iinc (v := nI (k + 1)) (lv' := [(3, .int (nI (k + 1))), (0, .ref (a 4)), (1, .int x), (2, .int y)]) hx hb dNB_takeFreePlace_40 hl (k := 0) rfl (nI_1 k) (by decide) rfl (fun ls hl => ?_)
      refine lv_goto (tgt := 2) hx hb dNB_takeFreePlace_43 (by decide) ?_
      have e1 : LNB_takeFreePlace nS nP nR x y (n + 1) k  = LNB_takeFreePlace nS nP nR x y n (k + 1)  := by simp only [LNB_takeFreePlace, if_neg c3]
      rw [e1] at hq
      exact ih (k + 1)  ls H locs (by omega)  hP hS (lv_sub hl [0, 1, 2, 3] rfl) hq
    · refine lv_aload_n hx hb dNB_takeFreePlace_17 rfl (lv_at hl 1 rfl) ?_
      refine va_get (D := D) (ci := 2) (v := .ref (a 5)) (C := RNB) (T := TNB) (N := 7) hx hb hts inNB hown hK hP 4 rfl rfl 0 (by decide) (hts _ k67) (fun _ h9 => h9) rfl dNB_takeFreePlace_18 ?_
      refine lv_iload_n hx hb dNB_takeFreePlace_21 rfl (lv_at hl 0 rfl) ?_
      refine lv_iconst (v := 1) hx hb dNB_takeFreePlace_22 (by decide) ?_
      refine ir_iast hx hb hK hP (hA _) hS 5 0 rfl rfl (k := k) (by omega) (by decide) dNB_takeFreePlace_23 (fun H locs hP hS => ?_)
      have hP : va_P D vwCl (wC cI cL a ((dI, dO, dG, dN, dT), (aN, aB), (upd nS k 1, nP, nR, nG, nO, nU, nT), (tP, tR, tO, tN, tF, tZ), (mP, mN))) H := hP
      refine lv_aload_n hx hb dNB_takeFreePlace_24 rfl (lv_at hl 1 rfl) ?_
      refine va_get (D := D) (ci := 2) (v := .ref (a 6)) (C := RNB) (T := TNB) (N := 7) hx hb hts inNB hown hK hP 4 rfl rfl 1 (by decide) (hts _ k68) (fun _ h9 => h9) rfl dNB_takeFreePlace_25 ?_
      refine lv_iload_n hx hb dNB_takeFreePlace_28 rfl (lv_at hl 0 rfl) ?_
      refine lv_iload_n hx hb dNB_takeFreePlace_29 rfl (lv_at hl 2 rfl) ?_
      refine ir_iast hx hb hK hP (hA _) hS 6 0 rfl rfl (k := k) (by omega) (by decide) dNB_takeFreePlace_30 (fun H locs hP hS => ?_)
      have hP : va_P D vwCl (wC cI cL a ((dI, dO, dG, dN, dT), (aN, aB), (upd nS k 1, upd nP k x, nR, nG, nO, nU, nT), (tP, tR, tO, tN, tF, tZ), (mP, mN))) H := hP
      refine lv_aload_n hx hb dNB_takeFreePlace_31 rfl (lv_at hl 1 rfl) ?_
      refine va_get (D := D) (ci := 2) (v := .ref (a 7)) (C := RNB) (T := TNB) (N := 7) hx hb hts inNB hown hK hP 4 rfl rfl 2 (by decide) (hts _ k69) (fun _ h9 => h9) rfl dNB_takeFreePlace_32 ?_
      refine lv_iload_n hx hb dNB_takeFreePlace_35 rfl (lv_at hl 0 rfl) ?_
      refine lv_iload_n hx hb dNB_takeFreePlace_36 rfl (lv_at hl 3 rfl) ?_
      refine ir_iast hx hb hK hP (hA _) hS 7 0 rfl rfl (k := k) (by omega) (by decide) dNB_takeFreePlace_37 (fun H locs hP hS => ?_)
      have hP : va_P D vwCl (wC cI cL a ((dI, dO, dG, dN, dT), (aN, aB), (upd nS k 1, upd nP k x, upd nR k y, nG, nO, nU, nT), (tP, tR, tO, tN, tF, tZ), (mP, mN))) H := hP
      refine lv_iload_n hx hb dNB_takeFreePlace_38 rfl (lv_at hl 0 rfl) ?_
      have e1 : LNB_takeFreePlace nS nP nR x y (n + 1) k  = (some k, upd nS k 1, upd nP k x, upd nR k y) := by simp only [LNB_takeFreePlace, if_pos c3]
      rw [e1] at hq
      exact g_iret hx hb hr hK hP hS hq hlocks dNB_takeFreePlace_39
set_option maxHeartbeats 4000000 in
set_option maxRecDepth 100000 in
theorem c_NB_takeFreePlace (l : Launch) {D : va_G} {cI cL : ClassId} {a : Nat → Nat} {A : Nat → Prop} (hA : ∀ v : CS, va_D A (wC cI cL a v)) (dI : Nat) (dO dG dN dT : Int32) (aN aB : Nat → Int32) (nS nP nR nG : Nat → Int32) (nO nU : Nat → Int64) (nT : Nat → Int32) (tP tR tO tN : Nat → Int32) (tF tZ : Nat) (mP : Nat → Int32) (mN : Int64) (x : Int32) (y : Int32)  : Met l yNB_takeFreePlace wsNB_takeFreePlace ({ frames := 0, cells := 0, slots := 0, locals := 0 }) (va_Pc [.ref (a 4), .int x, .int y] (gG D (tyC cI cL) (wC cI cL a) ((dI, dO, dG, dN, dT), (aN, aB), (nS, nP, nR, nG, nO, nU, nT), (tP, tR, tO, tN, tF, tZ), (mP, mN)))) (va_Qi (fun (r : Int32) (u : CS) => r = oi ((LNB_takeFreePlace nS nP nR x y 16 0 ).1) ∧ u = ((dI, dO, dG, dN, dT), (aN, aB), ((LNB_takeFreePlace nS nP nR x y 16 0 ).2.1, (LNB_takeFreePlace nS nP nR x y 16 0 ).2.2.1, (LNB_takeFreePlace nS nP nR x y 16 0 ).2.2.2, nG, nO, nU, nT), (tP, tR, tO, tN, tF, tZ), (mP, mN))) (gG D (tyC cI cL) (wC cI cL a)) A) 0 0 A := by
  refine g_enter (by decide) rfl (Nat.le_of_ble_eq_true rfl) ?_
  intro p e s m below meth c ls F hK hP hl
  obtain ⟨hx, hb, hr, hml, hown, hts, hlocks⟩ := id F
  have hS : va_S A s.heap s.heap [] := va_S.rf
  have hl : lv_has ls 4 [(0, .ref (a 4)), (1, .int x), (2, .int y)] := hl
  refine lv_iconst (v := nI 0) hx hb dNB_takeFreePlace_0 (by decide) ?_
  refine lv_istore_n (lv' := [(3, .int (nI 0)), (0, .ref (a 4)), (1, .int x), (2, .int y)]) hx hb dNB_takeFreePlace_1 rfl hl (by decide) rfl (fun ls hl => ?_)
  exact lpNB_takeFreePlace hA F hK  _ 16 0  ls _ _ rfl  hP hS (lv_sub hl [0, 1, 2, 3] rfl) ⟨rfl, rfl⟩
theorem LNB_takeFreePlace_lt {nS nP nR : Nat → Int32} {x y : Int32} : ∀ (n k j : Nat), (LNB_takeFreePlace nS nP nR x y n k).1 = some j → j < k + n := by
  intro n
  induction n with
  | zero => intro k j h; simp only [LNB_takeFreePlace] at h; cases h
  | succ n ih =>
    intro k j h
    simp only [LNB_takeFreePlace] at h
    split at h
    · cases h; omega
    · have := ih _ _ h; omega
theorem c_NB_takeFreePlace_lt {nS nP nR : Nat → Int32} {x y : Int32} {k : Nat} (h : (LNB_takeFreePlace nS nP nR x y 16 0).1 = some k) : k < 16 := by
  have := LNB_takeFreePlace_lt _ _ _ h; omega
def fNB_placeFor (nS : Nat → Int32) (nP : Nat → Int32) (nR : Nat → Int32) (x : Int32) (y : Int32) : Option Nat × (Nat → Int32) × (Nat → Int32) × (Nat → Int32) := (match LNB_heardPlace nS nP nR x y 16 0  with | none => (match (LNB_takeFreePlace nS nP nR x y 16 0 ).1 with | none => (none, (LNB_takeFreePlace nS nP nR x y 16 0 ).2.1, (LNB_takeFreePlace nS nP nR x y 16 0 ).2.2.1, (LNB_takeFreePlace nS nP nR x y 16 0 ).2.2.2) | some k4 => (some k4, (LNB_takeFreePlace nS nP nR x y 16 0 ).2.1, (LNB_takeFreePlace nS nP nR x y 16 0 ).2.2.1, (LNB_takeFreePlace nS nP nR x y 16 0 ).2.2.2)) | some k1 => (some k1, nS, nP, nR))
set_option maxHeartbeats 4000000 in
set_option maxRecDepth 100000 in
theorem c_NB_placeFor (l : Launch) {D : va_G} {cI cL : ClassId} {a : Nat → Nat} {A : Nat → Prop} (hA : ∀ v : CS, va_D A (wC cI cL a v)) (dI : Nat) (dO dG dN dT : Int32) (aN aB : Nat → Int32) (nS nP nR nG : Nat → Int32) (nO nU : Nat → Int64) (nT : Nat → Int32) (tP tR tO tN : Nat → Int32) (tF tZ : Nat) (mP : Nat → Int32) (mN : Int64) (x : Int32) (y : Int32)  : Met l yNB_placeFor wsNB_placeFor ({ frames := 1, cells := 0, slots := 0, locals := 23 }) (va_Pc [.ref (a 4), .int x, .int y] (gG D (tyC cI cL) (wC cI cL a) ((dI, dO, dG, dN, dT), (aN, aB), (nS, nP, nR, nG, nO, nU, nT), (tP, tR, tO, tN, tF, tZ), (mP, mN)))) (va_Qi (fun (r : Int32) (u : CS) => r = oi ((fNB_placeFor nS nP nR x y).1) ∧ u = ((dI, dO, dG, dN, dT), (aN, aB), ((fNB_placeFor nS nP nR x y).2.1, (fNB_placeFor nS nP nR x y).2.2.1, (fNB_placeFor nS nP nR x y).2.2.2, nG, nO, nU, nT), (tP, tR, tO, tN, tF, tZ), (mP, mN))) (gG D (tyC cI cL) (wC cI cL a)) A) 0 0 A := by
  refine g_enter (by decide) rfl (Nat.le_of_ble_eq_true rfl) ?_
  intro p e s m below meth c ls F hK hP hl
  obtain ⟨hx, hb, hr, hml, hown, hts, hlocks⟩ := id F
  have hS : va_S A s.heap s.heap [] := va_S.rf
  have hl : lv_has ls 4 [(0, .ref (a 4)), (1, .int x), (2, .int y)] := hl
  refine lv_aload_n hx hb dNB_placeFor_0 rfl (lv_at hl 0 rfl) ?_
  refine lv_iload_n hx hb dNB_placeFor_1 rfl (lv_at hl 1 rfl) ?_
  refine lv_iload_n hx hb dNB_placeFor_2 rfl (lv_at hl 2 rfl) ?_
  refine g_roVi (As := [.int x, .int y]) (rest := []) ⟨hx, hb, hml, hown, hts⟩ (c_NB_heardPlace l dI dO dG dN dT aN aB nS nP nR nG nO nU nT tP tR tO tN tF tZ mP mN x y) (cwV 2 hts (gw_V k411 k413 k12 k29 k414) rfl rfl rfl (by decide +kernel) ⟨Nat.le_of_ble_eq_true rfl, Nat.le_of_ble_eq_true rfl⟩) hK hP (va_recv hK hP (ci := 2) (q0 := 4) rfl rfl) rfl hl.1 rfl (Nat.le_of_ble_eq_true rfl) dNB_placeFor_3 ⟨Nat.zero_le _, Nat.zero_le _⟩ ?_
  rcases ho2 : LNB_heardPlace nS nP nR x y 16 0  with _ | k1
  · refine lv_istore_n (lv' := [(3, .int (oi none)), (0, .ref (a 4)), (1, .int x), (2, .int y)]) hx hb dNB_placeFor_6 rfl hl (by decide) rfl (fun ls hl => ?_)
    refine lv_iload_n hx hb dNB_placeFor_7 rfl (lv_at hl 0 rfl) ?_
    refine lv_iconst (v := (-1)) hx hb dNB_placeFor_8 (by decide) ?_
    refine lv_icmp_eq (tgt := 16) hx hb dNB_placeFor_9 (by decide) (fun _ => ?_) (fun c0 => absurd rfl c0)
    refine lv_aload_n hx hb dNB_placeFor_16 rfl (lv_at hl 1 rfl) ?_
    refine lv_iload_n hx hb dNB_placeFor_17 rfl (lv_at hl 2 rfl) ?_
    refine lv_iload_n hx hb dNB_placeFor_18 rfl (lv_at hl 3 rfl) ?_
    refine g_callVi (As := [.int x, .int y]) (rest := []) ⟨hx, hb, hml, hown, hts⟩ (c_NB_takeFreePlace l hA dI dO dG dN dT aN aB nS nP nR nG nO nU nT tP tR tO tN tF tZ mP mN x y) (cwV 2 hts (gw_V k415 k417 k13 k29 k418) rfl rfl rfl (by decide +kernel) ⟨Nat.le_of_ble_eq_true rfl, Nat.le_of_ble_eq_true rfl⟩) hK hP (va_recv hK hP (ci := 2) (q0 := 4) rfl rfl) rfl hl.1 rfl (Nat.le_of_ble_eq_true rfl) dNB_placeFor_19 ⟨Nat.zero_le _, Nat.zero_le _⟩ (fun q h => h) hS (fun H locs hP hS => ?_)
    have hP : va_P D vwCl (wC cI cL a ((dI, dO, dG, dN, dT), (aN, aB), ((LNB_takeFreePlace nS nP nR x y 16 0 ).2.1, (LNB_takeFreePlace nS nP nR x y 16 0 ).2.2.1, (LNB_takeFreePlace nS nP nR x y 16 0 ).2.2.2, nG, nO, nU, nT), (tP, tR, tO, tN, tF, tZ), (mP, mN))) H := hP
    rcases ho5 : (LNB_takeFreePlace nS nP nR x y 16 0 ).1 with _ | k4
    · have e1 : fNB_placeFor nS nP nR x y = (none, (LNB_takeFreePlace nS nP nR x y 16 0 ).2.1, (LNB_takeFreePlace nS nP nR x y 16 0 ).2.2.1, (LNB_takeFreePlace nS nP nR x y 16 0 ).2.2.2) := by first | (simp only [fNB_placeFor, ho2, ho5, cond_true, cond_false]; done) | (simp only [fNB_placeFor, ho2, cond_true, cond_false]; simp only [ho5, cond_true, cond_false])
      exact g_iret (v := ((dI, dO, dG, dN, dT), (aN, aB), ((LNB_takeFreePlace nS nP nR x y 16 0 ).2.1, (LNB_takeFreePlace nS nP nR x y 16 0 ).2.2.1, (LNB_takeFreePlace nS nP nR x y 16 0 ).2.2.2, nG, nO, nU, nT), (tP, tR, tO, tN, tF, tZ), (mP, mN))) hx hb hr hK hP hS ⟨by first | rfl | (rw [e1] <;> rfl), by first | rfl | (rw [e1] <;> rfl)⟩ hlocks dNB_placeFor_22
    · have hk4 := c_NB_takeFreePlace_lt ho5
      have e1 : fNB_placeFor nS nP nR x y = (some k4, (LNB_takeFreePlace nS nP nR x y 16 0 ).2.1, (LNB_takeFreePlace nS nP nR x y 16 0 ).2.2.1, (LNB_takeFreePlace nS nP nR x y 16 0 ).2.2.2) := by first | (simp only [fNB_placeFor, ho2, ho5, cond_true, cond_false]; done) | (simp only [fNB_placeFor, ho2, cond_true, cond_false]; simp only [ho5, cond_true, cond_false])
      exact g_iret (v := ((dI, dO, dG, dN, dT), (aN, aB), ((LNB_takeFreePlace nS nP nR x y 16 0 ).2.1, (LNB_takeFreePlace nS nP nR x y 16 0 ).2.2.1, (LNB_takeFreePlace nS nP nR x y 16 0 ).2.2.2, nG, nO, nU, nT), (tP, tR, tO, tN, tF, tZ), (mP, mN))) hx hb hr hK hP hS ⟨by first | rfl | (rw [e1] <;> rfl), by first | rfl | (rw [e1] <;> rfl)⟩ hlocks dNB_placeFor_22
  · have hk1 := c_NB_heardPlace_lt ho2
    refine lv_istore_n (lv' := [(3, .int (nI k1)), (0, .ref (a 4)), (1, .int x), (2, .int y)]) hx hb dNB_placeFor_6 rfl hl (by decide) rfl (fun ls hl => ?_)
    refine lv_iload_n hx hb dNB_placeFor_7 rfl (lv_at hl 0 rfl) ?_
    refine lv_iconst (v := (-1)) hx hb dNB_placeFor_8 (by decide) ?_
    refine lv_icmp_eq (tgt := 16) hx hb dNB_placeFor_9 (by decide) (fun c0 => absurd c0 (nI_m1 (by omega))) (fun _ => ?_)
    refine lv_iload_n hx hb dNB_placeFor_12 rfl (lv_at hl 0 rfl) ?_
    refine lv_goto (tgt := 22) hx hb dNB_placeFor_13 (by decide) ?_
    have e1 : fNB_placeFor nS nP nR x y = (some k1, nS, nP, nR) := by simp only [fNB_placeFor, ho2, cond_true, cond_false]
    exact g_iret (v := ((dI, dO, dG, dN, dT), (aN, aB), (nS, nP, nR, nG, nO, nU, nT), (tP, tR, tO, tN, tF, tZ), (mP, mN))) hx hb hr hK hP hS ⟨by first | rfl | (rw [e1] <;> rfl), by first | rfl | (rw [e1] <;> rfl)⟩ hlocks dNB_placeFor_22
theorem c_NB_placeFor_lt {nS nP nR : Nat → Int32} {x y : Int32} {k : Nat} (h : (fNB_placeFor nS nP nR x y).1 = some k) : k < 16 := by
  unfold fNB_placeFor at h
  split at h
  · split at h
    · cases h
    · rename_i j hj
      cases h; exact c_NB_takeFreePlace_lt hj
  · rename_i j hj
    cases h; exact c_NB_heardPlace_lt hj
set_option maxHeartbeats 4000000 in
set_option maxRecDepth 100000 in
theorem c_NB_oweExactly (l : Launch) {D : va_G} {cI cL : ClassId} {a : Nat → Nat} {A : Nat → Prop} (hA : ∀ v : CS, va_D A (wC cI cL a v)) (dI : Nat) (dO dG dN dT : Int32) (aN aB : Nat → Int32) (nS nP nR nG : Nat → Int32) (nO nU : Nat → Int64) (nT : Nat → Int32) (tP tR tO tN : Nat → Int32) (tF tZ : Nat) (mP : Nat → Int32) (mN : Int64) (j : Nat) (w : Int64) (hj : j < 16) : Met l yNB_oweExactly wsNB_oweExactly ({ frames := 0, cells := 0, slots := 0, locals := 0 }) (va_Pc [.ref (a 4), .int (nI j), .long w] (gG D (tyC cI cL) (wC cI cL a) ((dI, dO, dG, dN, dT), (aN, aB), (nS, nP, nR, nG, nO, nU, nT), (tP, tR, tO, tN, tF, tZ), (mP, mN)))) (va_Qv (fun u : CS => u = ((dI, dO, dG, dN, dT), (aN, aB), (nS, nP, nR, nG, vp_updL nO j w, vp_updL nU j w, nT), (tP, tR, tO, tN, tF, tZ), (mP, mN))) (gG D (tyC cI cL) (wC cI cL a)) A) 0 0 A := by
  refine g_enter (by decide) rfl (Nat.le_of_ble_eq_true rfl) ?_
  intro p e s m below meth c ls F hK hP hl
  obtain ⟨hx, hb, hr, hml, hown, hts, hlocks⟩ := id F
  have hS : va_S A s.heap s.heap [] := va_S.rf
  have hl : lv_has ls 4 [(0, .ref (a 4)), (1, .int (nI j)), (2, .long w)] := hl
  refine lv_aload_n hx hb dNB_oweExactly_0 rfl (lv_at hl 0 rfl) ?_
  refine va_get (D := D) (ci := 2) (v := .ref (a 9)) (C := RNB) (T := TNB) (N := 7) hx hb hts inNB hown hK hP 4 rfl rfl 4 (by decide) (hts _ k71) (fun _ h9 => h9) rfl dNB_oweExactly_1 ?_
  refine lv_iload_n hx hb dNB_oweExactly_4 rfl (lv_at hl 1 rfl) ?_
  refine lv_lload_n hx hb dNB_oweExactly_5 rfl (lv_at hl 2 rfl) ?_
  refine ir_last hx hb hK hP (hA _) hS 9 1 rfl rfl (k := j) (by omega) (by decide) dNB_oweExactly_6 (fun H locs hP hS => ?_)
  have hP : va_P D vwCl (wC cI cL a ((dI, dO, dG, dN, dT), (aN, aB), (nS, nP, nR, nG, vp_updL nO j w, nU, nT), (tP, tR, tO, tN, tF, tZ), (mP, mN))) H := hP
  refine lv_aload_n hx hb dNB_oweExactly_7 rfl (lv_at hl 0 rfl) ?_
  refine va_get (D := D) (ci := 2) (v := .ref (a 10)) (C := RNB) (T := TNB) (N := 7) hx hb hts inNB hown hK hP 4 rfl rfl 5 (by decide) (hts _ k72) (fun _ h9 => h9) rfl dNB_oweExactly_8 ?_
  refine lv_iload_n hx hb dNB_oweExactly_11 rfl (lv_at hl 1 rfl) ?_
  refine lv_lload_n hx hb dNB_oweExactly_12 rfl (lv_at hl 2 rfl) ?_
  refine ir_last hx hb hK hP (hA _) hS 10 1 rfl rfl (k := j) (by omega) (by decide) dNB_oweExactly_13 (fun H locs hP hS => ?_)
  have hP : va_P D vwCl (wC cI cL a ((dI, dO, dG, dN, dT), (aN, aB), (nS, nP, nR, nG, vp_updL nO j w, vp_updL nU j w, nT), (tP, tR, tO, tN, tF, tZ), (mP, mN))) H := hP
  exact g_vret (v := ((dI, dO, dG, dN, dT), (aN, aB), (nS, nP, nR, nG, vp_updL nO j w, vp_updL nU j w, nT), (tP, tR, tO, tN, tF, tZ), (mP, mN))) hx hb hr hK hP hS (rfl) hlocks dNB_oweExactly_14
def fNB_greeted (nS : Nat → Int32) (nO : Nat → Int64) (nU : Nat → Int64) (j : Nat) (b : Bool) (w : Int64) : Int32 × (Nat → Int32) × (Nat → Int64) × (Nat → Int64) := (cond b (if (nS j) = 2 then (nS j, nS, nO, nU) else ((upd nS j 2) j, upd nS j 2, vp_updL nO j w, vp_updL nU j w)) ((upd nS j 1) j, upd nS j 1, vp_updL nO j 0, vp_updL nU j 0))
set_option maxHeartbeats 4000000 in
set_option maxRecDepth 100000 in
theorem c_NB_greeted (l : Launch) {D : va_G} {cI cL : ClassId} {a : Nat → Nat} {A : Nat → Prop} (hA : ∀ v : CS, va_D A (wC cI cL a v)) (dI : Nat) (dO dG dN dT : Int32) (aN aB : Nat → Int32) (nS nP nR nG : Nat → Int32) (nO nU : Nat → Int64) (nT : Nat → Int32) (tP tR tO tN : Nat → Int32) (tF tZ : Nat) (mP : Nat → Int32) (mN : Int64) (j : Nat) (x : Int32) (b : Bool) (w : Int64) (hj : j < 16) : Met l yNB_greeted wsNB_greeted ({ frames := 1, cells := 0, slots := 0, locals := 23 }) (va_Pc [.ref (a 4), .int (nI j), .int x, .int (bi b), .long w] (gG D (tyC cI cL) (wC cI cL a) ((dI, dO, dG, dN, dT), (aN, aB), (nS, nP, nR, nG, nO, nU, nT), (tP, tR, tO, tN, tF, tZ), (mP, mN)))) (va_Qi (fun (r : Int32) (u : CS) => r = (fNB_greeted nS nO nU j b w).1 ∧ u = ((dI, dO, dG, dN, dT), (aN, aB), ((fNB_greeted nS nO nU j b w).2.1, nP, nR, upd nG j x, (fNB_greeted nS nO nU j b w).2.2.1, (fNB_greeted nS nO nU j b w).2.2.2, nT), (tP, tR, tO, tN, tF, tZ), (mP, mN))) (gG D (tyC cI cL) (wC cI cL a)) A) 0 0 A := by
  refine g_enter (by decide) rfl (Nat.le_of_ble_eq_true rfl) ?_
  intro p e s m below meth c ls F hK hP hl
  obtain ⟨hx, hb, hr, hml, hown, hts, hlocks⟩ := id F
  have hS : va_S A s.heap s.heap [] := va_S.rf
  have hl : lv_has ls 6 [(0, .ref (a 4)), (1, .int (nI j)), (2, .int x), (3, .int (bi b)), (4, .long w)] := hl
  refine lv_aload_n hx hb dNB_greeted_0 rfl (lv_at hl 0 rfl) ?_
  refine va_get (D := D) (ci := 2) (v := .ref (a 8)) (C := RNB) (T := TNB) (N := 7) hx hb hts inNB hown hK hP 4 rfl rfl 3 (by decide) (hts _ k70) (fun _ h9 => h9) rfl dNB_greeted_1 ?_
  refine lv_iload_n hx hb dNB_greeted_4 rfl (lv_at hl 1 rfl) ?_
  refine lv_iload_n hx hb dNB_greeted_5 rfl (lv_at hl 2 rfl) ?_
  refine ir_iast hx hb hK hP (hA _) hS 8 0 rfl rfl (k := j) (by omega) (by decide) dNB_greeted_6 (fun H locs hP hS => ?_)
  have hP : va_P D vwCl (wC cI cL a ((dI, dO, dG, dN, dT), (aN, aB), (nS, nP, nR, upd nG j x, nO, nU, nT), (tP, tR, tO, tN, tF, tZ), (mP, mN))) H := hP
  refine lv_iload_n hx hb dNB_greeted_7 rfl (lv_at hl 3 rfl) ?_
  refine lv_if_neb (tgt := 27) hx hb dNB_greeted_8 (by decide) (fun c1 => ?_) (fun c1 => ?_)
  · refine lv_aload_n hx hb dNB_greeted_27 rfl (lv_at hl 0 rfl) ?_
    refine va_get (D := D) (ci := 2) (v := .ref (a 5)) (C := RNB) (T := TNB) (N := 7) hx hb hts inNB hown hK hP 4 rfl rfl 0 (by decide) (hts _ k67) (fun _ h9 => h9) rfl dNB_greeted_28 ?_
    refine lv_iload_n hx hb dNB_greeted_31 rfl (lv_at hl 1 rfl) ?_
    refine ir_iald hx hb hK hP 5 0 rfl rfl (k := j) (by omega) (by decide) dNB_greeted_32 ?_
    refine lv_iconst (v := 2) hx hb dNB_greeted_33 (by decide) ?_
    refine lv_icmp_eq (tgt := 51) hx hb dNB_greeted_34 (by decide) (fun c2 => ?_) (fun c2 => ?_)
    · refine lv_aload_n hx hb dNB_greeted_51 rfl (lv_at hl 0 rfl) ?_
      refine va_get (D := D) (ci := 2) (v := .ref (a 5)) (C := RNB) (T := TNB) (N := 7) hx hb hts inNB hown hK hP 4 rfl rfl 0 (by decide) (hts _ k67) (fun _ h9 => h9) rfl dNB_greeted_52 ?_
      refine lv_iload_n hx hb dNB_greeted_55 rfl (lv_at hl 1 rfl) ?_
      refine ir_iald hx hb hK hP 5 0 rfl rfl (k := j) (by omega) (by decide) dNB_greeted_56 ?_
      have e1 : fNB_greeted nS nO nU j b w = (nS j, nS, nO, nU) := by first | (simp only [fNB_greeted, c1, if_pos c2, cond_true, cond_false]; done) | (simp only [fNB_greeted, c1, cond_true, cond_false]; simp only [if_pos c2])
      exact g_iret (v := ((dI, dO, dG, dN, dT), (aN, aB), (nS, nP, nR, upd nG j x, nO, nU, nT), (tP, tR, tO, tN, tF, tZ), (mP, mN))) hx hb hr hK hP hS ⟨by first | rfl | (rw [e1] <;> rfl), by first | rfl | (rw [e1] <;> rfl)⟩ hlocks dNB_greeted_57
    · refine lv_aload_n hx hb dNB_greeted_37 rfl (lv_at hl 0 rfl) ?_
      refine va_get (D := D) (ci := 2) (v := .ref (a 5)) (C := RNB) (T := TNB) (N := 7) hx hb hts inNB hown hK hP 4 rfl rfl 0 (by decide) (hts _ k67) (fun _ h9 => h9) rfl dNB_greeted_38 ?_
      refine lv_iload_n hx hb dNB_greeted_41 rfl (lv_at hl 1 rfl) ?_
      refine lv_iconst (v := 2) hx hb dNB_greeted_42 (by decide) ?_
      refine ir_iast hx hb hK hP (hA _) hS 5 0 rfl rfl (k := j) (by omega) (by decide) dNB_greeted_43 (fun H locs hP hS => ?_)
      have hP : va_P D vwCl (wC cI cL a ((dI, dO, dG, dN, dT), (aN, aB), (upd nS j 2, nP, nR, upd nG j x, nO, nU, nT), (tP, tR, tO, tN, tF, tZ), (mP, mN))) H := hP
      refine lv_aload_n hx hb dNB_greeted_44 rfl (lv_at hl 0 rfl) ?_
      refine lv_iload_n hx hb dNB_greeted_45 rfl (lv_at hl 1 rfl) ?_
      refine lv_lload hx hb dNB_greeted_46 (lv_at hl 4 rfl) ?_
      refine g_callVv (As := [.int (nI j), .long w]) (rest := []) ⟨hx, hb, hml, hown, hts⟩ (c_NB_oweExactly l hA dI dO dG dN dT aN aB (upd nS j 2) nP nR (upd nG j x) nO nU nT tP tR tO tN tF tZ mP mN j w (by first | omega | assumption)) (cwV 2 hts (gw_V k367 k369 k9 k29 k370) rfl rfl rfl (by decide +kernel) ⟨Nat.le_of_ble_eq_true rfl, Nat.le_of_ble_eq_true rfl⟩) hK hP (va_recv hK hP (ci := 2) (q0 := 4) rfl rfl) rfl hl.1 rfl (Nat.le_of_ble_eq_true rfl) dNB_greeted_48 ⟨Nat.zero_le _, Nat.zero_le _⟩ (fun q h => h) hS (fun H locs hP hS => ?_)
      have hP : va_P D vwCl (wC cI cL a ((dI, dO, dG, dN, dT), (aN, aB), (upd nS j 2, nP, nR, upd nG j x, vp_updL nO j w, vp_updL nU j w, nT), (tP, tR, tO, tN, tF, tZ), (mP, mN))) H := hP
      refine lv_aload_n hx hb dNB_greeted_51 rfl (lv_at hl 0 rfl) ?_
      refine va_get (D := D) (ci := 2) (v := .ref (a 5)) (C := RNB) (T := TNB) (N := 7) hx hb hts inNB hown hK hP 4 rfl rfl 0 (by decide) (hts _ k67) (fun _ h9 => h9) rfl dNB_greeted_52 ?_
      refine lv_iload_n hx hb dNB_greeted_55 rfl (lv_at hl 1 rfl) ?_
      refine ir_iald hx hb hK hP 5 0 rfl rfl (k := j) (by omega) (by decide) dNB_greeted_56 ?_
      have e1 : fNB_greeted nS nO nU j b w = ((upd nS j 2) j, upd nS j 2, vp_updL nO j w, vp_updL nU j w) := by first | (simp only [fNB_greeted, c1, if_neg c2, cond_true, cond_false]; done) | (simp only [fNB_greeted, c1, cond_true, cond_false]; simp only [if_neg c2])
      exact g_iret (v := ((dI, dO, dG, dN, dT), (aN, aB), (upd nS j 2, nP, nR, upd nG j x, vp_updL nO j w, vp_updL nU j w, nT), (tP, tR, tO, tN, tF, tZ), (mP, mN))) hx hb hr hK hP hS ⟨by first | rfl | (rw [e1] <;> rfl), by first | rfl | (rw [e1] <;> rfl)⟩ hlocks dNB_greeted_57
  · refine lv_aload_n hx hb dNB_greeted_11 rfl (lv_at hl 0 rfl) ?_
    refine va_get (D := D) (ci := 2) (v := .ref (a 5)) (C := RNB) (T := TNB) (N := 7) hx hb hts inNB hown hK hP 4 rfl rfl 0 (by decide) (hts _ k67) (fun _ h9 => h9) rfl dNB_greeted_12 ?_
    refine lv_iload_n hx hb dNB_greeted_15 rfl (lv_at hl 1 rfl) ?_
    refine lv_iconst (v := 1) hx hb dNB_greeted_16 (by decide) ?_
    refine ir_iast hx hb hK hP (hA _) hS 5 0 rfl rfl (k := j) (by omega) (by decide) dNB_greeted_17 (fun H locs hP hS => ?_)
    have hP : va_P D vwCl (wC cI cL a ((dI, dO, dG, dN, dT), (aN, aB), (upd nS j 1, nP, nR, upd nG j x, nO, nU, nT), (tP, tR, tO, tN, tF, tZ), (mP, mN))) H := hP
    refine lv_aload_n hx hb dNB_greeted_18 rfl (lv_at hl 0 rfl) ?_
    refine lv_iload_n hx hb dNB_greeted_19 rfl (lv_at hl 1 rfl) ?_
    refine lv_lconst (v := 0) hx hb dNB_greeted_20 (by decide) ?_
    refine g_callVv (As := [.int (nI j), .long 0]) (rest := []) ⟨hx, hb, hml, hown, hts⟩ (c_NB_oweExactly l hA dI dO dG dN dT aN aB (upd nS j 1) nP nR (upd nG j x) nO nU nT tP tR tO tN tF tZ mP mN j 0 (by first | omega | assumption)) (cwV 2 hts (gw_V k367 k369 k9 k29 k370) rfl rfl rfl (by decide +kernel) ⟨Nat.le_of_ble_eq_true rfl, Nat.le_of_ble_eq_true rfl⟩) hK hP (va_recv hK hP (ci := 2) (q0 := 4) rfl rfl) rfl hl.1 rfl (Nat.le_of_ble_eq_true rfl) dNB_greeted_21 ⟨Nat.zero_le _, Nat.zero_le _⟩ (fun q h => h) hS (fun H locs hP hS => ?_)
    have hP : va_P D vwCl (wC cI cL a ((dI, dO, dG, dN, dT), (aN, aB), (upd nS j 1, nP, nR, upd nG j x, vp_updL nO j 0, vp_updL nU j 0, nT), (tP, tR, tO, tN, tF, tZ), (mP, mN))) H := hP
    refine lv_goto (tgt := 51) hx hb dNB_greeted_24 (by decide) ?_
    refine lv_aload_n hx hb dNB_greeted_51 rfl (lv_at hl 0 rfl) ?_
    refine va_get (D := D) (ci := 2) (v := .ref (a 5)) (C := RNB) (T := TNB) (N := 7) hx hb hts inNB hown hK hP 4 rfl rfl 0 (by decide) (hts _ k67) (fun _ h9 => h9) rfl dNB_greeted_52 ?_
    refine lv_iload_n hx hb dNB_greeted_55 rfl (lv_at hl 1 rfl) ?_
    refine ir_iald hx hb hK hP 5 0 rfl rfl (k := j) (by omega) (by decide) dNB_greeted_56 ?_
    have e1 : fNB_greeted nS nO nU j b w = ((upd nS j 1) j, upd nS j 1, vp_updL nO j 0, vp_updL nU j 0) := by simp only [fNB_greeted, c1, cond_true, cond_false]
    exact g_iret (v := ((dI, dO, dG, dN, dT), (aN, aB), (upd nS j 1, nP, nR, upd nG j x, vp_updL nO j 0, vp_updL nU j 0, nT), (tP, tR, tO, tN, tF, tZ), (mP, mN))) hx hb hr hK hP hS ⟨by first | rfl | (rw [e1] <;> rfl), by first | rfl | (rw [e1] <;> rfl)⟩ hlocks dNB_greeted_57
set_option maxHeartbeats 4000000 in
set_option maxRecDepth 100000 in
theorem c_NB_drop (l : Launch) {D : va_G} {cI cL : ClassId} {a : Nat → Nat} {A : Nat → Prop} (hA : ∀ v : CS, va_D A (wC cI cL a v)) (dI : Nat) (dO dG dN dT : Int32) (aN aB : Nat → Int32) (nS nP nR nG : Nat → Int32) (nO nU : Nat → Int64) (nT : Nat → Int32) (tP tR tO tN : Nat → Int32) (tF tZ : Nat) (mP : Nat → Int32) (mN : Int64) (j : Nat) (hj : j < 16) : Met l yNB_drop wsNB_drop ({ frames := 1, cells := 0, slots := 0, locals := 23 }) (va_Pc [.ref (a 4), .int (nI j)] (gG D (tyC cI cL) (wC cI cL a) ((dI, dO, dG, dN, dT), (aN, aB), (nS, nP, nR, nG, nO, nU, nT), (tP, tR, tO, tN, tF, tZ), (mP, mN)))) (va_Qv (fun u : CS => u = ((dI, dO, dG, dN, dT), (aN, aB), (upd nS j 0, nP, nR, nG, vp_updL nO j 0, vp_updL nU j 0, nT), (tP, tR, tO, tN, tF, tZ), (mP, mN))) (gG D (tyC cI cL) (wC cI cL a)) A) 0 0 A := by
  refine g_enter (by decide) rfl (Nat.le_of_ble_eq_true rfl) ?_
  intro p e s m below meth c ls F hK hP hl
  obtain ⟨hx, hb, hr, hml, hown, hts, hlocks⟩ := id F
  have hS : va_S A s.heap s.heap [] := va_S.rf
  have hl : lv_has ls 2 [(0, .ref (a 4)), (1, .int (nI j))] := hl
  refine lv_aload_n hx hb dNB_drop_0 rfl (lv_at hl 0 rfl) ?_
  refine va_get (D := D) (ci := 2) (v := .ref (a 5)) (C := RNB) (T := TNB) (N := 7) hx hb hts inNB hown hK hP 4 rfl rfl 0 (by decide) (hts _ k67) (fun _ h9 => h9) rfl dNB_drop_1 ?_
  refine lv_iload_n hx hb dNB_drop_4 rfl (lv_at hl 1 rfl) ?_
  refine lv_iconst (v := 0) hx hb dNB_drop_5 (by decide) ?_
  refine ir_iast hx hb hK hP (hA _) hS 5 0 rfl rfl (k := j) (by omega) (by decide) dNB_drop_6 (fun H locs hP hS => ?_)
  have hP : va_P D vwCl (wC cI cL a ((dI, dO, dG, dN, dT), (aN, aB), (upd nS j 0, nP, nR, nG, nO, nU, nT), (tP, tR, tO, tN, tF, tZ), (mP, mN))) H := hP
  refine lv_aload_n hx hb dNB_drop_7 rfl (lv_at hl 0 rfl) ?_
  refine lv_iload_n hx hb dNB_drop_8 rfl (lv_at hl 1 rfl) ?_
  refine lv_lconst (v := 0) hx hb dNB_drop_9 (by decide) ?_
  refine g_callVv (As := [.int (nI j), .long 0]) (rest := []) ⟨hx, hb, hml, hown, hts⟩ (c_NB_oweExactly l hA dI dO dG dN dT aN aB (upd nS j 0) nP nR nG nO nU nT tP tR tO tN tF tZ mP mN j 0 (by first | omega | assumption)) (cwV 2 hts (gw_V k367 k369 k9 k29 k370) rfl rfl rfl (by decide +kernel) ⟨Nat.le_of_ble_eq_true rfl, Nat.le_of_ble_eq_true rfl⟩) hK hP (va_recv hK hP (ci := 2) (q0 := 4) rfl rfl) rfl hl.1 rfl (Nat.le_of_ble_eq_true rfl) dNB_drop_10 ⟨Nat.zero_le _, Nat.zero_le _⟩ (fun q h => h) hS (fun H locs hP hS => ?_)
  have hP : va_P D vwCl (wC cI cL a ((dI, dO, dG, dN, dT), (aN, aB), (upd nS j 0, nP, nR, nG, vp_updL nO j 0, vp_updL nU j 0, nT), (tP, tR, tO, tN, tF, tZ), (mP, mN))) H := hP
  exact g_vret (v := ((dI, dO, dG, dN, dT), (aN, aB), (upd nS j 0, nP, nR, nG, vp_updL nO j 0, vp_updL nU j 0, nT), (tP, tR, tO, tN, tF, tZ), (mP, mN))) hx hb hr hK hP hS (rfl) hlocks dNB_drop_13
def LNB_dropPort (nP : Nat → Int32) (x : Int32) : Nat → Nat → (Nat → Int32) → (Nat → Int64) → (Nat → Int64) → (Nat → Int32) × (Nat → Int64) × (Nat → Int64)
  | 0, k, nS, nO, nU => (nS, nO, nU)
  | n + 1, k, nS, nO, nU => (if (nS k) = 0 then LNB_dropPort nP x n (k + 1) nS nO nU else (if (nP k) = x then LNB_dropPort nP x n (k + 1) (upd nS k 0) (vp_updL nO k 0) (vp_updL nU k 0) else LNB_dropPort nP x n (k + 1) nS nO nU))
set_option maxHeartbeats 4000000 in
set_option maxRecDepth 100000 in
theorem lpNB_dropPort {p : Program} {l : Launch} {e : Env} {s : State} {m : MethodId} {args : Array Value} {below : List Frame} {meth : Method} {c : Code} {D : va_G} {cI cL : ClassId} {a : Nat → Nat} {A : Nat → Prop} (hA : ∀ v : CS, va_D A (wC cI cL a v)) (F : gFix p c cNB_dropPort meth (none) m s args bigW RNB 3) (hK : va_K D vwCl (tyC cI cL) s) {dI : Nat} {dO : Int32} {dG : Int32} {dN : Int32} {dT : Int32} {aN : Nat → Int32} {aB : Nat → Int32} {nP : Nat → Int32} {nR : Nat → Int32} {nG : Nat → Int32} {nT : Nat → Int32} {tP : Nat → Int32} {tR : Nat → Int32} {tO : Nat → Int32} {tN : Nat → Int32} {tF : Nat} {tZ : Nat} {mP : Nat → Int32} {mN : Int64} {x : Int32}  (post : CS → Prop) : ∀ (n k : Nat)  (nS : Nat → Int32) (nO : Nat → Int64) (nU : Nat → Int64) (ls : Array Slot) (H : Heap) (locs : List Loc), k + n = 16 → va_P D vwCl (wC cI cL a ((dI, dO, dG, dN, dT), (aN, aB), (nS, nP, nR, nG, nO, nU, nT), (tP, tR, tO, tN, tF, tZ), (mP, mN))) H → va_S A s.heap H locs → lv_has ls 3 [(2, .int (nI k)), (0, .ref (a 4)), (1, .int x)] → post  ((dI, dO, dG, dN, dT), (aN, aB), ((LNB_dropPort nP x n k nS nO nU).1, nP, nR, nG, (LNB_dropPort nP x n k nS nO nU).2.1, (LNB_dropPort nP x n k nS nO nU).2.2, nT), (tP, tR, tO, tN, tF, tZ), (mP, mN)) → W p l e ({ frames := 2, cells := 0, slots := 0, locals := 44 }) s m args below meth c H locs 0 0 (MQ below (va_Qv post (gG D (tyC cI cL) (wC cI cL a)) A) args s 0 0 A) (F0 m 2 ls []) := by
  obtain ⟨hx, hb, hr, hml, hown, hts, hlocks⟩ := F
  intro n
  induction n with
  | zero =>
    intro k nS nO nU ls H locs hkn  hP hS hl hq
    refine lv_iload_n hx hb dNB_dropPort_2 rfl (lv_at hl 0 rfl) ?_
    refine lv_bipush (v := nI 16) hx hb dNB_dropPort_3 (by decide) ?_
    refine lv_icmp_ge (tgt := 38) hx hb dNB_dropPort_5 (by decide) (fun _ => ?_) (fun c0 => absurd (nI_le (by omega) (by omega)) c0)
    have e1 : LNB_dropPort nP x 0 k nS nO nU = (nS, nO, nU) := by simp only [LNB_dropPort]
    rw [e1] at hq
    exact g_vret hx hb hr hK hP hS hq hlocks dNB_dropPort_38
  | succ n ih =>
    intro k nS nO nU ls H locs hkn  hP hS hl hq
    refine lv_iload_n hx hb dNB_dropPort_2 rfl (lv_at hl 0 rfl) ?_
    refine lv_bipush (v := nI 16) hx hb dNB_dropPort_3 (by decide) ?_
    refine lv_icmp_ge (tgt := 38) hx hb dNB_dropPort_5 (by decide) (fun c0 => absurd c0 (nI_ge (by omega) (by decide))) (fun _ => ?_)
    refine lv_aload_n hx hb dNB_dropPort_8 rfl (lv_at hl 1 rfl) ?_
    refine va_get (D := D) (ci := 2) (v := .ref (a 5)) (C := RNB) (T := TNB) (N := 7) hx hb hts inNB hown hK hP 4 rfl rfl 0 (by decide) (hts _ k67) (fun _ h9 => h9) rfl dNB_dropPort_9 ?_
    refine lv_iload_n hx hb dNB_dropPort_12 rfl (lv_at hl 0 rfl) ?_
    refine ir_iald hx hb hK hP 5 0 rfl rfl (k := k) (by omega) (by decide) dNB_dropPort_13 ?_
    refine lv_if_eq (tgt := 32) hx hb dNB_dropPort_14 (by decide) (fun c3 => ?_) (fun c3 => ?_)
    · refine lv_iinc (v := nI (k + 1)) (lv' := [(2, .int (nI (k + 1))), (0, .ref (a 4)), (1, .int x)]) hx hb dNB_dropPort_32 hl (k := 0) rfl (nI_1 k) (by decide) rfl (fun ls hl => ?_)
      refine lv_goto (tgt := 2) hx hb dNB_dropPort_35 (by decide) ?_
      have e1 : LNB_dropPort nP x (n + 1) k nS nO nU = LNB_dropPort nP x n (k + 1) nS nO nU := by simp only [LNB_dropPort, if_pos c3]
      rw [e1] at hq
      exact ih (k + 1) nS nO nU ls H locs (by omega)  hP hS (lv_sub hl [0, 1, 2] rfl) hq
    · refine lv_aload_n hx hb dNB_dropPort_17 rfl (lv_at hl 1 rfl) ?_
      refine va_get (D := D) (ci := 2) (v := .ref (a 6)) (C := RNB) (T := TNB) (N := 7) hx hb hts inNB hown hK hP 4 rfl rfl 1 (by decide) (hts _ k68) (fun _ h9 => h9) rfl dNB_dropPort_18 ?_
      refine lv_iload_n hx hb dNB_dropPort_21 rfl (lv_at hl 0 rfl) ?_
      refine ir_iald hx hb hK hP 6 0 rfl rfl (k := k) (by omega) (by decide) dNB_dropPort_22 ?_
      refine lv_iload_n hx hb dNB_dropPort_23 rfl (lv_at hl 2 rfl) ?_
      refine lv_icmp_ne (tgt := 32) hx hb dNB_dropPort_24 (by decide) (fun c4 => ?_) (fun c4 => ?_)
      · refine lv_iinc (v := nI (k + 1)) (lv' := [(2, .int (nI (k + 1))), (0, .ref (a 4)), (1, .int x)]) hx hb dNB_dropPort_32 hl (k := 0) rfl (nI_1 k) (by decide) rfl (fun ls hl => ?_)
        refine lv_goto (tgt := 2) hx hb dNB_dropPort_35 (by decide) ?_
        have e1 : LNB_dropPort nP x (n + 1) k nS nO nU = LNB_dropPort nP x n (k + 1) nS nO nU := by simp only [LNB_dropPort, if_neg c3, if_neg c4]
        rw [e1] at hq
        exact ih (k + 1) nS nO nU ls H locs (by omega)  hP hS (lv_sub hl [0, 1, 2] rfl) hq
      · refine lv_aload_n hx hb dNB_dropPort_27 rfl (lv_at hl 1 rfl) ?_
        refine lv_iload_n hx hb dNB_dropPort_28 rfl (lv_at hl 0 rfl) ?_
        refine g_callVv (As := [.int (nI k)]) (rest := []) ⟨hx, hb, hml, hown, hts⟩ (c_NB_drop l hA dI dO dG dN dT aN aB nS nP nR nG nO nU nT tP tR tO tN tF tZ mP mN k (by first | omega | assumption)) (cwV 1 hts (gw_V k363 k365 k8 k29 k366) rfl rfl rfl (by decide +kernel) ⟨Nat.le_of_ble_eq_true rfl, Nat.le_of_ble_eq_true rfl⟩) hK hP (va_recv hK hP (ci := 2) (q0 := 4) rfl rfl) rfl hl.1 rfl (Nat.le_of_ble_eq_true rfl) dNB_dropPort_29 ⟨Nat.zero_le _, Nat.zero_le _⟩ (fun q h => h) hS (fun H locs hP hS => ?_)
        have hP : va_P D vwCl (wC cI cL a ((dI, dO, dG, dN, dT), (aN, aB), (upd nS k 0, nP, nR, nG, vp_updL nO k 0, vp_updL nU k 0, nT), (tP, tR, tO, tN, tF, tZ), (mP, mN))) H := hP
        refine lv_iinc (v := nI (k + 1)) (lv' := [(2, .int (nI (k + 1))), (0, .ref (a 4)), (1, .int x)]) hx hb dNB_dropPort_32 hl (k := 0) rfl (nI_1 k) (by decide) rfl (fun ls hl => ?_)
        refine lv_goto (tgt := 2) hx hb dNB_dropPort_35 (by decide) ?_
        have e1 : LNB_dropPort nP x (n + 1) k nS nO nU = LNB_dropPort nP x n (k + 1) (upd nS k 0) (vp_updL nO k 0) (vp_updL nU k 0) := by simp only [LNB_dropPort, if_neg c3, if_pos c4]
        rw [e1] at hq
        exact ih (k + 1) (upd nS k 0) (vp_updL nO k 0) (vp_updL nU k 0) ls H locs (by omega)  hP hS (lv_sub hl [0, 1, 2] rfl) hq
set_option maxHeartbeats 4000000 in
set_option maxRecDepth 100000 in
theorem c_NB_dropPort (l : Launch) {D : va_G} {cI cL : ClassId} {a : Nat → Nat} {A : Nat → Prop} (hA : ∀ v : CS, va_D A (wC cI cL a v)) (dI : Nat) (dO dG dN dT : Int32) (aN aB : Nat → Int32) (nS nP nR nG : Nat → Int32) (nO nU : Nat → Int64) (nT : Nat → Int32) (tP tR tO tN : Nat → Int32) (tF tZ : Nat) (mP : Nat → Int32) (mN : Int64) (x : Int32)  : Met l yNB_dropPort wsNB_dropPort ({ frames := 2, cells := 0, slots := 0, locals := 44 }) (va_Pc [.ref (a 4), .int x] (gG D (tyC cI cL) (wC cI cL a) ((dI, dO, dG, dN, dT), (aN, aB), (nS, nP, nR, nG, nO, nU, nT), (tP, tR, tO, tN, tF, tZ), (mP, mN)))) (va_Qv (fun u : CS => u = ((dI, dO, dG, dN, dT), (aN, aB), ((LNB_dropPort nP x 16 0 nS nO nU).1, nP, nR, nG, (LNB_dropPort nP x 16 0 nS nO nU).2.1, (LNB_dropPort nP x 16 0 nS nO nU).2.2, nT), (tP, tR, tO, tN, tF, tZ), (mP, mN))) (gG D (tyC cI cL) (wC cI cL a)) A) 0 0 A := by
  refine g_enter (by decide) rfl (Nat.le_of_ble_eq_true rfl) ?_
  intro p e s m below meth c ls F hK hP hl
  obtain ⟨hx, hb, hr, hml, hown, hts, hlocks⟩ := id F
  have hS : va_S A s.heap s.heap [] := va_S.rf
  have hl : lv_has ls 3 [(0, .ref (a 4)), (1, .int x)] := hl
  refine lv_iconst (v := nI 0) hx hb dNB_dropPort_0 (by decide) ?_
  refine lv_istore_n (lv' := [(2, .int (nI 0)), (0, .ref (a 4)), (1, .int x)]) hx hb dNB_dropPort_1 rfl hl (by decide) rfl (fun ls hl => ?_)
  exact lpNB_dropPort hA F hK  _ 16 0 nS nO nU ls _ _ rfl  hP hS (lv_sub hl [0, 1, 2] rfl) rfl
def LNB_dropSilent (nG : Nat → Int32) (x : Int32) : Nat → Nat → (Nat → Int32) → (Nat → Int64) → (Nat → Int64) → (Nat → Int32) × (Nat → Int64) × (Nat → Int64)
  | 0, k, nS, nO, nU => (nS, nO, nU)
  | n + 1, k, nS, nO, nU => (if (nS k) = 0 then LNB_dropSilent nG x n (k + 1) nS nO nU else (if (x - (nG k)) < 80 then LNB_dropSilent nG x n (k + 1) nS nO nU else LNB_dropSilent nG x n (k + 1) (upd nS k 0) (vp_updL nO k 0) (vp_updL nU k 0)))
set_option maxHeartbeats 4000000 in
set_option maxRecDepth 100000 in
theorem lpNB_dropSilent {p : Program} {l : Launch} {e : Env} {s : State} {m : MethodId} {args : Array Value} {below : List Frame} {meth : Method} {c : Code} {D : va_G} {cI cL : ClassId} {a : Nat → Nat} {A : Nat → Prop} (hA : ∀ v : CS, va_D A (wC cI cL a v)) (F : gFix p c cNB_dropSilent meth (none) m s args bigW RNB 3) (hK : va_K D vwCl (tyC cI cL) s) {dI : Nat} {dO : Int32} {dG : Int32} {dN : Int32} {dT : Int32} {aN : Nat → Int32} {aB : Nat → Int32} {nP : Nat → Int32} {nR : Nat → Int32} {nG : Nat → Int32} {nT : Nat → Int32} {tP : Nat → Int32} {tR : Nat → Int32} {tO : Nat → Int32} {tN : Nat → Int32} {tF : Nat} {tZ : Nat} {mP : Nat → Int32} {mN : Int64} {x : Int32}  (post : CS → Prop) : ∀ (n k : Nat)  (nS : Nat → Int32) (nO : Nat → Int64) (nU : Nat → Int64) (ls : Array Slot) (H : Heap) (locs : List Loc), k + n = 16 → va_P D vwCl (wC cI cL a ((dI, dO, dG, dN, dT), (aN, aB), (nS, nP, nR, nG, nO, nU, nT), (tP, tR, tO, tN, tF, tZ), (mP, mN))) H → va_S A s.heap H locs → lv_has ls 3 [(2, .int (nI k)), (0, .ref (a 4)), (1, .int x)] → post  ((dI, dO, dG, dN, dT), (aN, aB), ((LNB_dropSilent nG x n k nS nO nU).1, nP, nR, nG, (LNB_dropSilent nG x n k nS nO nU).2.1, (LNB_dropSilent nG x n k nS nO nU).2.2, nT), (tP, tR, tO, tN, tF, tZ), (mP, mN)) → W p l e ({ frames := 2, cells := 0, slots := 0, locals := 44 }) s m args below meth c H locs 0 0 (MQ below (va_Qv post (gG D (tyC cI cL) (wC cI cL a)) A) args s 0 0 A) (F0 m 2 ls []) := by
  obtain ⟨hx, hb, hr, hml, hown, hts, hlocks⟩ := F
  intro n
  induction n with
  | zero =>
    intro k nS nO nU ls H locs hkn  hP hS hl hq
    refine lv_iload_n hx hb dNB_dropSilent_2 rfl (lv_at hl 0 rfl) ?_
    refine lv_bipush (v := nI 16) hx hb dNB_dropSilent_3 (by decide) ?_
    refine lv_icmp_ge (tgt := 41) hx hb dNB_dropSilent_5 (by decide) (fun _ => ?_) (fun c0 => absurd (nI_le (by omega) (by omega)) c0)
    have e1 : LNB_dropSilent nG x 0 k nS nO nU = (nS, nO, nU) := by simp only [LNB_dropSilent]
    rw [e1] at hq
    exact g_vret hx hb hr hK hP hS hq hlocks dNB_dropSilent_41
  | succ n ih =>
    intro k nS nO nU ls H locs hkn  hP hS hl hq
    refine lv_iload_n hx hb dNB_dropSilent_2 rfl (lv_at hl 0 rfl) ?_
    refine lv_bipush (v := nI 16) hx hb dNB_dropSilent_3 (by decide) ?_
    refine lv_icmp_ge (tgt := 41) hx hb dNB_dropSilent_5 (by decide) (fun c0 => absurd c0 (nI_ge (by omega) (by decide))) (fun _ => ?_)
    refine lv_aload_n hx hb dNB_dropSilent_8 rfl (lv_at hl 1 rfl) ?_
    refine va_get (D := D) (ci := 2) (v := .ref (a 5)) (C := RNB) (T := TNB) (N := 7) hx hb hts inNB hown hK hP 4 rfl rfl 0 (by decide) (hts _ k67) (fun _ h9 => h9) rfl dNB_dropSilent_9 ?_
    refine lv_iload_n hx hb dNB_dropSilent_12 rfl (lv_at hl 0 rfl) ?_
    refine ir_iald hx hb hK hP 5 0 rfl rfl (k := k) (by omega) (by decide) dNB_dropSilent_13 ?_
    refine lv_if_eq (tgt := 35) hx hb dNB_dropSilent_14 (by decide) (fun c3 => ?_) (fun c3 => ?_)
    · refine lv_iinc (v := nI (k + 1)) (lv' := [(2, .int (nI (k + 1))), (0, .ref (a 4)), (1, .int x)]) hx hb dNB_dropSilent_35 hl (k := 0) rfl (nI_1 k) (by decide) rfl (fun ls hl => ?_)
      refine lv_goto (tgt := 2) hx hb dNB_dropSilent_38 (by decide) ?_
      have e1 : LNB_dropSilent nG x (n + 1) k nS nO nU = LNB_dropSilent nG x n (k + 1) nS nO nU := by simp only [LNB_dropSilent, if_pos c3]
      rw [e1] at hq
      exact ih (k + 1) nS nO nU ls H locs (by omega)  hP hS (lv_sub hl [0, 1, 2] rfl) hq
    · refine lv_iload_n hx hb dNB_dropSilent_17 rfl (lv_at hl 2 rfl) ?_
      refine lv_aload_n hx hb dNB_dropSilent_18 rfl (lv_at hl 1 rfl) ?_
      refine va_get (D := D) (ci := 2) (v := .ref (a 8)) (C := RNB) (T := TNB) (N := 7) hx hb hts inNB hown hK hP 4 rfl rfl 3 (by decide) (hts _ k70) (fun _ h9 => h9) rfl dNB_dropSilent_19 ?_
      refine lv_iload_n hx hb dNB_dropSilent_22 rfl (lv_at hl 0 rfl) ?_
      refine ir_iald hx hb hK hP 8 0 rfl rfl (k := k) (by omega) (by decide) dNB_dropSilent_23 ?_
      refine lv_isub hx hb dNB_dropSilent_24 ?_
      refine lv_bipush (v := 80) hx hb dNB_dropSilent_25 (by decide) ?_
      refine lv_icmp_lt (tgt := 35) hx hb dNB_dropSilent_27 (by decide) (fun c4 => ?_) (fun c4 => ?_)
      · refine lv_iinc (v := nI (k + 1)) (lv' := [(2, .int (nI (k + 1))), (0, .ref (a 4)), (1, .int x)]) hx hb dNB_dropSilent_35 hl (k := 0) rfl (nI_1 k) (by decide) rfl (fun ls hl => ?_)
        refine lv_goto (tgt := 2) hx hb dNB_dropSilent_38 (by decide) ?_
        have e1 : LNB_dropSilent nG x (n + 1) k nS nO nU = LNB_dropSilent nG x n (k + 1) nS nO nU := by simp only [LNB_dropSilent, if_neg c3, if_pos c4]
        rw [e1] at hq
        exact ih (k + 1) nS nO nU ls H locs (by omega)  hP hS (lv_sub hl [0, 1, 2] rfl) hq
      · refine lv_aload_n hx hb dNB_dropSilent_30 rfl (lv_at hl 1 rfl) ?_
        refine lv_iload_n hx hb dNB_dropSilent_31 rfl (lv_at hl 0 rfl) ?_
        refine g_callVv (As := [.int (nI k)]) (rest := []) ⟨hx, hb, hml, hown, hts⟩ (c_NB_drop l hA dI dO dG dN dT aN aB nS nP nR nG nO nU nT tP tR tO tN tF tZ mP mN k (by first | omega | assumption)) (cwV 1 hts (gw_V k363 k365 k8 k29 k366) rfl rfl rfl (by decide +kernel) ⟨Nat.le_of_ble_eq_true rfl, Nat.le_of_ble_eq_true rfl⟩) hK hP (va_recv hK hP (ci := 2) (q0 := 4) rfl rfl) rfl hl.1 rfl (Nat.le_of_ble_eq_true rfl) dNB_dropSilent_32 ⟨Nat.zero_le _, Nat.zero_le _⟩ (fun q h => h) hS (fun H locs hP hS => ?_)
        have hP : va_P D vwCl (wC cI cL a ((dI, dO, dG, dN, dT), (aN, aB), (upd nS k 0, nP, nR, nG, vp_updL nO k 0, vp_updL nU k 0, nT), (tP, tR, tO, tN, tF, tZ), (mP, mN))) H := hP
        refine lv_iinc (v := nI (k + 1)) (lv' := [(2, .int (nI (k + 1))), (0, .ref (a 4)), (1, .int x)]) hx hb dNB_dropSilent_35 hl (k := 0) rfl (nI_1 k) (by decide) rfl (fun ls hl => ?_)
        refine lv_goto (tgt := 2) hx hb dNB_dropSilent_38 (by decide) ?_
        have e1 : LNB_dropSilent nG x (n + 1) k nS nO nU = LNB_dropSilent nG x n (k + 1) (upd nS k 0) (vp_updL nO k 0) (vp_updL nU k 0) := by simp only [LNB_dropSilent, if_neg c3, if_neg c4]
        rw [e1] at hq
        exact ih (k + 1) (upd nS k 0) (vp_updL nO k 0) (vp_updL nU k 0) ls H locs (by omega)  hP hS (lv_sub hl [0, 1, 2] rfl) hq
set_option maxHeartbeats 4000000 in
set_option maxRecDepth 100000 in
theorem c_NB_dropSilent (l : Launch) {D : va_G} {cI cL : ClassId} {a : Nat → Nat} {A : Nat → Prop} (hA : ∀ v : CS, va_D A (wC cI cL a v)) (dI : Nat) (dO dG dN dT : Int32) (aN aB : Nat → Int32) (nS nP nR nG : Nat → Int32) (nO nU : Nat → Int64) (nT : Nat → Int32) (tP tR tO tN : Nat → Int32) (tF tZ : Nat) (mP : Nat → Int32) (mN : Int64) (x : Int32)  : Met l yNB_dropSilent wsNB_dropSilent ({ frames := 2, cells := 0, slots := 0, locals := 44 }) (va_Pc [.ref (a 4), .int x] (gG D (tyC cI cL) (wC cI cL a) ((dI, dO, dG, dN, dT), (aN, aB), (nS, nP, nR, nG, nO, nU, nT), (tP, tR, tO, tN, tF, tZ), (mP, mN)))) (va_Qv (fun u : CS => u = ((dI, dO, dG, dN, dT), (aN, aB), ((LNB_dropSilent nG x 16 0 nS nO nU).1, nP, nR, nG, (LNB_dropSilent nG x 16 0 nS nO nU).2.1, (LNB_dropSilent nG x 16 0 nS nO nU).2.2, nT), (tP, tR, tO, tN, tF, tZ), (mP, mN))) (gG D (tyC cI cL) (wC cI cL a)) A) 0 0 A := by
  refine g_enter (by decide) rfl (Nat.le_of_ble_eq_true rfl) ?_
  intro p e s m below meth c ls F hK hP hl
  obtain ⟨hx, hb, hr, hml, hown, hts, hlocks⟩ := id F
  have hS : va_S A s.heap s.heap [] := va_S.rf
  have hl : lv_has ls 3 [(0, .ref (a 4)), (1, .int x)] := hl
  refine lv_iconst (v := nI 0) hx hb dNB_dropSilent_0 (by decide) ?_
  refine lv_istore_n (lv' := [(2, .int (nI 0)), (0, .ref (a 4)), (1, .int x)]) hx hb dNB_dropSilent_1 rfl hl (by decide) rfl (fun ls hl => ?_)
  exact lpNB_dropSilent hA F hK  _ 16 0 nS nO nU ls _ _ rfl  hP hS (lv_sub hl [0, 1, 2] rfl) rfl
set_option maxHeartbeats 4000000 in
set_option maxRecDepth 100000 in
theorem c_NB_owe (l : Launch) {D : va_G} {cI cL : ClassId} {a : Nat → Nat} {A : Nat → Prop} (hA : ∀ v : CS, va_D A (wC cI cL a v)) (dI : Nat) (dO dG dN dT : Int32) (aN aB : Nat → Int32) (nS nP nR nG : Nat → Int32) (nO nU : Nat → Int64) (nT : Nat → Int32) (tP tR tO tN : Nat → Int32) (tF tZ : Nat) (mP : Nat → Int32) (mN : Int64) (j : Nat) (o : Nat) (hj : j < 16) (ho : o < 64) : Met l yNB_owe wsNB_owe ({ frames := 0, cells := 0, slots := 0, locals := 0 }) (va_Pc [.ref (a 4), .int (nI j), .int (nI o)] (gG D (tyC cI cL) (wC cI cL a) ((dI, dO, dG, dN, dT), (aN, aB), (nS, nP, nR, nG, nO, nU, nT), (tP, tR, tO, tN, tF, tZ), (mP, mN)))) (va_Qv (fun u : CS => u = ((dI, dO, dG, dN, dT), (aN, aB), (nS, nP, nR, nG, vp_updL nO j ((nO j) ||| (bL o)), vp_updL nU j ((nU j) ||| (bL o)), nT), (tP, tR, tO, tN, tF, tZ), (mP, mN))) (gG D (tyC cI cL) (wC cI cL a)) A) 0 0 A := by
  refine g_enter (by decide) rfl (Nat.le_of_ble_eq_true rfl) ?_
  intro p e s m below meth c ls F hK hP hl
  obtain ⟨hx, hb, hr, hml, hown, hts, hlocks⟩ := id F
  have hS : va_S A s.heap s.heap [] := va_S.rf
  have hl : lv_has ls 3 [(0, .ref (a 4)), (1, .int (nI j)), (2, .int (nI o))] := hl
  refine lv_aload_n hx hb dNB_owe_0 rfl (lv_at hl 0 rfl) ?_
  refine va_get (D := D) (ci := 2) (v := .ref (a 9)) (C := RNB) (T := TNB) (N := 7) hx hb hts inNB hown hK hP 4 rfl rfl 4 (by decide) (hts _ k71) (fun _ h9 => h9) rfl dNB_owe_1 ?_
  refine lv_iload_n hx hb dNB_owe_4 rfl (lv_at hl 1 rfl) ?_
  refine lv_dup2_11 hx hb dNB_owe_5 rfl rfl ?_
  refine ir_lald hx hb hK hP 9 1 rfl rfl (k := j) (by omega) (by decide) dNB_owe_6 ?_
  refine lv_lconst (v := 1) hx hb dNB_owe_7 (by decide) ?_
  refine lv_iload_n hx hb dNB_owe_8 rfl (lv_at hl 2 rfl) ?_
  refine lv_lshl (v := bL o) hx hb dNB_owe_9 rfl ?_
  refine lv_lor hx hb dNB_owe_10 ?_
  refine ir_last hx hb hK hP (hA _) hS 9 1 rfl rfl (k := j) (by omega) (by decide) dNB_owe_11 (fun H locs hP hS => ?_)
  have hP : va_P D vwCl (wC cI cL a ((dI, dO, dG, dN, dT), (aN, aB), (nS, nP, nR, nG, vp_updL nO j ((nO j) ||| (bL o)), nU, nT), (tP, tR, tO, tN, tF, tZ), (mP, mN))) H := hP
  refine lv_aload_n hx hb dNB_owe_12 rfl (lv_at hl 0 rfl) ?_
  refine va_get (D := D) (ci := 2) (v := .ref (a 10)) (C := RNB) (T := TNB) (N := 7) hx hb hts inNB hown hK hP 4 rfl rfl 5 (by decide) (hts _ k72) (fun _ h9 => h9) rfl dNB_owe_13 ?_
  refine lv_iload_n hx hb dNB_owe_16 rfl (lv_at hl 1 rfl) ?_
  refine lv_dup2_11 hx hb dNB_owe_17 rfl rfl ?_
  refine ir_lald hx hb hK hP 10 1 rfl rfl (k := j) (by omega) (by decide) dNB_owe_18 ?_
  refine lv_lconst (v := 1) hx hb dNB_owe_19 (by decide) ?_
  refine lv_iload_n hx hb dNB_owe_20 rfl (lv_at hl 2 rfl) ?_
  refine lv_lshl (v := bL o) hx hb dNB_owe_21 rfl ?_
  refine lv_lor hx hb dNB_owe_22 ?_
  refine ir_last hx hb hK hP (hA _) hS 10 1 rfl rfl (k := j) (by omega) (by decide) dNB_owe_23 (fun H locs hP hS => ?_)
  have hP : va_P D vwCl (wC cI cL a ((dI, dO, dG, dN, dT), (aN, aB), (nS, nP, nR, nG, vp_updL nO j ((nO j) ||| (bL o)), vp_updL nU j ((nU j) ||| (bL o)), nT), (tP, tR, tO, tN, tF, tZ), (mP, mN))) H := hP
  exact g_vret (v := ((dI, dO, dG, dN, dT), (aN, aB), (nS, nP, nR, nG, vp_updL nO j ((nO j) ||| (bL o)), vp_updL nU j ((nU j) ||| (bL o)), nT), (tP, tR, tO, tN, tF, tZ), (mP, mN))) hx hb hr hK hP hS (rfl) hlocks dNB_owe_24
def LNB_oweToFriendsBut (nS : Nat → Int32) (q : Option Nat) (o : Nat) : Nat → Nat → (Nat → Int64) → (Nat → Int64) → (Nat → Int64) × (Nat → Int64)
  | 0, k, nO, nU => (nO, nU)
  | n + 1, k, nO, nU => (if (nS k) = 2 then (if (nI k) = (oi q) then LNB_oweToFriendsBut nS q o n (k + 1) nO nU else LNB_oweToFriendsBut nS q o n (k + 1) (vp_updL nO k ((nO k) ||| (bL o))) (vp_updL nU k ((nU k) ||| (bL o)))) else LNB_oweToFriendsBut nS q o n (k + 1) nO nU)
set_option maxHeartbeats 4000000 in
set_option maxRecDepth 100000 in
theorem lpNB_oweToFriendsBut {p : Program} {l : Launch} {e : Env} {s : State} {m : MethodId} {args : Array Value} {below : List Frame} {meth : Method} {c : Code} {D : va_G} {cI cL : ClassId} {a : Nat → Nat} {A : Nat → Prop} (hA : ∀ v : CS, va_D A (wC cI cL a v)) (F : gFix p c cNB_oweToFriendsBut meth (none) m s args bigW RNB 4) (hK : va_K D vwCl (tyC cI cL) s) {dI : Nat} {dO : Int32} {dG : Int32} {dN : Int32} {dT : Int32} {aN : Nat → Int32} {aB : Nat → Int32} {nS : Nat → Int32} {nP : Nat → Int32} {nR : Nat → Int32} {nG : Nat → Int32} {nT : Nat → Int32} {tP : Nat → Int32} {tR : Nat → Int32} {tO : Nat → Int32} {tN : Nat → Int32} {tF : Nat} {tZ : Nat} {mP : Nat → Int32} {mN : Int64} {q : Option Nat} {o : Nat} (ho : o < 64) (post : CS → Prop) : ∀ (n k : Nat)  (nO : Nat → Int64) (nU : Nat → Int64) (ls : Array Slot) (H : Heap) (locs : List Loc), k + n = 16 → va_P D vwCl (wC cI cL a ((dI, dO, dG, dN, dT), (aN, aB), (nS, nP, nR, nG, nO, nU, nT), (tP, tR, tO, tN, tF, tZ), (mP, mN))) H → va_S A s.heap H locs → lv_has ls 4 [(3, .int (nI k)), (0, .ref (a 4)), (1, .int (oi q)), (2, .int (nI o))] → post  ((dI, dO, dG, dN, dT), (aN, aB), (nS, nP, nR, nG, (LNB_oweToFriendsBut nS q o n k nO nU).1, (LNB_oweToFriendsBut nS q o n k nO nU).2, nT), (tP, tR, tO, tN, tF, tZ), (mP, mN)) → W p l e ({ frames := 1, cells := 0, slots := 0, locals := 22 }) s m args below meth c H locs 0 0 (MQ below (va_Qv post (gG D (tyC cI cL) (wC cI cL a)) A) args s 0 0 A) (F0 m 2 ls []) := by
  obtain ⟨hx, hb, hr, hml, hown, hts, hlocks⟩ := F
  intro n
  induction n with
  | zero =>
    intro k nO nU ls H locs hkn  hP hS hl hq
    refine lv_iload_n hx hb dNB_oweToFriendsBut_2 rfl (lv_at hl 0 rfl) ?_
    refine lv_bipush (v := nI 16) hx hb dNB_oweToFriendsBut_3 (by decide) ?_
    refine lv_icmp_ge (tgt := 35) hx hb dNB_oweToFriendsBut_5 (by decide) (fun _ => ?_) (fun c0 => absurd (nI_le (by omega) (by omega)) c0)
    have e1 : LNB_oweToFriendsBut nS q o 0 k nO nU = (nO, nU) := by simp only [LNB_oweToFriendsBut]
    rw [e1] at hq
    exact g_vret hx hb hr hK hP hS hq hlocks dNB_oweToFriendsBut_35
  | succ n ih =>
    intro k nO nU ls H locs hkn  hP hS hl hq
    refine lv_iload_n hx hb dNB_oweToFriendsBut_2 rfl (lv_at hl 0 rfl) ?_
    refine lv_bipush (v := nI 16) hx hb dNB_oweToFriendsBut_3 (by decide) ?_
    refine lv_icmp_ge (tgt := 35) hx hb dNB_oweToFriendsBut_5 (by decide) (fun c0 => absurd c0 (nI_ge (by omega) (by decide))) (fun _ => ?_)
    refine lv_aload_n hx hb dNB_oweToFriendsBut_8 rfl (lv_at hl 1 rfl) ?_
    refine va_get (D := D) (ci := 2) (v := .ref (a 5)) (C := RNB) (T := TNB) (N := 7) hx hb hts inNB hown hK hP 4 rfl rfl 0 (by decide) (hts _ k67) (fun _ h9 => h9) rfl dNB_oweToFriendsBut_9 ?_
    refine lv_iload_n hx hb dNB_oweToFriendsBut_12 rfl (lv_at hl 0 rfl) ?_
    refine ir_iald hx hb hK hP 5 0 rfl rfl (k := k) (by omega) (by decide) dNB_oweToFriendsBut_13 ?_
    refine lv_iconst (v := 2) hx hb dNB_oweToFriendsBut_14 (by decide) ?_
    refine lv_icmp_ne (tgt := 29) hx hb dNB_oweToFriendsBut_15 (by decide) (fun c3 => ?_) (fun c3 => ?_)
    · refine lv_iinc (v := nI (k + 1)) (lv' := [(3, .int (nI (k + 1))), (0, .ref (a 4)), (1, .int (oi q)), (2, .int (nI o))]) hx hb dNB_oweToFriendsBut_29 hl (k := 0) rfl (nI_1 k) (by decide) rfl (fun ls hl => ?_)
      refine lv_goto (tgt := 2) hx hb dNB_oweToFriendsBut_32 (by decide) ?_
      have e1 : LNB_oweToFriendsBut nS q o (n + 1) k nO nU = LNB_oweToFriendsBut nS q o n (k + 1) nO nU := by simp only [LNB_oweToFriendsBut, if_neg c3]
      rw [e1] at hq
      exact ih (k + 1) nO nU ls H locs (by omega)  hP hS (lv_sub hl [0, 1, 2, 3] rfl) hq
    · refine lv_iload_n hx hb dNB_oweToFriendsBut_18 rfl (lv_at hl 0 rfl) ?_
      refine lv_iload_n hx hb dNB_oweToFriendsBut_19 rfl (lv_at hl 2 rfl) ?_
      refine lv_icmp_eq (tgt := 29) hx hb dNB_oweToFriendsBut_20 (by decide) (fun c4 => ?_) (fun c4 => ?_)
      · refine lv_iinc (v := nI (k + 1)) (lv' := [(3, .int (nI (k + 1))), (0, .ref (a 4)), (1, .int (oi q)), (2, .int (nI o))]) hx hb dNB_oweToFriendsBut_29 hl (k := 0) rfl (nI_1 k) (by decide) rfl (fun ls hl => ?_)
        refine lv_goto (tgt := 2) hx hb dNB_oweToFriendsBut_32 (by decide) ?_
        have e1 : LNB_oweToFriendsBut nS q o (n + 1) k nO nU = LNB_oweToFriendsBut nS q o n (k + 1) nO nU := by simp only [LNB_oweToFriendsBut, if_pos c3, if_pos c4]
        rw [e1] at hq
        exact ih (k + 1) nO nU ls H locs (by omega)  hP hS (lv_sub hl [0, 1, 2, 3] rfl) hq
      · refine lv_aload_n hx hb dNB_oweToFriendsBut_23 rfl (lv_at hl 1 rfl) ?_
        refine lv_iload_n hx hb dNB_oweToFriendsBut_24 rfl (lv_at hl 0 rfl) ?_
        refine lv_iload_n hx hb dNB_oweToFriendsBut_25 rfl (lv_at hl 3 rfl) ?_
        refine g_callVv (As := [.int (nI k), .int (nI o)]) (rest := []) ⟨hx, hb, hml, hown, hts⟩ (c_NB_owe l hA dI dO dG dN dT aN aB nS nP nR nG nO nU nT tP tR tO tN tF tZ mP mN k o (by first | omega | assumption) (by first | omega | assumption)) (cwV 2 hts (gw_V k168 k169 k170 k29 k171) rfl rfl rfl (by decide +kernel) ⟨Nat.le_of_ble_eq_true rfl, Nat.le_of_ble_eq_true rfl⟩) hK hP (va_recv hK hP (ci := 2) (q0 := 4) rfl rfl) rfl hl.1 rfl (Nat.le_of_ble_eq_true rfl) dNB_oweToFriendsBut_26 ⟨Nat.zero_le _, Nat.zero_le _⟩ (fun q h => h) hS (fun H locs hP hS => ?_)
        have hP : va_P D vwCl (wC cI cL a ((dI, dO, dG, dN, dT), (aN, aB), (nS, nP, nR, nG, vp_updL nO k ((nO k) ||| (bL o)), vp_updL nU k ((nU k) ||| (bL o)), nT), (tP, tR, tO, tN, tF, tZ), (mP, mN))) H := hP
        refine lv_iinc (v := nI (k + 1)) (lv' := [(3, .int (nI (k + 1))), (0, .ref (a 4)), (1, .int (oi q)), (2, .int (nI o))]) hx hb dNB_oweToFriendsBut_29 hl (k := 0) rfl (nI_1 k) (by decide) rfl (fun ls hl => ?_)
        refine lv_goto (tgt := 2) hx hb dNB_oweToFriendsBut_32 (by decide) ?_
        have e1 : LNB_oweToFriendsBut nS q o (n + 1) k nO nU = LNB_oweToFriendsBut nS q o n (k + 1) (vp_updL nO k ((nO k) ||| (bL o))) (vp_updL nU k ((nU k) ||| (bL o))) := by simp only [LNB_oweToFriendsBut, if_pos c3, if_neg c4]
        rw [e1] at hq
        exact ih (k + 1) (vp_updL nO k ((nO k) ||| (bL o))) (vp_updL nU k ((nU k) ||| (bL o))) ls H locs (by omega)  hP hS (lv_sub hl [0, 1, 2, 3] rfl) hq
set_option maxHeartbeats 4000000 in
set_option maxRecDepth 100000 in
theorem c_NB_oweToFriendsBut (l : Launch) {D : va_G} {cI cL : ClassId} {a : Nat → Nat} {A : Nat → Prop} (hA : ∀ v : CS, va_D A (wC cI cL a v)) (dI : Nat) (dO dG dN dT : Int32) (aN aB : Nat → Int32) (nS nP nR nG : Nat → Int32) (nO nU : Nat → Int64) (nT : Nat → Int32) (tP tR tO tN : Nat → Int32) (tF tZ : Nat) (mP : Nat → Int32) (mN : Int64) (q : Option Nat) (o : Nat) (ho : o < 64) : Met l yNB_oweToFriendsBut wsNB_oweToFriendsBut ({ frames := 1, cells := 0, slots := 0, locals := 22 }) (va_Pc [.ref (a 4), .int (oi q), .int (nI o)] (gG D (tyC cI cL) (wC cI cL a) ((dI, dO, dG, dN, dT), (aN, aB), (nS, nP, nR, nG, nO, nU, nT), (tP, tR, tO, tN, tF, tZ), (mP, mN)))) (va_Qv (fun u : CS => u = ((dI, dO, dG, dN, dT), (aN, aB), (nS, nP, nR, nG, (LNB_oweToFriendsBut nS q o 16 0 nO nU).1, (LNB_oweToFriendsBut nS q o 16 0 nO nU).2, nT), (tP, tR, tO, tN, tF, tZ), (mP, mN))) (gG D (tyC cI cL) (wC cI cL a)) A) 0 0 A := by
  refine g_enter (by decide) rfl (Nat.le_of_ble_eq_true rfl) ?_
  intro p e s m below meth c ls F hK hP hl
  obtain ⟨hx, hb, hr, hml, hown, hts, hlocks⟩ := id F
  have hS : va_S A s.heap s.heap [] := va_S.rf
  have hl : lv_has ls 4 [(0, .ref (a 4)), (1, .int (oi q)), (2, .int (nI o))] := hl
  refine lv_iconst (v := nI 0) hx hb dNB_oweToFriendsBut_0 (by decide) ?_
  refine lv_istore_n (lv' := [(3, .int (nI 0)), (0, .ref (a 4)), (1, .int (oi q)), (2, .int (nI o))]) hx hb dNB_oweToFriendsBut_1 rfl hl (by decide) rfl (fun ls hl => ?_)
  exact lpNB_oweToFriendsBut hA F hK ho _ 16 0 nO nU ls _ _ rfl  hP hS (lv_sub hl [0, 1, 2, 3] rfl) rfl
def fNB_settle (nO : Nat → Int64) (j : Nat) (o : Nat) : Bool := (if ((nO j) &&& (bL o)) = 0 then false else true)
set_option maxHeartbeats 4000000 in
set_option maxRecDepth 100000 in
theorem c_NB_settle (l : Launch) {D : va_G} {cI cL : ClassId} {a : Nat → Nat} {A : Nat → Prop} (hA : ∀ v : CS, va_D A (wC cI cL a v)) (dI : Nat) (dO dG dN dT : Int32) (aN aB : Nat → Int32) (nS nP nR nG : Nat → Int32) (nO nU : Nat → Int64) (nT : Nat → Int32) (tP tR tO tN : Nat → Int32) (tF tZ : Nat) (mP : Nat → Int32) (mN : Int64) (j : Nat) (o : Nat) (hj : j < 16) (ho : o < 64) : Met l yNB_settle wsNB_settle ({ frames := 0, cells := 0, slots := 0, locals := 0 }) (va_Pc [.ref (a 4), .int (nI j), .int (nI o)] (gG D (tyC cI cL) (wC cI cL a) ((dI, dO, dG, dN, dT), (aN, aB), (nS, nP, nR, nG, nO, nU, nT), (tP, tR, tO, tN, tF, tZ), (mP, mN)))) (va_Qi (fun (r : Int32) (u : CS) => r = bi (fNB_settle nO j o) ∧ u = ((dI, dO, dG, dN, dT), (aN, aB), (nS, nP, nR, nG, vp_updL nO j ((nO j) &&& ((bL o) ^^^ (-1))), vp_updL nU j ((nU j) &&& ((bL o) ^^^ (-1))), nT), (tP, tR, tO, tN, tF, tZ), (mP, mN))) (gG D (tyC cI cL) (wC cI cL a)) A) 0 0 A := by
  refine g_enter (by decide) rfl (Nat.le_of_ble_eq_true rfl) ?_
  intro p e s m below meth c ls F hK hP hl
  obtain ⟨hx, hb, hr, hml, hown, hts, hlocks⟩ := id F
  have hS : va_S A s.heap s.heap [] := va_S.rf
  have hl : lv_has ls 6 [(0, .ref (a 4)), (1, .int (nI j)), (2, .int (nI o))] := hl
  refine lv_lconst (v := 1) hx hb dNB_settle_0 (by decide) ?_
  refine lv_iload_n hx hb dNB_settle_1 rfl (lv_at hl 2 rfl) ?_
  refine lv_lshl (v := bL o) hx hb dNB_settle_2 rfl ?_
  refine lv_lstore_n (lv' := [(3, .long (bL o)), (0, .ref (a 4)), (1, .int (nI j)), (2, .int (nI o))]) hx hb dNB_settle_3 rfl hl (by decide) rfl (fun ls hl => ?_)
  refine lv_aload_n hx hb dNB_settle_4 rfl (lv_at hl 1 rfl) ?_
  refine va_get (D := D) (ci := 2) (v := .ref (a 9)) (C := RNB) (T := TNB) (N := 7) hx hb hts inNB hown hK hP 4 rfl rfl 4 (by decide) (hts _ k71) (fun _ h9 => h9) rfl dNB_settle_5 ?_
  refine lv_iload_n hx hb dNB_settle_8 rfl (lv_at hl 2 rfl) ?_
  refine ir_lald hx hb hK hP 9 1 rfl rfl (k := j) (by omega) (by decide) dNB_settle_9 ?_
  refine lv_lload_n hx hb dNB_settle_10 rfl (lv_at hl 0 rfl) ?_
  refine lv_land hx hb dNB_settle_11 ?_
  refine lv_lconst (v := 0) hx hb dNB_settle_12 (by decide) ?_
  refine lv_lif_eq (tgt := 21) hx hb dNB_settle_13 dNB_settle_14 (by decide) (fun c1 => ?_) (fun c1 => ?_)
  · refine lv_iconst (v := bi false) hx hb dNB_settle_21 (by decide) ?_
    refine lv_istore (lv' := [(5, .int (bi false)), (3, .long (bL o)), (0, .ref (a 4)), (1, .int (nI j)), (2, .int (nI o))]) hx hb dNB_settle_22 hl (by decide) rfl (fun ls hl => ?_)
    refine lv_aload_n hx hb dNB_settle_24 rfl (lv_at hl 2 rfl) ?_
    refine va_get (D := D) (ci := 2) (v := .ref (a 9)) (C := RNB) (T := TNB) (N := 7) hx hb hts inNB hown hK hP 4 rfl rfl 4 (by decide) (hts _ k71) (fun _ h9 => h9) rfl dNB_settle_25 ?_
    refine lv_iload_n hx hb dNB_settle_28 rfl (lv_at hl 3 rfl) ?_
    refine lv_dup2_11 hx hb dNB_settle_29 rfl rfl ?_
    refine ir_lald hx hb hK hP 9 1 rfl rfl (k := j) (by omega) (by decide) dNB_settle_30 ?_
    refine lv_lload_n hx hb dNB_settle_31 rfl (lv_at hl 1 rfl) ?_
    refine lv_ldc2 (v := (-1)) hx hb hown (hts _ k233) dNB_settle_32 ?_
    refine lv_lxor hx hb dNB_settle_35 ?_
    refine lv_land hx hb dNB_settle_36 ?_
    refine ir_last hx hb hK hP (hA _) hS 9 1 rfl rfl (k := j) (by omega) (by decide) dNB_settle_37 (fun H locs hP hS => ?_)
    have hP : va_P D vwCl (wC cI cL a ((dI, dO, dG, dN, dT), (aN, aB), (nS, nP, nR, nG, vp_updL nO j ((nO j) &&& ((bL o) ^^^ (-1))), nU, nT), (tP, tR, tO, tN, tF, tZ), (mP, mN))) H := hP
    refine lv_aload_n hx hb dNB_settle_38 rfl (lv_at hl 2 rfl) ?_
    refine va_get (D := D) (ci := 2) (v := .ref (a 10)) (C := RNB) (T := TNB) (N := 7) hx hb hts inNB hown hK hP 4 rfl rfl 5 (by decide) (hts _ k72) (fun _ h9 => h9) rfl dNB_settle_39 ?_
    refine lv_iload_n hx hb dNB_settle_42 rfl (lv_at hl 3 rfl) ?_
    refine lv_dup2_11 hx hb dNB_settle_43 rfl rfl ?_
    refine ir_lald hx hb hK hP 10 1 rfl rfl (k := j) (by omega) (by decide) dNB_settle_44 ?_
    refine lv_lload_n hx hb dNB_settle_45 rfl (lv_at hl 1 rfl) ?_
    refine lv_ldc2 (v := (-1)) hx hb hown (hts _ k233) dNB_settle_46 ?_
    refine lv_lxor hx hb dNB_settle_49 ?_
    refine lv_land hx hb dNB_settle_50 ?_
    refine ir_last hx hb hK hP (hA _) hS 10 1 rfl rfl (k := j) (by omega) (by decide) dNB_settle_51 (fun H locs hP hS => ?_)
    have hP : va_P D vwCl (wC cI cL a ((dI, dO, dG, dN, dT), (aN, aB), (nS, nP, nR, nG, vp_updL nO j ((nO j) &&& ((bL o) ^^^ (-1))), vp_updL nU j ((nU j) &&& ((bL o) ^^^ (-1))), nT), (tP, tR, tO, tN, tF, tZ), (mP, mN))) H := hP
    refine lv_iload hx hb dNB_settle_52 (lv_at hl 0 rfl) ?_
    have e1 : fNB_settle nO j o = false := by simp only [fNB_settle, if_pos c1]
    exact g_zret (v := ((dI, dO, dG, dN, dT), (aN, aB), (nS, nP, nR, nG, vp_updL nO j ((nO j) &&& ((bL o) ^^^ (-1))), vp_updL nU j ((nU j) &&& ((bL o) ^^^ (-1))), nT), (tP, tR, tO, tN, tF, tZ), (mP, mN))) hx hb hr hK hP hS ⟨by first | rfl | (rw [e1] <;> rfl), by first | rfl | (rw [e1] <;> rfl)⟩ hlocks dNB_settle_54
  · refine lv_iconst (v := bi true) hx hb dNB_settle_17 (by decide) ?_
    refine lv_goto (tgt := 22) hx hb dNB_settle_18 (by decide) ?_
    refine lv_istore (lv' := [(5, .int (bi true)), (3, .long (bL o)), (0, .ref (a 4)), (1, .int (nI j)), (2, .int (nI o))]) hx hb dNB_settle_22 hl (by decide) rfl (fun ls hl => ?_)
    refine lv_aload_n hx hb dNB_settle_24 rfl (lv_at hl 2 rfl) ?_
    refine va_get (D := D) (ci := 2) (v := .ref (a 9)) (C := RNB) (T := TNB) (N := 7) hx hb hts inNB hown hK hP 4 rfl rfl 4 (by decide) (hts _ k71) (fun _ h9 => h9) rfl dNB_settle_25 ?_
    refine lv_iload_n hx hb dNB_settle_28 rfl (lv_at hl 3 rfl) ?_
    refine lv_dup2_11 hx hb dNB_settle_29 rfl rfl ?_
    refine ir_lald hx hb hK hP 9 1 rfl rfl (k := j) (by omega) (by decide) dNB_settle_30 ?_
    refine lv_lload_n hx hb dNB_settle_31 rfl (lv_at hl 1 rfl) ?_
    refine lv_ldc2 (v := (-1)) hx hb hown (hts _ k233) dNB_settle_32 ?_
    refine lv_lxor hx hb dNB_settle_35 ?_
    refine lv_land hx hb dNB_settle_36 ?_
    refine ir_last hx hb hK hP (hA _) hS 9 1 rfl rfl (k := j) (by omega) (by decide) dNB_settle_37 (fun H locs hP hS => ?_)
    have hP : va_P D vwCl (wC cI cL a ((dI, dO, dG, dN, dT), (aN, aB), (nS, nP, nR, nG, vp_updL nO j ((nO j) &&& ((bL o) ^^^ (-1))), nU, nT), (tP, tR, tO, tN, tF, tZ), (mP, mN))) H := hP
    refine lv_aload_n hx hb dNB_settle_38 rfl (lv_at hl 2 rfl) ?_
    refine va_get (D := D) (ci := 2) (v := .ref (a 10)) (C := RNB) (T := TNB) (N := 7) hx hb hts inNB hown hK hP 4 rfl rfl 5 (by decide) (hts _ k72) (fun _ h9 => h9) rfl dNB_settle_39 ?_
    refine lv_iload_n hx hb dNB_settle_42 rfl (lv_at hl 3 rfl) ?_
    refine lv_dup2_11 hx hb dNB_settle_43 rfl rfl ?_
    refine ir_lald hx hb hK hP 10 1 rfl rfl (k := j) (by omega) (by decide) dNB_settle_44 ?_
    refine lv_lload_n hx hb dNB_settle_45 rfl (lv_at hl 1 rfl) ?_
    refine lv_ldc2 (v := (-1)) hx hb hown (hts _ k233) dNB_settle_46 ?_
    refine lv_lxor hx hb dNB_settle_49 ?_
    refine lv_land hx hb dNB_settle_50 ?_
    refine ir_last hx hb hK hP (hA _) hS 10 1 rfl rfl (k := j) (by omega) (by decide) dNB_settle_51 (fun H locs hP hS => ?_)
    have hP : va_P D vwCl (wC cI cL a ((dI, dO, dG, dN, dT), (aN, aB), (nS, nP, nR, nG, vp_updL nO j ((nO j) &&& ((bL o) ^^^ (-1))), vp_updL nU j ((nU j) &&& ((bL o) ^^^ (-1))), nT), (tP, tR, tO, tN, tF, tZ), (mP, mN))) H := hP
    refine lv_iload hx hb dNB_settle_52 (lv_at hl 0 rfl) ?_
    have e1 : fNB_settle nO j o = true := by simp only [fNB_settle, if_neg c1]
    exact g_zret (v := ((dI, dO, dG, dN, dT), (aN, aB), (nS, nP, nR, nG, vp_updL nO j ((nO j) &&& ((bL o) ^^^ (-1))), vp_updL nU j ((nU j) &&& ((bL o) ^^^ (-1))), nT), (tP, tR, tO, tN, tF, tZ), (mP, mN))) hx hb hr hK hP hS ⟨by first | rfl | (rw [e1] <;> rfl), by first | rfl | (rw [e1] <;> rfl)⟩ hlocks dNB_settle_54
def LNB_settleAll (o : Nat) : Nat → Nat → (Nat → Int64) → (Nat → Int64) → (Nat → Int64) × (Nat → Int64)
  | 0, k, nO, nU => (nO, nU)
  | n + 1, k, nO, nU => LNB_settleAll o n (k + 1) (vp_updL nO k ((nO k) &&& ((bL o) ^^^ (-1)))) (vp_updL nU k ((nU k) &&& ((bL o) ^^^ (-1))))
set_option maxHeartbeats 4000000 in
set_option maxRecDepth 100000 in
theorem lpNB_settleAll {p : Program} {l : Launch} {e : Env} {s : State} {m : MethodId} {args : Array Value} {below : List Frame} {meth : Method} {c : Code} {D : va_G} {cI cL : ClassId} {a : Nat → Nat} {A : Nat → Prop} (hA : ∀ v : CS, va_D A (wC cI cL a v)) (F : gFix p c cNB_settleAll meth (none) m s args bigW RNB 3) (hK : va_K D vwCl (tyC cI cL) s) {dI : Nat} {dO : Int32} {dG : Int32} {dN : Int32} {dT : Int32} {aN : Nat → Int32} {aB : Nat → Int32} {nS : Nat → Int32} {nP : Nat → Int32} {nR : Nat → Int32} {nG : Nat → Int32} {nT : Nat → Int32} {tP : Nat → Int32} {tR : Nat → Int32} {tO : Nat → Int32} {tN : Nat → Int32} {tF : Nat} {tZ : Nat} {mP : Nat → Int32} {mN : Int64} {o : Nat} (ho : o < 64) (post : CS → Prop) : ∀ (n k : Nat)  (nO : Nat → Int64) (nU : Nat → Int64) (ls : Array Slot) (H : Heap) (locs : List Loc), k + n = 16 → va_P D vwCl (wC cI cL a ((dI, dO, dG, dN, dT), (aN, aB), (nS, nP, nR, nG, nO, nU, nT), (tP, tR, tO, tN, tF, tZ), (mP, mN))) H → va_S A s.heap H locs → lv_has ls 3 [(2, .int (nI k)), (0, .ref (a 4)), (1, .int (nI o))] → post  ((dI, dO, dG, dN, dT), (aN, aB), (nS, nP, nR, nG, (LNB_settleAll o n k nO nU).1, (LNB_settleAll o n k nO nU).2, nT), (tP, tR, tO, tN, tF, tZ), (mP, mN)) → W p l e ({ frames := 1, cells := 0, slots := 0, locals := 25 }) s m args below meth c H locs 0 0 (MQ below (va_Qv post (gG D (tyC cI cL) (wC cI cL a)) A) args s 0 0 A) (F0 m 2 ls []) := by
  obtain ⟨hx, hb, hr, hml, hown, hts, hlocks⟩ := F
  intro n
  induction n with
  | zero =>
    intro k nO nU ls H locs hkn  hP hS hl hq
    refine lv_iload_n hx hb dNB_settleAll_2 rfl (lv_at hl 0 rfl) ?_
    refine lv_bipush (v := nI 16) hx hb dNB_settleAll_3 (by decide) ?_
    refine lv_icmp_ge (tgt := 21) hx hb dNB_settleAll_5 (by decide) (fun _ => ?_) (fun c0 => absurd (nI_le (by omega) (by omega)) c0)
    have e1 : LNB_settleAll o 0 k nO nU = (nO, nU) := by simp only [LNB_settleAll]
    rw [e1] at hq
    exact g_vret hx hb hr hK hP hS hq hlocks dNB_settleAll_21
  | succ n ih =>
    intro k nO nU ls H locs hkn  hP hS hl hq
    refine lv_iload_n hx hb dNB_settleAll_2 rfl (lv_at hl 0 rfl) ?_
    refine lv_bipush (v := nI 16) hx hb dNB_settleAll_3 (by decide) ?_
    refine lv_icmp_ge (tgt := 21) hx hb dNB_settleAll_5 (by decide) (fun c0 => absurd c0 (nI_ge (by omega) (by decide))) (fun _ => ?_)
    refine lv_aload_n hx hb dNB_settleAll_8 rfl (lv_at hl 1 rfl) ?_
    refine lv_iload_n hx hb dNB_settleAll_9 rfl (lv_at hl 0 rfl) ?_
    refine lv_iload_n hx hb dNB_settleAll_10 rfl (lv_at hl 2 rfl) ?_
    refine g_callVi (As := [.int (nI k), .int (nI o)]) (rest := []) ⟨hx, hb, hml, hown, hts⟩ (c_NB_settle l hA dI dO dG dN dT aN aB nS nP nR nG nO nU nT tP tR tO tN tF tZ mP mN k o (by first | omega | assumption) (by first | omega | assumption)) (cwV 2 hts (gw_V k495 k456 k457 k29 k458) rfl rfl rfl (by decide +kernel) ⟨Nat.le_of_ble_eq_true rfl, Nat.le_of_ble_eq_true rfl⟩) hK hP (va_recv hK hP (ci := 2) (q0 := 4) rfl rfl) rfl hl.1 rfl (Nat.le_of_ble_eq_true rfl) dNB_settleAll_11 ⟨Nat.zero_le _, Nat.zero_le _⟩ (fun q h => h) hS (fun H locs hP hS => ?_)
    have hP : va_P D vwCl (wC cI cL a ((dI, dO, dG, dN, dT), (aN, aB), (nS, nP, nR, nG, vp_updL nO k ((nO k) &&& ((bL o) ^^^ (-1))), vp_updL nU k ((nU k) &&& ((bL o) ^^^ (-1))), nT), (tP, tR, tO, tN, tF, tZ), (mP, mN))) H := hP
    refine lv_pop hx hb dNB_settleAll_14 rfl ?_
    refine lv_iinc (v := nI (k + 1)) (lv' := [(2, .int (nI (k + 1))), (0, .ref (a 4)), (1, .int (nI o))]) hx hb dNB_settleAll_15 hl (k := 0) rfl (nI_1 k) (by decide) rfl (fun ls hl => ?_)
    refine lv_goto (tgt := 2) hx hb dNB_settleAll_18 (by decide) ?_
    have e1 : LNB_settleAll o (n + 1) k nO nU = LNB_settleAll o n (k + 1) (vp_updL nO k ((nO k) &&& ((bL o) ^^^ (-1)))) (vp_updL nU k ((nU k) &&& ((bL o) ^^^ (-1)))) := by simp only [LNB_settleAll]
    rw [e1] at hq
    exact ih (k + 1) (vp_updL nO k ((nO k) &&& ((bL o) ^^^ (-1)))) (vp_updL nU k ((nU k) &&& ((bL o) ^^^ (-1)))) ls H locs (by omega)  hP hS (lv_sub hl [0, 1, 2] rfl) hq
set_option maxHeartbeats 4000000 in
set_option maxRecDepth 100000 in
theorem c_NB_settleAll (l : Launch) {D : va_G} {cI cL : ClassId} {a : Nat → Nat} {A : Nat → Prop} (hA : ∀ v : CS, va_D A (wC cI cL a v)) (dI : Nat) (dO dG dN dT : Int32) (aN aB : Nat → Int32) (nS nP nR nG : Nat → Int32) (nO nU : Nat → Int64) (nT : Nat → Int32) (tP tR tO tN : Nat → Int32) (tF tZ : Nat) (mP : Nat → Int32) (mN : Int64) (o : Nat) (ho : o < 64) : Met l yNB_settleAll wsNB_settleAll ({ frames := 1, cells := 0, slots := 0, locals := 25 }) (va_Pc [.ref (a 4), .int (nI o)] (gG D (tyC cI cL) (wC cI cL a) ((dI, dO, dG, dN, dT), (aN, aB), (nS, nP, nR, nG, nO, nU, nT), (tP, tR, tO, tN, tF, tZ), (mP, mN)))) (va_Qv (fun u : CS => u = ((dI, dO, dG, dN, dT), (aN, aB), (nS, nP, nR, nG, (LNB_settleAll o 16 0 nO nU).1, (LNB_settleAll o 16 0 nO nU).2, nT), (tP, tR, tO, tN, tF, tZ), (mP, mN))) (gG D (tyC cI cL) (wC cI cL a)) A) 0 0 A := by
  refine g_enter (by decide) rfl (Nat.le_of_ble_eq_true rfl) ?_
  intro p e s m below meth c ls F hK hP hl
  obtain ⟨hx, hb, hr, hml, hown, hts, hlocks⟩ := id F
  have hS : va_S A s.heap s.heap [] := va_S.rf
  have hl : lv_has ls 3 [(0, .ref (a 4)), (1, .int (nI o))] := hl
  refine lv_iconst (v := nI 0) hx hb dNB_settleAll_0 (by decide) ?_
  refine lv_istore_n (lv' := [(2, .int (nI 0)), (0, .ref (a 4)), (1, .int (nI o))]) hx hb dNB_settleAll_1 rfl hl (by decide) rfl (fun ls hl => ?_)
  exact lpNB_settleAll hA F hK ho _ 16 0 nO nU ls _ _ rfl  hP hS (lv_sub hl [0, 1, 2] rfl) rfl
set_option maxHeartbeats 4000000 in
set_option maxRecDepth 100000 in
theorem c_NB_sent (l : Launch) {D : va_G} {cI cL : ClassId} {a : Nat → Nat} {A : Nat → Prop} (hA : ∀ v : CS, va_D A (wC cI cL a v)) (dI : Nat) (dO dG dN dT : Int32) (aN aB : Nat → Int32) (nS nP nR nG : Nat → Int32) (nO nU : Nat → Int64) (nT : Nat → Int32) (tP tR tO tN : Nat → Int32) (tF tZ : Nat) (mP : Nat → Int32) (mN : Int64) (j : Nat) (o : Nat) (x : Int32) (hj : j < 16) (ho : o < 64) : Met l yNB_sent wsNB_sent ({ frames := 0, cells := 0, slots := 0, locals := 0 }) (va_Pc [.ref (a 4), .int (nI j), .int (nI o), .int x] (gG D (tyC cI cL) (wC cI cL a) ((dI, dO, dG, dN, dT), (aN, aB), (nS, nP, nR, nG, nO, nU, nT), (tP, tR, tO, tN, tF, tZ), (mP, mN)))) (va_Qv (fun u : CS => u = ((dI, dO, dG, dN, dT), (aN, aB), (nS, nP, nR, nG, nO, vp_updL nU j ((nU j) &&& ((bL o) ^^^ (-1))), upd nT ((j * 64) + o) x), (tP, tR, tO, tN, tF, tZ), (mP, mN))) (gG D (tyC cI cL) (wC cI cL a)) A) 0 0 A := by
  refine g_enter (by decide) rfl (Nat.le_of_ble_eq_true rfl) ?_
  intro p e s m below meth c ls F hK hP hl
  obtain ⟨hx, hb, hr, hml, hown, hts, hlocks⟩ := id F
  have hS : va_S A s.heap s.heap [] := va_S.rf
  have hl : lv_has ls 4 [(0, .ref (a 4)), (1, .int (nI j)), (2, .int (nI o)), (3, .int x)] := hl
  refine lv_aload_n hx hb dNB_sent_0 rfl (lv_at hl 0 rfl) ?_
  refine va_get (D := D) (ci := 2) (v := .ref (a 10)) (C := RNB) (T := TNB) (N := 7) hx hb hts inNB hown hK hP 4 rfl rfl 5 (by decide) (hts _ k72) (fun _ h9 => h9) rfl dNB_sent_1 ?_
  refine lv_iload_n hx hb dNB_sent_4 rfl (lv_at hl 1 rfl) ?_
  refine lv_dup2_11 hx hb dNB_sent_5 rfl rfl ?_
  refine ir_lald hx hb hK hP 10 1 rfl rfl (k := j) (by omega) (by decide) dNB_sent_6 ?_
  refine lv_lconst (v := 1) hx hb dNB_sent_7 (by decide) ?_
  refine lv_iload_n hx hb dNB_sent_8 rfl (lv_at hl 2 rfl) ?_
  refine lv_lshl (v := bL o) hx hb dNB_sent_9 rfl ?_
  refine lv_ldc2 (v := (-1)) hx hb hown (hts _ k233) dNB_sent_10 ?_
  refine lv_lxor hx hb dNB_sent_13 ?_
  refine lv_land hx hb dNB_sent_14 ?_
  refine ir_last hx hb hK hP (hA _) hS 10 1 rfl rfl (k := j) (by omega) (by decide) dNB_sent_15 (fun H locs hP hS => ?_)
  have hP : va_P D vwCl (wC cI cL a ((dI, dO, dG, dN, dT), (aN, aB), (nS, nP, nR, nG, nO, vp_updL nU j ((nU j) &&& ((bL o) ^^^ (-1))), nT), (tP, tR, tO, tN, tF, tZ), (mP, mN))) H := hP
  refine lv_aload_n hx hb dNB_sent_16 rfl (lv_at hl 0 rfl) ?_
  refine va_get (D := D) (ci := 2) (v := .ref (a 11)) (C := RNB) (T := TNB) (N := 7) hx hb hts inNB hown hK hP 4 rfl rfl 6 (by decide) (hts _ k73) (fun _ h9 => h9) rfl dNB_sent_17 ?_
  refine lv_iload_n hx hb dNB_sent_20 rfl (lv_at hl 1 rfl) ?_
  refine lv_bipush (v := nI 64) hx hb dNB_sent_21 (by decide) ?_
  refine lv_imul hx hb dNB_sent_23 ?_
  refine lv_eqi (y := nI (j * 64)) (pk_mul j 64) ?_
  refine lv_iload_n hx hb dNB_sent_24 rfl (lv_at hl 2 rfl) ?_
  refine lv_iadd hx hb dNB_sent_25 ?_
  refine lv_eqi (y := nI ((j * 64) + o)) (nI_add (j * 64) o) ?_
  refine lv_iload_n hx hb dNB_sent_26 rfl (lv_at hl 3 rfl) ?_
  refine ir_iast hx hb hK hP (hA _) hS 11 0 rfl rfl (k := (j * 64) + o) (by omega) (by decide) dNB_sent_27 (fun H locs hP hS => ?_)
  have hP : va_P D vwCl (wC cI cL a ((dI, dO, dG, dN, dT), (aN, aB), (nS, nP, nR, nG, nO, vp_updL nU j ((nU j) &&& ((bL o) ^^^ (-1))), upd nT ((j * 64) + o) x), (tP, tR, tO, tN, tF, tZ), (mP, mN))) H := hP
  exact g_vret (v := ((dI, dO, dG, dN, dT), (aN, aB), (nS, nP, nR, nG, nO, vp_updL nU j ((nU j) &&& ((bL o) ^^^ (-1))), upd nT ((j * 64) + o) x), (tP, tR, tO, tN, tF, tZ), (mP, mN))) hx hb hr hK hP hS (rfl) hlocks dNB_sent_28
def fNB_isToBeSent (nO : Nat → Int64) (nU : Nat → Int64) (nT : Nat → Int32) (j : Nat) (o : Nat) (x : Int32) : Bool := (if ((nO j) &&& (bL o)) = 0 then false else (if ((nU j) &&& (bL o)) = 0 then (if (x - (nT ((j * 64) + o))) < 15 then false else true) else true))
set_option maxHeartbeats 4000000 in
set_option maxRecDepth 100000 in
theorem c_NB_isToBeSent (l : Launch) {D : va_G} {cI cL : ClassId} {a : Nat → Nat}  (dI : Nat) (dO dG dN dT : Int32) (aN aB : Nat → Int32) (nS nP nR nG : Nat → Int32) (nO nU : Nat → Int64) (nT : Nat → Int32) (tP tR tO tN : Nat → Int32) (tF tZ : Nat) (mP : Nat → Int32) (mN : Int64) (j : Nat) (o : Nat) (x : Int32) (hj : j < 16) (ho : o < 64) : Met l yNB_isToBeSent wsNB_isToBeSent ({ frames := 0, cells := 0, slots := 0, locals := 0 }) (va_Pc [.ref (a 4), .int (nI j), .int (nI o), .int x] (gG D (tyC cI cL) (wC cI cL a) ((dI, dO, dG, dN, dT), (aN, aB), (nS, nP, nR, nG, nO, nU, nT), (tP, tR, tO, tN, tF, tZ), (mP, mN)))) (vp_Si (fun r : Int32 => r = bi (fNB_isToBeSent nO nU nT j o x))) 0 0 (fun _ => False) := by
  refine g_enter (by decide) rfl (Nat.le_of_ble_eq_true rfl) ?_
  intro p e s m below meth c ls F hK hP hl
  obtain ⟨hx, hb, hr, hml, hown, hts, hlocks⟩ := id F
  have hl : lv_has ls 6 [(0, .ref (a 4)), (1, .int (nI j)), (2, .int (nI o)), (3, .int x)] := hl
  refine lv_lconst (v := 1) hx hb dNB_isToBeSent_0 (by decide) ?_
  refine lv_iload_n hx hb dNB_isToBeSent_1 rfl (lv_at hl 2 rfl) ?_
  refine lv_lshl (v := bL o) hx hb dNB_isToBeSent_2 rfl ?_
  refine lv_lstore (lv' := [(4, .long (bL o)), (0, .ref (a 4)), (1, .int (nI j)), (2, .int (nI o)), (3, .int x)]) hx hb dNB_isToBeSent_3 hl (by decide) rfl (fun ls hl => ?_)
  refine lv_aload_n hx hb dNB_isToBeSent_5 rfl (lv_at hl 1 rfl) ?_
  refine va_get (D := D) (ci := 2) (v := .ref (a 9)) (C := RNB) (T := TNB) (N := 7) hx hb hts inNB hown hK hP 4 rfl rfl 4 (by decide) (hts _ k71) (fun _ h9 => h9) rfl dNB_isToBeSent_6 ?_
  refine lv_iload_n hx hb dNB_isToBeSent_9 rfl (lv_at hl 2 rfl) ?_
  refine ir_lald hx hb hK hP 9 1 rfl rfl (k := j) (by omega) (by decide) dNB_isToBeSent_10 ?_
  refine lv_lload hx hb dNB_isToBeSent_11 (lv_at hl 0 rfl) ?_
  refine lv_land hx hb dNB_isToBeSent_13 ?_
  refine lv_lconst (v := 0) hx hb dNB_isToBeSent_14 (by decide) ?_
  refine lv_lif_ne (tgt := 21) hx hb dNB_isToBeSent_15 dNB_isToBeSent_16 (by decide) (fun c1 => ?_) (fun c1 => ?_)
  · refine lv_aload_n hx hb dNB_isToBeSent_21 rfl (lv_at hl 1 rfl) ?_
    refine va_get (D := D) (ci := 2) (v := .ref (a 10)) (C := RNB) (T := TNB) (N := 7) hx hb hts inNB hown hK hP 4 rfl rfl 5 (by decide) (hts _ k72) (fun _ h9 => h9) rfl dNB_isToBeSent_22 ?_
    refine lv_iload_n hx hb dNB_isToBeSent_25 rfl (lv_at hl 2 rfl) ?_
    refine ir_lald hx hb hK hP 10 1 rfl rfl (k := j) (by omega) (by decide) dNB_isToBeSent_26 ?_
    refine lv_lload hx hb dNB_isToBeSent_27 (lv_at hl 0 rfl) ?_
    refine lv_land hx hb dNB_isToBeSent_29 ?_
    refine lv_lconst (v := 0) hx hb dNB_isToBeSent_30 (by decide) ?_
    refine lv_lif_ne (tgt := 53) hx hb dNB_isToBeSent_31 dNB_isToBeSent_32 (by decide) (fun c2 => ?_) (fun c2 => ?_)
    · refine lv_iconst (v := bi true) hx hb dNB_isToBeSent_53 (by decide) ?_
      refine lv_goto (tgt := 58) hx hb dNB_isToBeSent_54 (by decide) ?_
      have e1 : fNB_isToBeSent nO nU nT j o x = true := by simp only [fNB_isToBeSent, if_neg c1, if_neg c2]
      exact r_zret hx hb hr (by first | rfl | (rw [e1] <;> rfl)) hlocks dNB_isToBeSent_58
    · refine lv_iload_n hx hb dNB_isToBeSent_35 rfl (lv_at hl 4 rfl) ?_
      refine lv_aload_n hx hb dNB_isToBeSent_36 rfl (lv_at hl 1 rfl) ?_
      refine va_get (D := D) (ci := 2) (v := .ref (a 11)) (C := RNB) (T := TNB) (N := 7) hx hb hts inNB hown hK hP 4 rfl rfl 6 (by decide) (hts _ k73) (fun _ h9 => h9) rfl dNB_isToBeSent_37 ?_
      refine lv_iload_n hx hb dNB_isToBeSent_40 rfl (lv_at hl 2 rfl) ?_
      refine lv_bipush (v := nI 64) hx hb dNB_isToBeSent_41 (by decide) ?_
      refine lv_imul hx hb dNB_isToBeSent_43 ?_
      refine lv_eqi (y := nI (j * 64)) (pk_mul j 64) ?_
      refine lv_iload_n hx hb dNB_isToBeSent_44 rfl (lv_at hl 3 rfl) ?_
      refine lv_iadd hx hb dNB_isToBeSent_45 ?_
      refine lv_eqi (y := nI ((j * 64) + o)) (nI_add (j * 64) o) ?_
      refine ir_iald hx hb hK hP 11 0 rfl rfl (k := (j * 64) + o) (by omega) (by decide) dNB_isToBeSent_46 ?_
      refine lv_isub hx hb dNB_isToBeSent_47 ?_
      refine lv_bipush (v := 15) hx hb dNB_isToBeSent_48 (by decide) ?_
      refine lv_icmp_lt (tgt := 57) hx hb dNB_isToBeSent_50 (by decide) (fun c3 => ?_) (fun c3 => ?_)
      · refine lv_iconst (v := bi false) hx hb dNB_isToBeSent_57 (by decide) ?_
        have e1 : fNB_isToBeSent nO nU nT j o x = false := by simp only [fNB_isToBeSent, if_neg c1, if_pos c2, if_pos c3]
        exact r_zret hx hb hr (by first | rfl | (rw [e1] <;> rfl)) hlocks dNB_isToBeSent_58
      · refine lv_iconst (v := bi true) hx hb dNB_isToBeSent_53 (by decide) ?_
        refine lv_goto (tgt := 58) hx hb dNB_isToBeSent_54 (by decide) ?_
        have e1 : fNB_isToBeSent nO nU nT j o x = true := by simp only [fNB_isToBeSent, if_neg c1, if_pos c2, if_neg c3]
        exact r_zret hx hb hr (by first | rfl | (rw [e1] <;> rfl)) hlocks dNB_isToBeSent_58
  · refine lv_iconst (v := bi false) hx hb dNB_isToBeSent_19 (by decide) ?_
    have e1 : fNB_isToBeSent nO nU nT j o x = false := by simp only [fNB_isToBeSent, if_pos c1]
    exact r_zret hx hb hr (by first | rfl | (rw [e1] <;> rfl)) hlocks dNB_isToBeSent_20
def LNB_firstToSend (nO : Nat → Int64) (nU : Nat → Int64) (nT : Nat → Int32) (j : Nat) (x : Int32) : Nat → Nat → Option Nat
  | 0, k => none
  | n + 1, k => (cond (fNB_isToBeSent nO nU nT j k x) (some k) (LNB_firstToSend nO nU nT j x n (k + 1) ))
set_option maxHeartbeats 4000000 in
set_option maxRecDepth 100000 in
theorem lpNB_firstToSend {p : Program} {l : Launch} {e : Env} {s : State} {m : MethodId} {args : Array Value} {below : List Frame} {meth : Method} {c : Code} {D : va_G} {cI cL : ClassId} {a : Nat → Nat}  (F : gFix p c cNB_firstToSend meth (some .int) m s args bigW RNB 4) (hK : va_K D vwCl (tyC cI cL) s) {dI : Nat} {dO : Int32} {dG : Int32} {dN : Int32} {dT : Int32} {aN : Nat → Int32} {aB : Nat → Int32} {nS : Nat → Int32} {nP : Nat → Int32} {nR : Nat → Int32} {nG : Nat → Int32} {nO : Nat → Int64} {nU : Nat → Int64} {nT : Nat → Int32} {tP : Nat → Int32} {tR : Nat → Int32} {tO : Nat → Int32} {tN : Nat → Int32} {tF : Nat} {tZ : Nat} {mP : Nat → Int32} {mN : Int64} {j : Nat} {x : Int32} (hj : j < 16) (post : Int32 → Prop) : ∀ (n k : Nat)   (ls : Array Slot), k + n = 64 → va_P D vwCl (wC cI cL a ((dI, dO, dG, dN, dT), (aN, aB), (nS, nP, nR, nG, nO, nU, nT), (tP, tR, tO, tN, tF, tZ), (mP, mN))) s.heap → lv_has ls 4 [(3, .int (nI k)), (0, .ref (a 4)), (1, .int (nI j)), (2, .int x)] → post (oi (LNB_firstToSend nO nU nT j x n k )) → W p l e ({ frames := 1, cells := 0, slots := 0, locals := 25 }) s m args below meth c s.heap [] 0 0 (MQ below (vp_Si post) args s 0 0 (fun _ => False)) (F0 m 2 ls []) := by
  obtain ⟨hx, hb, hr, hml, hown, hts, hlocks⟩ := F
  intro n
  induction n with
  | zero =>
    intro k  ls hkn  hP hl hq
    refine lv_iload_n hx hb dNB_firstToSend_2 rfl (lv_at hl 0 rfl) ?_
    refine lv_bipush (v := nI 64) hx hb dNB_firstToSend_3 (by decide) ?_
    refine lv_icmp_ge (tgt := 26) hx hb dNB_firstToSend_5 (by decide) (fun _ => ?_) (fun c0 => absurd (nI_le (by omega) (by omega)) c0)
    refine lv_iconst (v := oi none) hx hb dNB_firstToSend_26 (by decide) ?_
    have e1 : LNB_firstToSend nO nU nT j x 0 k  = none := by simp only [LNB_firstToSend]
    rw [e1] at hq
    exact r_iret hx hb hr hq hlocks dNB_firstToSend_27
  | succ n ih =>
    intro k  ls hkn  hP hl hq
    refine lv_iload_n hx hb dNB_firstToSend_2 rfl (lv_at hl 0 rfl) ?_
    refine lv_bipush (v := nI 64) hx hb dNB_firstToSend_3 (by decide) ?_
    refine lv_icmp_ge (tgt := 26) hx hb dNB_firstToSend_5 (by decide) (fun c0 => absurd c0 (nI_ge (by omega) (by decide))) (fun _ => ?_)
    refine lv_aload_n hx hb dNB_firstToSend_8 rfl (lv_at hl 1 rfl) ?_
    refine lv_iload_n hx hb dNB_firstToSend_9 rfl (lv_at hl 2 rfl) ?_
    refine lv_iload_n hx hb dNB_firstToSend_10 rfl (lv_at hl 0 rfl) ?_
    refine lv_iload_n hx hb dNB_firstToSend_11 rfl (lv_at hl 3 rfl) ?_
    refine g_roVi (As := [.int (nI j), .int (nI k), .int x]) (rest := []) ⟨hx, hb, hml, hown, hts⟩ (c_NB_isToBeSent l dI dO dG dN dT aN aB nS nP nR nG nO nU nT tP tR tO tN tF tZ mP mN j k x (by first | omega | assumption) (by first | omega | assumption)) (cwV 3 hts (gw_V k224 k226 k5 k29 k227) rfl rfl rfl (by decide +kernel) ⟨Nat.le_of_ble_eq_true rfl, Nat.le_of_ble_eq_true rfl⟩) hK hP (va_recv hK hP (ci := 2) (q0 := 4) rfl rfl) rfl hl.1 rfl (Nat.le_of_ble_eq_true rfl) dNB_firstToSend_12 ⟨Nat.zero_le _, Nat.zero_le _⟩ ?_
    refine lv_if_eqb (tgt := 20) hx hb dNB_firstToSend_15 (by decide) (fun c3 => ?_) (fun c3 => ?_)
    · refine lv_iinc (v := nI (k + 1)) (lv' := [(3, .int (nI (k + 1))), (0, .ref (a 4)), (1, .int (nI j)), (2, .int x)]) hx hb dNB_firstToSend_20 hl (k := 0) rfl (nI_1 k) (by decide) rfl (fun ls hl => ?_)
      refine lv_goto (tgt := 2) hx hb dNB_firstToSend_23 (by decide) ?_
      have e1 : LNB_firstToSend nO nU nT j x (n + 1) k  = LNB_firstToSend nO nU nT j x n (k + 1)  := by simp only [LNB_firstToSend, c3, cond_true, cond_false]
      rw [e1] at hq
      exact ih (k + 1)  ls (by omega)  hP (lv_sub hl [0, 1, 2, 3] rfl) hq
    · refine lv_iload_n hx hb dNB_firstToSend_18 rfl (lv_at hl 0 rfl) ?_
      have e1 : LNB_firstToSend nO nU nT j x (n + 1) k  = some k := by simp only [LNB_firstToSend, c3, cond_true, cond_false]
      rw [e1] at hq
      exact r_iret hx hb hr hq hlocks dNB_firstToSend_19
set_option maxHeartbeats 4000000 in
set_option maxRecDepth 100000 in
theorem c_NB_firstToSend (l : Launch) {D : va_G} {cI cL : ClassId} {a : Nat → Nat}  (dI : Nat) (dO dG dN dT : Int32) (aN aB : Nat → Int32) (nS nP nR nG : Nat → Int32) (nO nU : Nat → Int64) (nT : Nat → Int32) (tP tR tO tN : Nat → Int32) (tF tZ : Nat) (mP : Nat → Int32) (mN : Int64) (j : Nat) (x : Int32) (hj : j < 16) : Met l yNB_firstToSend wsNB_firstToSend ({ frames := 1, cells := 0, slots := 0, locals := 25 }) (va_Pc [.ref (a 4), .int (nI j), .int x] (gG D (tyC cI cL) (wC cI cL a) ((dI, dO, dG, dN, dT), (aN, aB), (nS, nP, nR, nG, nO, nU, nT), (tP, tR, tO, tN, tF, tZ), (mP, mN)))) (vp_Si (fun r : Int32 => r = oi (LNB_firstToSend nO nU nT j x 64 0 ))) 0 0 (fun _ => False) := by
  refine g_enter (by decide) rfl (Nat.le_of_ble_eq_true rfl) ?_
  intro p e s m below meth c ls F hK hP hl
  obtain ⟨hx, hb, hr, hml, hown, hts, hlocks⟩ := id F
  have hl : lv_has ls 4 [(0, .ref (a 4)), (1, .int (nI j)), (2, .int x)] := hl
  refine lv_iconst (v := nI 0) hx hb dNB_firstToSend_0 (by decide) ?_
  refine lv_istore_n (lv' := [(3, .int (nI 0)), (0, .ref (a 4)), (1, .int (nI j)), (2, .int x)]) hx hb dNB_firstToSend_1 rfl hl (by decide) rfl (fun ls hl => ?_)
  exact lpNB_firstToSend F hK hj _ 64 0  ls rfl  hP (lv_sub hl [0, 1, 2, 3] rfl) rfl
theorem LNB_firstToSend_lt {nO nU : Nat → Int64} {nT : Nat → Int32} {i : Nat} {x : Int32} : ∀ (n k j : Nat), LNB_firstToSend nO nU nT i x n k = some j → j < k + n := by
  intro n
  induction n with
  | zero => intro k j h; simp only [LNB_firstToSend] at h; cases h
  | succ n ih =>
    intro k j h
    simp only [LNB_firstToSend] at h
    cases hb : fNB_isToBeSent nO nU nT i k x
    · simp only [hb, cond_false] at h; have := ih _ _ h; omega
    · simp only [hb, cond_true] at h; cases h; omega
theorem c_NB_firstToSend_lt {nO nU : Nat → Int64} {nT : Nat → Int32} {i : Nat} {x : Int32} {k : Nat} (h : LNB_firstToSend nO nU nT i x 64 0 = some k) : k < 64 := by
  have := LNB_firstToSend_lt _ _ _ h; omega
def LNB_firstToServe (nP : Nat → Int32) (nR : Nat → Int32) (nO : Nat → Int64) (nU : Nat → Int64) (nT : Nat → Int32) (x : Int32) : Nat → Nat → Option Nat → Int32 → Option Nat
  | 0, k, f, g => f
  | n + 1, k, f, g => (if (nO k) = 0 then LNB_firstToServe nP nR nO nU nT x n (k + 1) f g else (if g ≤ (((nP k) * (nI 64)) + (nR k)) then LNB_firstToServe nP nR nO nU nT x n (k + 1) f g else (match LNB_firstToSend nO nU nT k x 64 0  with | none => LNB_firstToServe nP nR nO nU nT x n (k + 1) f g | some k5 => LNB_firstToServe nP nR nO nU nT x n (k + 1) (some k) (((nP k) * (nI 64)) + (nR k)))))
set_option maxHeartbeats 4000000 in
set_option maxRecDepth 100000 in
theorem lpNB_firstToServe {p : Program} {l : Launch} {e : Env} {s : State} {m : MethodId} {args : Array Value} {below : List Frame} {meth : Method} {c : Code} {D : va_G} {cI cL : ClassId} {a : Nat → Nat}  (F : gFix p c cNB_firstToServe meth (some .int) m s args bigW RNB 6) (hK : va_K D vwCl (tyC cI cL) s) {dI : Nat} {dO : Int32} {dG : Int32} {dN : Int32} {dT : Int32} {aN : Nat → Int32} {aB : Nat → Int32} {nS : Nat → Int32} {nP : Nat → Int32} {nR : Nat → Int32} {nG : Nat → Int32} {nO : Nat → Int64} {nU : Nat → Int64} {nT : Nat → Int32} {tP : Nat → Int32} {tR : Nat → Int32} {tO : Nat → Int32} {tN : Nat → Int32} {tF : Nat} {tZ : Nat} {mP : Nat → Int32} {mN : Int64} {x : Int32}  (post : Int32 → Prop) : ∀ (n k : Nat) (f : Option Nat) (g : Int32)  (ls : Array Slot), k + n = 16 → va_P D vwCl (wC cI cL a ((dI, dO, dG, dN, dT), (aN, aB), (nS, nP, nR, nG, nO, nU, nT), (tP, tR, tO, tN, tF, tZ), (mP, mN))) s.heap → lv_has ls 6 [(4, .int (nI k)), (3, .int g), (2, .int (oi f)), (0, .ref (a 4)), (1, .int x)] → post (oi (LNB_firstToServe nP nR nO nU nT x n k f g)) → W p l e ({ frames := 2, cells := 0, slots := 0, locals := 48 }) s m args below meth c s.heap [] 0 0 (MQ below (vp_Si post) args s 0 0 (fun _ => False)) (F0 m 9 ls []) := by
  obtain ⟨hx, hb, hr, hml, hown, hts, hlocks⟩ := F
  intro n
  induction n with
  | zero =>
    intro k f g ls hkn  hP hl hq
    refine lv_iload hx hb dNB_firstToServe_9 (lv_at hl 0 rfl) ?_
    refine lv_bipush (v := nI 16) hx hb dNB_firstToServe_11 (by decide) ?_
    refine lv_icmp_ge (tgt := 77) hx hb dNB_firstToServe_13 (by decide) (fun _ => ?_) (fun c0 => absurd (nI_le (by omega) (by omega)) c0)
    refine lv_iload_n hx hb dNB_firstToServe_77 rfl (lv_at hl 2 rfl) ?_
    have e1 : LNB_firstToServe nP nR nO nU nT x 0 k f g = f := by simp only [LNB_firstToServe]
    rw [e1] at hq
    exact r_iret hx hb hr hq hlocks dNB_firstToServe_78
  | succ n ih =>
    intro k f g ls hkn  hP hl hq
    refine lv_iload hx hb dNB_firstToServe_9 (lv_at hl 0 rfl) ?_
    refine lv_bipush (v := nI 16) hx hb dNB_firstToServe_11 (by decide) ?_
    refine lv_icmp_ge (tgt := 77) hx hb dNB_firstToServe_13 (by decide) (fun c0 => absurd c0 (nI_ge (by omega) (by decide))) (fun _ => ?_)
    refine lv_aload_n hx hb dNB_firstToServe_16 rfl (lv_at hl 3 rfl) ?_
    refine va_get (D := D) (ci := 2) (v := .ref (a 6)) (C := RNB) (T := TNB) (N := 7) hx hb hts inNB hown hK hP 4 rfl rfl 1 (by decide) (hts _ k68) (fun _ h9 => h9) rfl dNB_firstToServe_17 ?_
    refine lv_iload hx hb dNB_firstToServe_20 (lv_at hl 0 rfl) ?_
    refine ir_iald hx hb hK hP 6 0 rfl rfl (k := k) (by omega) (by decide) dNB_firstToServe_22 ?_
    refine lv_bipush (v := nI 64) hx hb dNB_firstToServe_23 (by decide) ?_
    refine lv_imul hx hb dNB_firstToServe_25 ?_
    refine lv_aload_n hx hb dNB_firstToServe_26 rfl (lv_at hl 3 rfl) ?_
    refine va_get (D := D) (ci := 2) (v := .ref (a 7)) (C := RNB) (T := TNB) (N := 7) hx hb hts inNB hown hK hP 4 rfl rfl 2 (by decide) (hts _ k69) (fun _ h9 => h9) rfl dNB_firstToServe_27 ?_
    refine lv_iload hx hb dNB_firstToServe_30 (lv_at hl 0 rfl) ?_
    refine ir_iald hx hb hK hP 7 0 rfl rfl (k := k) (by omega) (by decide) dNB_firstToServe_32 ?_
    refine lv_iadd hx hb dNB_firstToServe_33 ?_
    refine lv_istore (lv' := [(5, .int (((nP k) * (nI 64)) + (nR k))), (4, .int (nI k)), (3, .int g), (2, .int (oi f)), (0, .ref (a 4)), (1, .int x)]) hx hb dNB_firstToServe_34 hl (by decide) rfl (fun ls hl => ?_)
    refine lv_aload_n hx hb dNB_firstToServe_36 rfl (lv_at hl 4 rfl) ?_
    refine va_get (D := D) (ci := 2) (v := .ref (a 9)) (C := RNB) (T := TNB) (N := 7) hx hb hts inNB hown hK hP 4 rfl rfl 4 (by decide) (hts _ k71) (fun _ h9 => h9) rfl dNB_firstToServe_37 ?_
    refine lv_iload hx hb dNB_firstToServe_40 (lv_at hl 1 rfl) ?_
    refine ir_lald hx hb hK hP 9 1 rfl rfl (k := k) (by omega) (by decide) dNB_firstToServe_42 ?_
    refine lv_lconst (v := 0) hx hb dNB_firstToServe_43 (by decide) ?_
    refine lv_lif_eq (tgt := 71) hx hb dNB_firstToServe_44 dNB_firstToServe_45 (by decide) (fun c3 => ?_) (fun c3 => ?_)
    · refine lv_iinc (v := nI (k + 1)) (lv' := [(4, .int (nI (k + 1))), (5, .int (((nP k) * (nI 64)) + (nR k))), (3, .int g), (2, .int (oi f)), (0, .ref (a 4)), (1, .int x)]) hx hb dNB_firstToServe_71 hl (k := 1) rfl (nI_1 k) (by decide) rfl (fun ls hl => ?_)
      refine lv_goto (tgt := 9) hx hb dNB_firstToServe_74 (by decide) ?_
      have e1 : LNB_firstToServe nP nR nO nU nT x (n + 1) k f g = LNB_firstToServe nP nR nO nU nT x n (k + 1) f g := by simp only [LNB_firstToServe, if_pos c3]
      rw [e1] at hq
      exact ih (k + 1) f g ls (by omega)  hP (lv_sub hl [0, 2, 3, 4, 5] rfl) hq
    · refine lv_iload hx hb dNB_firstToServe_48 (lv_at hl 0 rfl) ?_
      refine lv_iload_n hx hb dNB_firstToServe_50 rfl (lv_at hl 2 rfl) ?_
      refine lv_icmp_ge (tgt := 71) hx hb dNB_firstToServe_51 (by decide) (fun c4 => ?_) (fun c4 => ?_)
      · refine lv_iinc (v := nI (k + 1)) (lv' := [(4, .int (nI (k + 1))), (5, .int (((nP k) * (nI 64)) + (nR k))), (3, .int g), (2, .int (oi f)), (0, .ref (a 4)), (1, .int x)]) hx hb dNB_firstToServe_71 hl (k := 1) rfl (nI_1 k) (by decide) rfl (fun ls hl => ?_)
        refine lv_goto (tgt := 9) hx hb dNB_firstToServe_74 (by decide) ?_
        have e1 : LNB_firstToServe nP nR nO nU nT x (n + 1) k f g = LNB_firstToServe nP nR nO nU nT x n (k + 1) f g := by simp only [LNB_firstToServe, if_neg c3, if_pos c4]
        rw [e1] at hq
        exact ih (k + 1) f g ls (by omega)  hP (lv_sub hl [0, 2, 3, 4, 5] rfl) hq
      · refine lv_aload_n hx hb dNB_firstToServe_54 rfl (lv_at hl 4 rfl) ?_
        refine lv_iload hx hb dNB_firstToServe_55 (lv_at hl 1 rfl) ?_
        refine lv_iload_n hx hb dNB_firstToServe_57 rfl (lv_at hl 5 rfl) ?_
        refine g_roVi (As := [.int (nI k), .int x]) (rest := []) ⟨hx, hb, hml, hown, hts⟩ (c_NB_firstToSend l dI dO dG dN dT aN aB nS nP nR nG nO nU nT tP tR tO tN tF tZ mP mN k x (by first | omega | assumption)) (cwV 2 hts (gw_V k220 k221 k222 k29 k223) rfl rfl rfl (by decide +kernel) ⟨Nat.le_of_ble_eq_true rfl, Nat.le_of_ble_eq_true rfl⟩) hK hP (va_recv hK hP (ci := 2) (q0 := 4) rfl rfl) rfl hl.1 rfl (Nat.le_of_ble_eq_true rfl) dNB_firstToServe_58 ⟨Nat.zero_le _, Nat.zero_le _⟩ ?_
        rcases ho6 : LNB_firstToSend nO nU nT k x 64 0  with _ | k5
        · refine lv_iconst (v := (-1)) hx hb dNB_firstToServe_61 (by decide) ?_
          refine lv_icmp_eq (tgt := 71) hx hb dNB_firstToServe_62 (by decide) (fun _ => ?_) (fun c0 => absurd rfl c0)
          refine lv_iinc (v := nI (k + 1)) (lv' := [(4, .int (nI (k + 1))), (5, .int (((nP k) * (nI 64)) + (nR k))), (3, .int g), (2, .int (oi f)), (0, .ref (a 4)), (1, .int x)]) hx hb dNB_firstToServe_71 hl (k := 1) rfl (nI_1 k) (by decide) rfl (fun ls hl => ?_)
          refine lv_goto (tgt := 9) hx hb dNB_firstToServe_74 (by decide) ?_
          have e1 : LNB_firstToServe nP nR nO nU nT x (n + 1) k f g = LNB_firstToServe nP nR nO nU nT x n (k + 1) f g := by first | (simp only [LNB_firstToServe, if_neg c3, if_neg c4, ho6, cond_true, cond_false]; done) | (simp only [LNB_firstToServe, if_neg c3]; simp only [if_neg c4]; simp only [ho6, cond_true, cond_false])
          rw [e1] at hq
          exact ih (k + 1) f g ls (by omega)  hP (lv_sub hl [0, 2, 3, 4, 5] rfl) hq
        · have hk5 := c_NB_firstToSend_lt ho6
          refine lv_iconst (v := (-1)) hx hb dNB_firstToServe_61 (by decide) ?_
          refine lv_icmp_eq (tgt := 71) hx hb dNB_firstToServe_62 (by decide) (fun c0 => absurd c0 (nI_m1 (by omega))) (fun _ => ?_)
          refine lv_iload hx hb dNB_firstToServe_65 (lv_at hl 1 rfl) ?_
          refine lv_istore_n (lv' := [(2, .int (nI k)), (5, .int (((nP k) * (nI 64)) + (nR k))), (4, .int (nI k)), (3, .int g), (0, .ref (a 4)), (1, .int x)]) hx hb dNB_firstToServe_67 rfl hl (by decide) rfl (fun ls hl => ?_)
          refine lv_iload hx hb dNB_firstToServe_68 (lv_at hl 1 rfl) ?_
          refine lv_istore_n (lv' := [(3, .int (((nP k) * (nI 64)) + (nR k))), (2, .int (nI k)), (5, .int (((nP k) * (nI 64)) + (nR k))), (4, .int (nI k)), (0, .ref (a 4)), (1, .int x)]) hx hb dNB_firstToServe_70 rfl hl (by decide) rfl (fun ls hl => ?_)
          refine lv_iinc (v := nI (k + 1)) (lv' := [(4, .int (nI (k + 1))), (3, .int (((nP k) * (nI 64)) + (nR k))), (2, .int (nI k)), (5, .int (((nP k) * (nI 64)) + (nR k))), (0, .ref (a 4)), (1, .int x)]) hx hb dNB_firstToServe_71 hl (k := 3) rfl (nI_1 k) (by decide) rfl (fun ls hl => ?_)
          refine lv_goto (tgt := 9) hx hb dNB_firstToServe_74 (by decide) ?_
          have e1 : LNB_firstToServe nP nR nO nU nT x (n + 1) k f g = LNB_firstToServe nP nR nO nU nT x n (k + 1) (some k) (((nP k) * (nI 64)) + (nR k)) := by first | (simp only [LNB_firstToServe, if_neg c3, if_neg c4, ho6, cond_true, cond_false]; done) | (simp only [LNB_firstToServe, if_neg c3]; simp only [if_neg c4]; simp only [ho6, cond_true, cond_false])
          rw [e1] at hq
          exact ih (k + 1) (some k) (((nP k) * (nI 64)) + (nR k)) ls (by omega)  hP (lv_sub hl [0, 1, 2, 4, 5] rfl) hq
set_option maxHeartbeats 4000000 in
set_option maxRecDepth 100000 in
theorem c_NB_firstToServe (l : Launch) {D : va_G} {cI cL : ClassId} {a : Nat → Nat}  (dI : Nat) (dO dG dN dT : Int32) (aN aB : Nat → Int32) (nS nP nR nG : Nat → Int32) (nO nU : Nat → Int64) (nT : Nat → Int32) (tP tR tO tN : Nat → Int32) (tF tZ : Nat) (mP : Nat → Int32) (mN : Int64) (x : Int32)  : Met l yNB_firstToServe wsNB_firstToServe ({ frames := 2, cells := 0, slots := 0, locals := 48 }) (va_Pc [.ref (a 4), .int x] (gG D (tyC cI cL) (wC cI cL a) ((dI, dO, dG, dN, dT), (aN, aB), (nS, nP, nR, nG, nO, nU, nT), (tP, tR, tO, tN, tF, tZ), (mP, mN)))) (vp_Si (fun r : Int32 => r = oi (LNB_firstToServe nP nR nO nU nT x 16 0 none 512))) 0 0 (fun _ => False) := by
  refine g_enter (by decide) rfl (Nat.le_of_ble_eq_true rfl) ?_
  intro p e s m below meth c ls F hK hP hl
  obtain ⟨hx, hb, hr, hml, hown, hts, hlocks⟩ := id F
  have hl : lv_has ls 6 [(0, .ref (a 4)), (1, .int x)] := hl
  refine lv_iconst (v := (-1)) hx hb dNB_firstToServe_0 (by decide) ?_
  refine lv_istore_n (lv' := [(2, .int (-1)), (0, .ref (a 4)), (1, .int x)]) hx hb dNB_firstToServe_1 rfl hl (by decide) rfl (fun ls hl => ?_)
  refine lv_sipush (v := 512) hx hb dNB_firstToServe_2 (by decide) ?_
  refine lv_istore_n (lv' := [(3, .int 512), (2, .int (-1)), (0, .ref (a 4)), (1, .int x)]) hx hb dNB_firstToServe_5 rfl hl (by decide) rfl (fun ls hl => ?_)
  refine lv_iconst (v := nI 0) hx hb dNB_firstToServe_6 (by decide) ?_
  refine lv_istore (lv' := [(4, .int (nI 0)), (3, .int 512), (2, .int (-1)), (0, .ref (a 4)), (1, .int x)]) hx hb dNB_firstToServe_7 hl (by decide) rfl (fun ls hl => ?_)
  exact lpNB_firstToServe F hK  _ 16 0 none 512 ls rfl  hP (lv_sub hl [0, 1, 2, 3, 4] rfl) rfl
theorem LNB_firstToServe_lt {nP nR : Nat → Int32} {nO nU : Nat → Int64} {nT : Nat → Int32} {x : Int32} : ∀ (n k : Nat) (f : Option Nat) (g : Int32) (j : Nat), LNB_firstToServe nP nR nO nU nT x n k f g = some j → f = some j ∨ j < k + n := by
  intro n
  induction n with
  | zero => intro k f g j h; simp only [LNB_firstToServe] at h; exact Or.inl h
  | succ n ih =>
    intro k f g j h
    simp only [LNB_firstToServe] at h
    repeat' split at h
    all_goals (rcases ih _ _ _ _ h with h1 | h1 <;> first | exact Or.inl h1 | (right; omega) | (cases h1; right; omega))
theorem c_NB_firstToServe_lt {nP nR : Nat → Int32} {nO nU : Nat → Int64} {nT : Nat → Int32} {x : Int32} {k : Nat} (h : LNB_firstToServe nP nR nO nU nT x 16 0 none 512 = some k) : k < 16 := by
  rcases LNB_firstToServe_lt _ _ _ _ _ h with h1 | h1
  · cases h1
  · omega
set_option maxHeartbeats 4000000 in
set_option maxRecDepth 100000 in
theorem c_NB_portAt (l : Launch) {D : va_G} {cI cL : ClassId} {a : Nat → Nat}  (dI : Nat) (dO dG dN dT : Int32) (aN aB : Nat → Int32) (nS nP nR nG : Nat → Int32) (nO nU : Nat → Int64) (nT : Nat → Int32) (tP tR tO tN : Nat → Int32) (tF tZ : Nat) (mP : Nat → Int32) (mN : Int64) (j : Nat) (hj : j < 16) : Met l yNB_portAt wsNB_portAt ({ frames := 0, cells := 0, slots := 0, locals := 0 }) (va_Pc [.ref (a 4), .int (nI j)] (gG D (tyC cI cL) (wC cI cL a) ((dI, dO, dG, dN, dT), (aN, aB), (nS, nP, nR, nG, nO, nU, nT), (tP, tR, tO, tN, tF, tZ), (mP, mN)))) (vp_Si (fun r : Int32 => r = nP j)) 0 0 (fun _ => False) := by
  refine g_enter (by decide) rfl (Nat.le_of_ble_eq_true rfl) ?_
  intro p e s m below meth c ls F hK hP hl
  obtain ⟨hx, hb, hr, hml, hown, hts, hlocks⟩ := id F
  have hl : lv_has ls 2 [(0, .ref (a 4)), (1, .int (nI j))] := hl
  refine lv_aload_n hx hb dNB_portAt_0 rfl (lv_at hl 0 rfl) ?_
  refine va_get (D := D) (ci := 2) (v := .ref (a 6)) (C := RNB) (T := TNB) (N := 7) hx hb hts inNB hown hK hP 4 rfl rfl 1 (by decide) (hts _ k68) (fun _ h9 => h9) rfl dNB_portAt_1 ?_
  refine lv_iload_n hx hb dNB_portAt_4 rfl (lv_at hl 1 rfl) ?_
  refine ir_iald hx hb hK hP 6 0 rfl rfl (k := j) (by omega) (by decide) dNB_portAt_5 ?_
  exact r_iret hx hb hr (rfl) hlocks dNB_portAt_6
set_option maxHeartbeats 4000000 in
set_option maxRecDepth 100000 in
theorem c_NB_routerAt (l : Launch) {D : va_G} {cI cL : ClassId} {a : Nat → Nat}  (dI : Nat) (dO dG dN dT : Int32) (aN aB : Nat → Int32) (nS nP nR nG : Nat → Int32) (nO nU : Nat → Int64) (nT : Nat → Int32) (tP tR tO tN : Nat → Int32) (tF tZ : Nat) (mP : Nat → Int32) (mN : Int64) (j : Nat) (hj : j < 16) : Met l yNB_routerAt wsNB_routerAt ({ frames := 0, cells := 0, slots := 0, locals := 0 }) (va_Pc [.ref (a 4), .int (nI j)] (gG D (tyC cI cL) (wC cI cL a) ((dI, dO, dG, dN, dT), (aN, aB), (nS, nP, nR, nG, nO, nU, nT), (tP, tR, tO, tN, tF, tZ), (mP, mN)))) (vp_Si (fun r : Int32 => r = nR j)) 0 0 (fun _ => False) := by
  refine g_enter (by decide) rfl (Nat.le_of_ble_eq_true rfl) ?_
  intro p e s m below meth c ls F hK hP hl
  obtain ⟨hx, hb, hr, hml, hown, hts, hlocks⟩ := id F
  have hl : lv_has ls 2 [(0, .ref (a 4)), (1, .int (nI j))] := hl
  refine lv_aload_n hx hb dNB_routerAt_0 rfl (lv_at hl 0 rfl) ?_
  refine va_get (D := D) (ci := 2) (v := .ref (a 7)) (C := RNB) (T := TNB) (N := 7) hx hb hts inNB hown hK hP 4 rfl rfl 2 (by decide) (hts _ k69) (fun _ h9 => h9) rfl dNB_routerAt_1 ?_
  refine lv_iload_n hx hb dNB_routerAt_4 rfl (lv_at hl 1 rfl) ?_
  refine ir_iald hx hb hK hP 7 0 rfl rfl (k := j) (by omega) (by decide) dNB_routerAt_5 ?_
  exact r_iret hx hb hr (rfl) hlocks dNB_routerAt_6
def LNB_heardOn (nS : Nat → Int32) (nP : Nat → Int32) (nR : Nat → Int32) (x : Int32) : Nat → Nat → Int64 → Int64
  | 0, k, w => w
  | n + 1, k, w => (if (nS k) = 0 then LNB_heardOn nS nP nR x n (k + 1) w else (if (nP k) = x then LNB_heardOn nS nP nR x n (k + 1) (w ||| (bW (nR k))) else LNB_heardOn nS nP nR x n (k + 1) w))
set_option maxHeartbeats 4000000 in
set_option maxRecDepth 100000 in
theorem lpNB_heardOn {p : Program} {l : Launch} {e : Env} {s : State} {m : MethodId} {args : Array Value} {below : List Frame} {meth : Method} {c : Code} {D : va_G} {cI cL : ClassId} {a : Nat → Nat}  (F : gFix p c cNB_heardOn meth (some .long) m s args bigW RNB 5) (hK : va_K D vwCl (tyC cI cL) s) {dI : Nat} {dO : Int32} {dG : Int32} {dN : Int32} {dT : Int32} {aN : Nat → Int32} {aB : Nat → Int32} {nS : Nat → Int32} {nP : Nat → Int32} {nR : Nat → Int32} {nG : Nat → Int32} {nO : Nat → Int64} {nU : Nat → Int64} {nT : Nat → Int32} {tP : Nat → Int32} {tR : Nat → Int32} {tO : Nat → Int32} {tN : Nat → Int32} {tF : Nat} {tZ : Nat} {mP : Nat → Int32} {mN : Int64} {x : Int32}  (post : Int64 → Prop) : ∀ (n k : Nat) (w : Int64)  (ls : Array Slot), k + n = 16 → va_P D vwCl (wC cI cL a ((dI, dO, dG, dN, dT), (aN, aB), (nS, nP, nR, nG, nO, nU, nT), (tP, tR, tO, tN, tF, tZ), (mP, mN))) s.heap → lv_has ls 5 [(4, .int (nI k)), (2, .long w), (0, .ref (a 4)), (1, .int x)] → post (LNB_heardOn nS nP nR x n k w) → W p l e ({ frames := 0, cells := 0, slots := 0, locals := 0 }) s m args below meth c s.heap [] 0 0 (MQ below (vp_Sl post) args s 0 0 (fun _ => False)) (F0 m 5 ls []) := by
  obtain ⟨hx, hb, hr, hml, hown, hts, hlocks⟩ := F
  intro n
  induction n with
  | zero =>
    intro k w ls hkn  hP hl hq
    refine lv_iload hx hb dNB_heardOn_5 (lv_at hl 0 rfl) ?_
    refine lv_bipush (v := nI 16) hx hb dNB_heardOn_7 (by decide) ?_
    refine lv_icmp_ge (tgt := 51) hx hb dNB_heardOn_9 (by decide) (fun _ => ?_) (fun c0 => absurd (nI_le (by omega) (by omega)) c0)
    refine lv_lload_n hx hb dNB_heardOn_51 rfl (lv_at hl 1 rfl) ?_
    have e1 : LNB_heardOn nS nP nR x 0 k w = w := by simp only [LNB_heardOn]
    rw [e1] at hq
    exact r_lret hx hb hr hq hlocks dNB_heardOn_52
  | succ n ih =>
    intro k w ls hkn  hP hl hq
    refine lv_iload hx hb dNB_heardOn_5 (lv_at hl 0 rfl) ?_
    refine lv_bipush (v := nI 16) hx hb dNB_heardOn_7 (by decide) ?_
    refine lv_icmp_ge (tgt := 51) hx hb dNB_heardOn_9 (by decide) (fun c0 => absurd c0 (nI_ge (by omega) (by decide))) (fun _ => ?_)
    refine lv_aload_n hx hb dNB_heardOn_12 rfl (lv_at hl 2 rfl) ?_
    refine va_get (D := D) (ci := 2) (v := .ref (a 5)) (C := RNB) (T := TNB) (N := 7) hx hb hts inNB hown hK hP 4 rfl rfl 0 (by decide) (hts _ k67) (fun _ h9 => h9) rfl dNB_heardOn_13 ?_
    refine lv_iload hx hb dNB_heardOn_16 (lv_at hl 0 rfl) ?_
    refine ir_iald hx hb hK hP 5 0 rfl rfl (k := k) (by omega) (by decide) dNB_heardOn_18 ?_
    refine lv_if_eq (tgt := 45) hx hb dNB_heardOn_19 (by decide) (fun c3 => ?_) (fun c3 => ?_)
    · refine lv_iinc (v := nI (k + 1)) (lv' := [(4, .int (nI (k + 1))), (2, .long w), (0, .ref (a 4)), (1, .int x)]) hx hb dNB_heardOn_45 hl (k := 0) rfl (nI_1 k) (by decide) rfl (fun ls hl => ?_)
      refine lv_goto (tgt := 5) hx hb dNB_heardOn_48 (by decide) ?_
      have e1 : LNB_heardOn nS nP nR x (n + 1) k w = LNB_heardOn nS nP nR x n (k + 1) w := by simp only [LNB_heardOn, if_pos c3]
      rw [e1] at hq
      exact ih (k + 1) w ls (by omega)  hP (lv_sub hl [0, 1, 2, 3] rfl) hq
    · refine lv_aload_n hx hb dNB_heardOn_22 rfl (lv_at hl 2 rfl) ?_
      refine va_get (D := D) (ci := 2) (v := .ref (a 6)) (C := RNB) (T := TNB) (N := 7) hx hb hts inNB hown hK hP 4 rfl rfl 1 (by decide) (hts _ k68) (fun _ h9 => h9) rfl dNB_heardOn_23 ?_
      refine lv_iload hx hb dNB_heardOn_26 (lv_at hl 0 rfl) ?_
      refine ir_iald hx hb hK hP 6 0 rfl rfl (k := k) (by omega) (by decide) dNB_heardOn_28 ?_
      refine lv_iload_n hx hb dNB_heardOn_29 rfl (lv_at hl 3 rfl) ?_
      refine lv_icmp_ne (tgt := 45) hx hb dNB_heardOn_30 (by decide) (fun c4 => ?_) (fun c4 => ?_)
      · refine lv_iinc (v := nI (k + 1)) (lv' := [(4, .int (nI (k + 1))), (2, .long w), (0, .ref (a 4)), (1, .int x)]) hx hb dNB_heardOn_45 hl (k := 0) rfl (nI_1 k) (by decide) rfl (fun ls hl => ?_)
        refine lv_goto (tgt := 5) hx hb dNB_heardOn_48 (by decide) ?_
        have e1 : LNB_heardOn nS nP nR x (n + 1) k w = LNB_heardOn nS nP nR x n (k + 1) w := by simp only [LNB_heardOn, if_neg c3, if_neg c4]
        rw [e1] at hq
        exact ih (k + 1) w ls (by omega)  hP (lv_sub hl [0, 1, 2, 3] rfl) hq
      · refine lv_lload_n hx hb dNB_heardOn_33 rfl (lv_at hl 1 rfl) ?_
        refine lv_lconst (v := 1) hx hb dNB_heardOn_34 (by decide) ?_
        refine lv_aload_n hx hb dNB_heardOn_35 rfl (lv_at hl 2 rfl) ?_
        refine va_get (D := D) (ci := 2) (v := .ref (a 7)) (C := RNB) (T := TNB) (N := 7) hx hb hts inNB hown hK hP 4 rfl rfl 2 (by decide) (hts _ k69) (fun _ h9 => h9) rfl dNB_heardOn_36 ?_
        refine lv_iload hx hb dNB_heardOn_39 (lv_at hl 0 rfl) ?_
        refine ir_iald hx hb hK hP 7 0 rfl rfl (k := k) (by omega) (by decide) dNB_heardOn_41 ?_
        refine lv_lshl (v := bW (nR k)) hx hb dNB_heardOn_42 rfl ?_
        refine lv_lor hx hb dNB_heardOn_43 ?_
        refine lv_lstore_n (lv' := [(2, .long (w ||| (bW (nR k)))), (4, .int (nI k)), (0, .ref (a 4)), (1, .int x)]) hx hb dNB_heardOn_44 rfl hl (by decide) rfl (fun ls hl => ?_)
        refine lv_iinc (v := nI (k + 1)) (lv' := [(4, .int (nI (k + 1))), (2, .long (w ||| (bW (nR k)))), (0, .ref (a 4)), (1, .int x)]) hx hb dNB_heardOn_45 hl (k := 1) rfl (nI_1 k) (by decide) rfl (fun ls hl => ?_)
        refine lv_goto (tgt := 5) hx hb dNB_heardOn_48 (by decide) ?_
        have e1 : LNB_heardOn nS nP nR x (n + 1) k w = LNB_heardOn nS nP nR x n (k + 1) (w ||| (bW (nR k))) := by simp only [LNB_heardOn, if_neg c3, if_pos c4]
        rw [e1] at hq
        exact ih (k + 1) (w ||| (bW (nR k))) ls (by omega)  hP (lv_sub hl [0, 1, 2, 3] rfl) hq
set_option maxHeartbeats 4000000 in
set_option maxRecDepth 100000 in
theorem c_NB_heardOn (l : Launch) {D : va_G} {cI cL : ClassId} {a : Nat → Nat}  (dI : Nat) (dO dG dN dT : Int32) (aN aB : Nat → Int32) (nS nP nR nG : Nat → Int32) (nO nU : Nat → Int64) (nT : Nat → Int32) (tP tR tO tN : Nat → Int32) (tF tZ : Nat) (mP : Nat → Int32) (mN : Int64) (x : Int32)  : Met l yNB_heardOn wsNB_heardOn ({ frames := 0, cells := 0, slots := 0, locals := 0 }) (va_Pc [.ref (a 4), .int x] (gG D (tyC cI cL) (wC cI cL a) ((dI, dO, dG, dN, dT), (aN, aB), (nS, nP, nR, nG, nO, nU, nT), (tP, tR, tO, tN, tF, tZ), (mP, mN)))) (vp_Sl (fun r : Int64 => r = LNB_heardOn nS nP nR x 16 0 0)) 0 0 (fun _ => False) := by
  refine g_enter (by decide) rfl (Nat.le_of_ble_eq_true rfl) ?_
  intro p e s m below meth c ls F hK hP hl
  obtain ⟨hx, hb, hr, hml, hown, hts, hlocks⟩ := id F
  have hl : lv_has ls 5 [(0, .ref (a 4)), (1, .int x)] := hl
  refine lv_lconst (v := 0) hx hb dNB_heardOn_0 (by decide) ?_
  refine lv_lstore_n (lv' := [(2, .long 0), (0, .ref (a 4)), (1, .int x)]) hx hb dNB_heardOn_1 rfl hl (by decide) rfl (fun ls hl => ?_)
  refine lv_iconst (v := nI 0) hx hb dNB_heardOn_2 (by decide) ?_
  refine lv_istore (lv' := [(4, .int (nI 0)), (2, .long 0), (0, .ref (a 4)), (1, .int x)]) hx hb dNB_heardOn_3 hl (by decide) rfl (fun ls hl => ?_)
  exact lpNB_heardOn F hK  _ 16 0 0 ls rfl  hP (lv_sub hl [0, 1, 2, 3] rfl) rfl
def fNB_standingOf (nS : Nat → Int32) (nP : Nat → Int32) (nR : Nat → Int32) (x : Int32) (y : Int32) : Int32 := (match LNB_heardPlace nS nP nR x y 16 0  with | none => 0 | some k1 => nS k1)
set_option maxHeartbeats 4000000 in
set_option maxRecDepth 100000 in
theorem c_NB_standingOf (l : Launch) {D : va_G} {cI cL : ClassId} {a : Nat → Nat}  (dI : Nat) (dO dG dN dT : Int32) (aN aB : Nat → Int32) (nS nP nR nG : Nat → Int32) (nO nU : Nat → Int64) (nT : Nat → Int32) (tP tR tO tN : Nat → Int32) (tF tZ : Nat) (mP : Nat → Int32) (mN : Int64) (x : Int32) (y : Int32)  : Met l yNB_standingOf wsNB_standingOf ({ frames := 1, cells := 0, slots := 0, locals := 23 }) (va_Pc [.ref (a 4), .int x, .int y] (gG D (tyC cI cL) (wC cI cL a) ((dI, dO, dG, dN, dT), (aN, aB), (nS, nP, nR, nG, nO, nU, nT), (tP, tR, tO, tN, tF, tZ), (mP, mN)))) (vp_Si (fun r : Int32 => r = fNB_standingOf nS nP nR x y)) 0 0 (fun _ => False) := by
  refine g_enter (by decide) rfl (Nat.le_of_ble_eq_true rfl) ?_
  intro p e s m below meth c ls F hK hP hl
  obtain ⟨hx, hb, hr, hml, hown, hts, hlocks⟩ := id F
  have hl : lv_has ls 4 [(0, .ref (a 4)), (1, .int x), (2, .int y)] := hl
  refine lv_aload_n hx hb dNB_standingOf_0 rfl (lv_at hl 0 rfl) ?_
  refine lv_iload_n hx hb dNB_standingOf_1 rfl (lv_at hl 1 rfl) ?_
  refine lv_iload_n hx hb dNB_standingOf_2 rfl (lv_at hl 2 rfl) ?_
  refine g_roVi (As := [.int x, .int y]) (rest := []) ⟨hx, hb, hml, hown, hts⟩ (c_NB_heardPlace l dI dO dG dN dT aN aB nS nP nR nG nO nU nT tP tR tO tN tF tZ mP mN x y) (cwV 2 hts (gw_V k411 k413 k12 k29 k414) rfl rfl rfl (by decide +kernel) ⟨Nat.le_of_ble_eq_true rfl, Nat.le_of_ble_eq_true rfl⟩) hK hP (va_recv hK hP (ci := 2) (q0 := 4) rfl rfl) rfl hl.1 rfl (Nat.le_of_ble_eq_true rfl) dNB_standingOf_3 ⟨Nat.zero_le _, Nat.zero_le _⟩ ?_
  rcases ho2 : LNB_heardPlace nS nP nR x y 16 0  with _ | k1
  · refine lv_istore_n (lv' := [(3, .int (oi none)), (0, .ref (a 4)), (1, .int x), (2, .int y)]) hx hb dNB_standingOf_6 rfl hl (by decide) rfl (fun ls hl => ?_)
    refine lv_iload_n hx hb dNB_standingOf_7 rfl (lv_at hl 0 rfl) ?_
    refine lv_iconst (v := (-1)) hx hb dNB_standingOf_8 (by decide) ?_
    refine lv_icmp_ne (tgt := 16) hx hb dNB_standingOf_9 (by decide) (fun c0 => absurd rfl c0) (fun _ => ?_)
    refine lv_iconst (v := 0) hx hb dNB_standingOf_12 (by decide) ?_
    refine lv_goto (tgt := 22) hx hb dNB_standingOf_13 (by decide) ?_
    have e1 : fNB_standingOf nS nP nR x y = 0 := by simp only [fNB_standingOf, ho2, cond_true, cond_false]
    exact r_iret hx hb hr (by first | rfl | (rw [e1] <;> rfl)) hlocks dNB_standingOf_22
  · have hk1 := c_NB_heardPlace_lt ho2
    refine lv_istore_n (lv' := [(3, .int (nI k1)), (0, .ref (a 4)), (1, .int x), (2, .int y)]) hx hb dNB_standingOf_6 rfl hl (by decide) rfl (fun ls hl => ?_)
    refine lv_iload_n hx hb dNB_standingOf_7 rfl (lv_at hl 0 rfl) ?_
    refine lv_iconst (v := (-1)) hx hb dNB_standingOf_8 (by decide) ?_
    refine lv_icmp_ne (tgt := 16) hx hb dNB_standingOf_9 (by decide) (fun _ => ?_) (fun c0 => absurd c0 (nI_m1 (by omega)))
    refine lv_aload_n hx hb dNB_standingOf_16 rfl (lv_at hl 1 rfl) ?_
    refine va_get (D := D) (ci := 2) (v := .ref (a 5)) (C := RNB) (T := TNB) (N := 7) hx hb hts inNB hown hK hP 4 rfl rfl 0 (by decide) (hts _ k67) (fun _ h9 => h9) rfl dNB_standingOf_17 ?_
    refine lv_iload_n hx hb dNB_standingOf_20 rfl (lv_at hl 0 rfl) ?_
    refine ir_iald hx hb hK hP 5 0 rfl rfl (k := k1) (by omega) (by decide) dNB_standingOf_21 ?_
    have e1 : fNB_standingOf nS nP nR x y = nS k1 := by simp only [fNB_standingOf, ho2, cond_true, cond_false]
    exact r_iret hx hb hr (by first | rfl | (rw [e1] <;> rfl)) hlocks dNB_standingOf_22
def LNB_atLeast (nS : Nat → Int32) (x : Int32) : Nat → Nat → Int32 → Int32
  | 0, k, g => g
  | n + 1, k, g => (if (nS k) < x then LNB_atLeast nS x n (k + 1) g else LNB_atLeast nS x n (k + 1) (g + 1))
set_option maxHeartbeats 4000000 in
set_option maxRecDepth 100000 in
theorem lpNB_atLeast {p : Program} {l : Launch} {e : Env} {s : State} {m : MethodId} {args : Array Value} {below : List Frame} {meth : Method} {c : Code} {D : va_G} {cI cL : ClassId} {a : Nat → Nat}  (F : gFix p c cNB_atLeast meth (some .int) m s args bigW RNB 4) (hK : va_K D vwCl (tyC cI cL) s) {dI : Nat} {dO : Int32} {dG : Int32} {dN : Int32} {dT : Int32} {aN : Nat → Int32} {aB : Nat → Int32} {nS : Nat → Int32} {nP : Nat → Int32} {nR : Nat → Int32} {nG : Nat → Int32} {nO : Nat → Int64} {nU : Nat → Int64} {nT : Nat → Int32} {tP : Nat → Int32} {tR : Nat → Int32} {tO : Nat → Int32} {tN : Nat → Int32} {tF : Nat} {tZ : Nat} {mP : Nat → Int32} {mN : Int64} {x : Int32}  (post : Int32 → Prop) : ∀ (n k : Nat) (g : Int32)  (ls : Array Slot), k + n = 16 → va_P D vwCl (wC cI cL a ((dI, dO, dG, dN, dT), (aN, aB), (nS, nP, nR, nG, nO, nU, nT), (tP, tR, tO, tN, tF, tZ), (mP, mN))) s.heap → lv_has ls 4 [(3, .int (nI k)), (2, .int g), (0, .ref (a 4)), (1, .int x)] → post (LNB_atLeast nS x n k g) → W p l e ({ frames := 0, cells := 0, slots := 0, locals := 0 }) s m args below meth c s.heap [] 0 0 (MQ below (vp_Si post) args s 0 0 (fun _ => False)) (F0 m 4 ls []) := by
  obtain ⟨hx, hb, hr, hml, hown, hts, hlocks⟩ := F
  intro n
  induction n with
  | zero =>
    intro k g ls hkn  hP hl hq
    refine lv_iload_n hx hb dNB_atLeast_4 rfl (lv_at hl 0 rfl) ?_
    refine lv_bipush (v := nI 16) hx hb dNB_atLeast_5 (by decide) ?_
    refine lv_icmp_ge (tgt := 29) hx hb dNB_atLeast_7 (by decide) (fun _ => ?_) (fun c0 => absurd (nI_le (by omega) (by omega)) c0)
    refine lv_iload_n hx hb dNB_atLeast_29 rfl (lv_at hl 1 rfl) ?_
    have e1 : LNB_atLeast nS x 0 k g = g := by simp only [LNB_atLeast]
    rw [e1] at hq
    exact r_iret hx hb hr hq hlocks dNB_atLeast_30
  | succ n ih =>
    intro k g ls hkn  hP hl hq
    refine lv_iload_n hx hb dNB_atLeast_4 rfl (lv_at hl 0 rfl) ?_
    refine lv_bipush (v := nI 16) hx hb dNB_atLeast_5 (by decide) ?_
    refine lv_icmp_ge (tgt := 29) hx hb dNB_atLeast_7 (by decide) (fun c0 => absurd c0 (nI_ge (by omega) (by decide))) (fun _ => ?_)
    refine lv_aload_n hx hb dNB_atLeast_10 rfl (lv_at hl 2 rfl) ?_
    refine va_get (D := D) (ci := 2) (v := .ref (a 5)) (C := RNB) (T := TNB) (N := 7) hx hb hts inNB hown hK hP 4 rfl rfl 0 (by decide) (hts _ k67) (fun _ h9 => h9) rfl dNB_atLeast_11 ?_
    refine lv_iload_n hx hb dNB_atLeast_14 rfl (lv_at hl 0 rfl) ?_
    refine ir_iald hx hb hK hP 5 0 rfl rfl (k := k) (by omega) (by decide) dNB_atLeast_15 ?_
    refine lv_iload_n hx hb dNB_atLeast_16 rfl (lv_at hl 3 rfl) ?_
    refine lv_icmp_lt (tgt := 23) hx hb dNB_atLeast_17 (by decide) (fun c3 => ?_) (fun c3 => ?_)
    · refine lv_iinc (v := nI (k + 1)) (lv' := [(3, .int (nI (k + 1))), (2, .int g), (0, .ref (a 4)), (1, .int x)]) hx hb dNB_atLeast_23 hl (k := 0) rfl (nI_1 k) (by decide) rfl (fun ls hl => ?_)
      refine lv_goto (tgt := 4) hx hb dNB_atLeast_26 (by decide) ?_
      have e1 : LNB_atLeast nS x (n + 1) k g = LNB_atLeast nS x n (k + 1) g := by simp only [LNB_atLeast, if_pos c3]
      rw [e1] at hq
      exact ih (k + 1) g ls (by omega)  hP (lv_sub hl [0, 1, 2, 3] rfl) hq
    · refine lv_iinc (v := g + 1) (lv' := [(2, .int (g + 1)), (3, .int (nI k)), (0, .ref (a 4)), (1, .int x)]) hx hb dNB_atLeast_20 hl (k := 1) rfl rfl (by decide) rfl (fun ls hl => ?_)
      refine lv_iinc (v := nI (k + 1)) (lv' := [(3, .int (nI (k + 1))), (2, .int (g + 1)), (0, .ref (a 4)), (1, .int x)]) hx hb dNB_atLeast_23 hl (k := 1) rfl (nI_1 k) (by decide) rfl (fun ls hl => ?_)
      refine lv_goto (tgt := 4) hx hb dNB_atLeast_26 (by decide) ?_
      have e1 : LNB_atLeast nS x (n + 1) k g = LNB_atLeast nS x n (k + 1) (g + 1) := by simp only [LNB_atLeast, if_neg c3]
      rw [e1] at hq
      exact ih (k + 1) (g + 1) ls (by omega)  hP (lv_sub hl [0, 1, 2, 3] rfl) hq
set_option maxHeartbeats 4000000 in
set_option maxRecDepth 100000 in
theorem c_NB_atLeast (l : Launch) {D : va_G} {cI cL : ClassId} {a : Nat → Nat}  (dI : Nat) (dO dG dN dT : Int32) (aN aB : Nat → Int32) (nS nP nR nG : Nat → Int32) (nO nU : Nat → Int64) (nT : Nat → Int32) (tP tR tO tN : Nat → Int32) (tF tZ : Nat) (mP : Nat → Int32) (mN : Int64) (x : Int32)  : Met l yNB_atLeast wsNB_atLeast ({ frames := 0, cells := 0, slots := 0, locals := 0 }) (va_Pc [.ref (a 4), .int x] (gG D (tyC cI cL) (wC cI cL a) ((dI, dO, dG, dN, dT), (aN, aB), (nS, nP, nR, nG, nO, nU, nT), (tP, tR, tO, tN, tF, tZ), (mP, mN)))) (vp_Si (fun r : Int32 => r = LNB_atLeast nS x 16 0 0)) 0 0 (fun _ => False) := by
  refine g_enter (by decide) rfl (Nat.le_of_ble_eq_true rfl) ?_
  intro p e s m below meth c ls F hK hP hl
  obtain ⟨hx, hb, hr, hml, hown, hts, hlocks⟩ := id F
  have hl : lv_has ls 4 [(0, .ref (a 4)), (1, .int x)] := hl
  refine lv_iconst (v := 0) hx hb dNB_atLeast_0 (by decide) ?_
  refine lv_istore_n (lv' := [(2, .int 0), (0, .ref (a 4)), (1, .int x)]) hx hb dNB_atLeast_1 rfl hl (by decide) rfl (fun ls hl => ?_)
  refine lv_iconst (v := nI 0) hx hb dNB_atLeast_2 (by decide) ?_
  refine lv_istore_n (lv' := [(3, .int (nI 0)), (2, .int 0), (0, .ref (a 4)), (1, .int x)]) hx hb dNB_atLeast_3 rfl hl (by decide) rfl (fun ls hl => ?_)
  exact lpNB_atLeast F hK  _ 16 0 0 ls rfl  hP (lv_sub hl [0, 1, 2, 3] rfl) rfl
end
section
def fDB_isRouter (x : Int32) : Bool := (if x < 0 then false else (if 64 ≤ x then false else true))
set_option maxHeartbeats 4000000 in
set_option maxRecDepth 100000 in
theorem c_DB_isRouter (l : Launch) {D : va_G} {cI cL : ClassId} {a : Nat → Nat}  (dI : Nat) (dO dG dN dT : Int32) (aN aB : Nat → Int32) (nS nP nR nG : Nat → Int32) (nO nU : Nat → Int64) (nT : Nat → Int32) (tP tR tO tN : Nat → Int32) (tF tZ : Nat) (mP : Nat → Int32) (mN : Int64) (x : Int32)  : Met l yDB_isRouter wsDB_isRouter ({ frames := 0, cells := 0, slots := 0, locals := 0 }) (va_Pc [.int x] (gG D (tyC cI cL) (wC cI cL a) ((dI, dO, dG, dN, dT), (aN, aB), (nS, nP, nR, nG, nO, nU, nT), (tP, tR, tO, tN, tF, tZ), (mP, mN)))) (vp_Si (fun r : Int32 => r = bi (fDB_isRouter x))) 0 0 (fun _ => False) := by
  refine g_enter (by decide) rfl (Nat.le_of_ble_eq_true rfl) ?_
  intro p e s m below meth c ls F hK hP hl
  obtain ⟨hx, hb, hr, hml, hown, hts, hlocks⟩ := id F
  have hl : lv_has ls 1 [(0, .int x)] := hl
  refine lv_iload_n hx hb dDB_isRouter_0 rfl (lv_at hl 0 rfl) ?_
  refine lv_if_lt (tgt := 14) hx hb dDB_isRouter_1 (by decide) (fun c1 => ?_) (fun c1 => ?_)
  · refine lv_iconst (v := bi false) hx hb dDB_isRouter_14 (by decide) ?_
    have e1 : fDB_isRouter x = false := by simp only [fDB_isRouter, if_pos c1]
    exact r_zret hx hb hr (by first | rfl | (rw [e1] <;> rfl)) hlocks dDB_isRouter_15
  · refine lv_iload_n hx hb dDB_isRouter_4 rfl (lv_at hl 0 rfl) ?_
    refine lv_bipush (v := 64) hx hb dDB_isRouter_5 (by decide) ?_
    refine lv_icmp_ge (tgt := 14) hx hb dDB_isRouter_7 (by decide) (fun c2 => ?_) (fun c2 => ?_)
    · refine lv_iconst (v := bi false) hx hb dDB_isRouter_14 (by decide) ?_
      have e1 : fDB_isRouter x = false := by simp only [fDB_isRouter, if_neg c1, if_pos c2]
      exact r_zret hx hb hr (by first | rfl | (rw [e1] <;> rfl)) hlocks dDB_isRouter_15
    · refine lv_iconst (v := bi true) hx hb dDB_isRouter_10 (by decide) ?_
      refine lv_goto (tgt := 15) hx hb dDB_isRouter_11 (by decide) ?_
      have e1 : fDB_isRouter x = true := by simp only [fDB_isRouter, if_neg c1, if_neg c2]
      exact r_zret hx hb hr (by first | rfl | (rw [e1] <;> rfl)) hlocks dDB_isRouter_15
theorem isRouter_K {k : Nat} (h : k < 64) : fDB_isRouter (nI k) = true := by
  unfold fDB_isRouter
  rw [if_neg (nI_pos (by omega)), if_neg (show ¬ (64 : Int32) ≤ nI k from nI_ge (a := k) (b := 64) h (by decide))]
set_option maxHeartbeats 4000000 in
set_option maxRecDepth 100000 in
theorem c_DB_requireRouter (l : Launch) {D : va_G} {cI cL : ClassId} {a : Nat → Nat}  (dI : Nat) (dO dG dN dT : Int32) (aN aB : Nat → Int32) (nS nP nR nG : Nat → Int32) (nO nU : Nat → Int64) (nT : Nat → Int32) (tP tR tO tN : Nat → Int32) (tF tZ : Nat) (mP : Nat → Int32) (mN : Int64) (o : Nat) (ho : o < 64) : Met l yDB_requireRouter wsDB_requireRouter ({ frames := 1, cells := 0, slots := 0, locals := 20 }) (va_Pc [.int (nI o)] (gG D (tyC cI cL) (wC cI cL a) ((dI, dO, dG, dN, dT), (aN, aB), (nS, nP, nR, nG, nO, nU, nT), (tP, tR, tO, tN, tF, tZ), (mP, mN)))) (va_Sv (fun _ => True)) 0 0 (fun _ => False) := by
  refine g_enter (by decide) rfl (Nat.le_of_ble_eq_true rfl) ?_
  intro p e s m below meth c ls F hK hP hl
  obtain ⟨hx, hb, hr, hml, hown, hts, hlocks⟩ := id F
  have hl : lv_has ls 1 [(0, .int (nI o))] := hl
  refine lv_iload_n hx hb dDB_requireRouter_0 rfl (lv_at hl 0 rfl) ?_
  refine g_roSi (As := [.int (nI o)]) (rest := []) ⟨hx, hb, hml, hown, hts⟩ (c_DB_isRouter l dI dO dG dN dT aN aB nS nP nR nG nO nU nT tP tR tO tN tF tZ mP mN (nI o)) (cw_S 1 hts k383 k384 k27 k385 rfl rfl rfl (by decide +kernel) ⟨Nat.le_of_ble_eq_true rfl, Nat.le_of_ble_eq_true rfl⟩) hK hP rfl hl.1 rfl (Nat.le_of_ble_eq_true rfl) dDB_requireRouter_1 ⟨Nat.zero_le _, Nat.zero_le _⟩ ?_
  refine lv_if_neb (tgt := 17) hx hb dDB_requireRouter_4 (by decide) (fun c1 => ?_) (fun c1 => absurd c1 (by rw [isRouter_K (by omega)]; decide))
  exact r_vret hx hb hr trivial hlocks dDB_requireRouter_17
set_option maxHeartbeats 4000000 in
set_option maxRecDepth 100000 in
theorem c_DB_requirePort (l : Launch) {D : va_G} {cI cL : ClassId} {a : Nat → Nat}  (dI : Nat) (dO dG dN dT : Int32) (aN aB : Nat → Int32) (nS nP nR nG : Nat → Int32) (nO nU : Nat → Int64) (nT : Nat → Int32) (tP tR tO tN : Nat → Int32) (tF tZ : Nat) (mP : Nat → Int32) (mN : Int64) (q : Nat) (hq : q < 8) : Met l yDB_requirePort wsDB_requirePort ({ frames := 0, cells := 0, slots := 0, locals := 0 }) (va_Pc [.int (nI q)] (gG D (tyC cI cL) (wC cI cL a) ((dI, dO, dG, dN, dT), (aN, aB), (nS, nP, nR, nG, nO, nU, nT), (tP, tR, tO, tN, tF, tZ), (mP, mN)))) (va_Sv (fun _ => True)) 0 0 (fun _ => False) := by
  refine g_enter (by decide) rfl (Nat.le_of_ble_eq_true rfl) ?_
  intro p e s m below meth c ls F hK hP hl
  obtain ⟨hx, hb, hr, hml, hown, hts, hlocks⟩ := id F
  have hl : lv_has ls 1 [(0, .int (nI q))] := hl
  refine lv_iload_n hx hb dDB_requirePort_0 rfl (lv_at hl 0 rfl) ?_
  refine lv_if_lt (tgt := 10) hx hb dDB_requirePort_1 (by decide) (fun c1 => absurd c1 (nI_pos (by omega))) (fun c1 => ?_)
  refine lv_iload_n hx hb dDB_requirePort_4 rfl (lv_at hl 0 rfl) ?_
  refine lv_bipush (v := nI 8) hx hb dDB_requirePort_5 (by decide) ?_
  refine lv_icmp_lt (tgt := 20) hx hb dDB_requirePort_7 (by decide) (fun c2 => ?_) (fun c2 => absurd ((nI_ltI (by omega) (by omega)).mpr (by omega)) c2)
  exact r_vret hx hb hr trivial hlocks dDB_requirePort_20
set_option maxHeartbeats 4000000 in
set_option maxRecDepth 100000 in
theorem c_DB_requireNumber (l : Launch) {D : va_G} {cI cL : ClassId} {a : Nat → Nat}  (dI : Nat) (dO dG dN dT : Int32) (aN aB : Nat → Int32) (nS nP nR nG : Nat → Int32) (nO nU : Nat → Int64) (nT : Nat → Int32) (tP tR tO tN : Nat → Int32) (tF tZ : Nat) (mP : Nat → Int32) (mN : Int64) (x : Int32) (h1 : ¬ x < 1) (h2 : x ≤ 1000000000) : Met l yDB_requireNumber wsDB_requireNumber ({ frames := 0, cells := 0, slots := 0, locals := 0 }) (va_Pc [.int x] (gG D (tyC cI cL) (wC cI cL a) ((dI, dO, dG, dN, dT), (aN, aB), (nS, nP, nR, nG, nO, nU, nT), (tP, tR, tO, tN, tF, tZ), (mP, mN)))) (va_Sv (fun _ => True)) 0 0 (fun _ => False) := by
  refine g_enter (by decide) rfl (Nat.le_of_ble_eq_true rfl) ?_
  intro p e s m below meth c ls F hK hP hl
  obtain ⟨hx, hb, hr, hml, hown, hts, hlocks⟩ := id F
  have hl : lv_has ls 1 [(0, .int x)] := hl
  refine lv_iload_n hx hb dDB_requireNumber_0 rfl (lv_at hl 0 rfl) ?_
  refine lv_iconst (v := 1) hx hb dDB_requireNumber_1 (by decide) ?_
  refine lv_icmp_lt (tgt := 11) hx hb dDB_requireNumber_2 (by decide) (fun c1 => absurd c1 h1) (fun c1 => ?_)
  refine lv_iload_n hx hb dDB_requireNumber_5 rfl (lv_at hl 0 rfl) ?_
  refine lv_ldc (v := 1000000000) hx hb hown (hts _ k445) dDB_requireNumber_6 ?_
  refine lv_icmp_le (tgt := 21) hx hb dDB_requireNumber_8 (by decide) (fun c2 => ?_) (fun c2 => absurd h2 c2)
  exact r_vret hx hb hr trivial hlocks dDB_requireNumber_21
set_option maxHeartbeats 4000000 in
set_option maxRecDepth 100000 in
theorem c_DB_requireSender (l : Launch) {D : va_G} {cI cL : ClassId} {a : Nat → Nat}  (dI : Nat) (dO dG dN dT : Int32) (aN aB : Nat → Int32) (nS nP nR nG : Nat → Int32) (nO nU : Nat → Int64) (nT : Nat → Int32) (tP tR tO tN : Nat → Int32) (tF tZ : Nat) (mP : Nat → Int32) (mN : Int64) (o : Nat) (ho : o < 64) (hne : ¬ o = dI) (hI : dI < 64) : Met l yDB_requireSender wsDB_requireSender ({ frames := 1, cells := 0, slots := 0, locals := 20 }) (va_Pc [.ref (a 0), .int (nI o)] (gG D (tyC cI cL) (wC cI cL a) ((dI, dO, dG, dN, dT), (aN, aB), (nS, nP, nR, nG, nO, nU, nT), (tP, tR, tO, tN, tF, tZ), (mP, mN)))) (va_Sv (fun _ => True)) 0 0 (fun _ => False) := by
  refine g_enter (by decide) rfl (Nat.le_of_ble_eq_true rfl) ?_
  intro p e s m below meth c ls F hK hP hl
  obtain ⟨hx, hb, hr, hml, hown, hts, hlocks⟩ := id F
  have hl : lv_has ls 2 [(0, .ref (a 0)), (1, .int (nI o))] := hl
  refine lv_iload_n hx hb dDB_requireSender_0 rfl (lv_at hl 1 rfl) ?_
  refine g_roSi (As := [.int (nI o)]) (rest := []) ⟨hx, hb, hml, hown, hts⟩ (c_DB_isRouter l dI dO dG dN dT aN aB nS nP nR nG nO nU nT tP tR tO tN tF tZ mP mN (nI o)) (cw_S 1 hts k383 k384 k27 k385 rfl rfl rfl (by decide +kernel) ⟨Nat.le_of_ble_eq_true rfl, Nat.le_of_ble_eq_true rfl⟩) hK hP rfl hl.1 rfl (Nat.le_of_ble_eq_true rfl) dDB_requireSender_1 ⟨Nat.zero_le _, Nat.zero_le _⟩ ?_
  refine lv_if_eqb (tgt := 15) hx hb dDB_requireSender_4 (by decide) (fun c1 => absurd c1 (by rw [isRouter_K (by omega)]; decide)) (fun c1 => ?_)
  refine lv_iload_n hx hb dDB_requireSender_7 rfl (lv_at hl 1 rfl) ?_
  refine lv_aload_n hx hb dDB_requireSender_8 rfl (lv_at hl 0 rfl) ?_
  refine va_get (D := D) (ci := 4) (v := .int (nI dI)) (C := RDB) (T := TDB) (N := 9) hx hb hts inDB hown hK hP 0 rfl rfl 0 (by decide) (hts _ k128) (fun _ h9 => h9) rfl dDB_requireSender_9 ?_
  refine lv_icmp_ne (tgt := 25) hx hb dDB_requireSender_12 (by decide) (fun c2 => ?_) (fun c2 => absurd ((nI_eq (by omega) (by omega)).mp c2) (by omega))
  exact r_vret hx hb hr trivial hlocks dDB_requireSender_25
def fDB_isOn (dO : Int32) (q : Nat) : Bool := (if (dO &&& (bI q)) = 0 then false else true)
set_option maxHeartbeats 4000000 in
set_option maxRecDepth 100000 in
theorem c_DB_isOn (l : Launch) {D : va_G} {cI cL : ClassId} {a : Nat → Nat}  (dI : Nat) (dO dG dN dT : Int32) (aN aB : Nat → Int32) (nS nP nR nG : Nat → Int32) (nO nU : Nat → Int64) (nT : Nat → Int32) (tP tR tO tN : Nat → Int32) (tF tZ : Nat) (mP : Nat → Int32) (mN : Int64) (q : Nat) (hq : q < 8) : Met l yDB_isOn wsDB_isOn ({ frames := 0, cells := 0, slots := 0, locals := 0 }) (va_Pc [.ref (a 0), .int (nI q)] (gG D (tyC cI cL) (wC cI cL a) ((dI, dO, dG, dN, dT), (aN, aB), (nS, nP, nR, nG, nO, nU, nT), (tP, tR, tO, tN, tF, tZ), (mP, mN)))) (vp_Si (fun r : Int32 => r = bi (fDB_isOn dO q))) 0 0 (fun _ => False) := by
  refine g_enter (by decide) rfl (Nat.le_of_ble_eq_true rfl) ?_
  intro p e s m below meth c ls F hK hP hl
  obtain ⟨hx, hb, hr, hml, hown, hts, hlocks⟩ := id F
  have hl : lv_has ls 2 [(0, .ref (a 0)), (1, .int (nI q))] := hl
  refine lv_aload_n hx hb dDB_isOn_0 rfl (lv_at hl 0 rfl) ?_
  refine va_get (D := D) (ci := 4) (v := .int dO) (C := RDB) (T := TDB) (N := 9) hx hb hts inDB hown hK hP 0 rfl rfl 5 (by decide) (hts _ k133) (fun _ h9 => h9) rfl dDB_isOn_1 ?_
  refine lv_iconst (v := 1) hx hb dDB_isOn_4 (by decide) ?_
  refine lv_iload_n hx hb dDB_isOn_5 rfl (lv_at hl 1 rfl) ?_
  refine lv_ishl hx hb dDB_isOn_6 ?_
  refine lv_eqi (y := bI q) rfl ?_
  refine lv_iand hx hb dDB_isOn_7 ?_
  refine lv_if_eq (tgt := 15) hx hb dDB_isOn_8 (by decide) (fun c1 => ?_) (fun c1 => ?_)
  · refine lv_iconst (v := bi false) hx hb dDB_isOn_15 (by decide) ?_
    have e1 : fDB_isOn dO q = false := by simp only [fDB_isOn, if_pos c1]
    exact r_zret hx hb hr (by first | rfl | (rw [e1] <;> rfl)) hlocks dDB_isOn_16
  · refine lv_iconst (v := bi true) hx hb dDB_isOn_11 (by decide) ?_
    refine lv_goto (tgt := 16) hx hb dDB_isOn_12 (by decide) ?_
    have e1 : fDB_isOn dO q = true := by simp only [fDB_isOn, if_neg c1]
    exact r_zret hx hb hr (by first | rfl | (rw [e1] <;> rfl)) hlocks dDB_isOn_16
set_option maxHeartbeats 4000000 in
set_option maxRecDepth 100000 in
theorem c_DB_requireOn (l : Launch) {D : va_G} {cI cL : ClassId} {a : Nat → Nat}  (dI : Nat) (dO dG dN dT : Int32) (aN aB : Nat → Int32) (nS nP nR nG : Nat → Int32) (nO nU : Nat → Int64) (nT : Nat → Int32) (tP tR tO tN : Nat → Int32) (tF tZ : Nat) (mP : Nat → Int32) (mN : Int64) (q : Nat) (hq : q < 8) (hon : fDB_isOn dO q = true) : Met l yDB_requireOn wsDB_requireOn ({ frames := 1, cells := 0, slots := 0, locals := 21 }) (va_Pc [.ref (a 0), .int (nI q)] (gG D (tyC cI cL) (wC cI cL a) ((dI, dO, dG, dN, dT), (aN, aB), (nS, nP, nR, nG, nO, nU, nT), (tP, tR, tO, tN, tF, tZ), (mP, mN)))) (va_Sv (fun _ => True)) 0 0 (fun _ => False) := by
  refine g_enter (by decide) rfl (Nat.le_of_ble_eq_true rfl) ?_
  intro p e s m below meth c ls F hK hP hl
  obtain ⟨hx, hb, hr, hml, hown, hts, hlocks⟩ := id F
  have hl : lv_has ls 2 [(0, .ref (a 0)), (1, .int (nI q))] := hl
  refine lv_aload_n hx hb dDB_requireOn_0 rfl (lv_at hl 0 rfl) ?_
  refine lv_iload_n hx hb dDB_requireOn_1 rfl (lv_at hl 1 rfl) ?_
  refine g_roVi (As := [.int (nI q)]) (rest := []) ⟨hx, hb, hml, hown, hts⟩ (c_DB_isOn l dI dO dG dN dT aN aB nS nP nR nG nO nU nT tP tR tO tN tF tZ mP mN q (by first | omega | assumption)) (cwV 1 hts (gw_V k355 k357 k7 k27 k358) rfl rfl rfl (by decide +kernel) ⟨Nat.le_of_ble_eq_true rfl, Nat.le_of_ble_eq_true rfl⟩) hK hP (va_recv hK hP (ci := 4) (q0 := 0) rfl rfl) rfl hl.1 rfl (Nat.le_of_ble_eq_true rfl) dDB_requireOn_2 ⟨Nat.zero_le _, Nat.zero_le _⟩ ?_
  refine lv_if_neb (tgt := 18) hx hb dDB_requireOn_5 (by decide) (fun c1 => ?_) (fun c1 => absurd (c1.symm.trans hon) (by decide))
  exact r_vret hx hb hr trivial hlocks dDB_requireOn_18
set_option maxHeartbeats 4000000 in
set_option maxRecDepth 100000 in
theorem c_DB_requireLegal (l : Launch) {D : va_G} {cI cL : ClassId} {a : Nat → Nat}  (dI : Nat) (dO dG dN dT : Int32) (aN aB : Nat → Int32) (nS nP nR nG : Nat → Int32) (nO nU : Nat → Int64) (nT : Nat → Int32) (tP tR tO tN : Nat → Int32) (tF tZ : Nat) (mP : Nat → Int32) (mN : Int64) (q : Nat) (o : Nat) (g : Nat) (x : Int32) (hq : q < 8) (ho : o < 64) (hne : ¬ o = dI) (hI : dI < 64) (hg : g < 64) (h1 : ¬ x < 1) (h2 : x ≤ 1000000000) (hon : fDB_isOn dO q = true) : Met l yDB_requireLegal wsDB_requireLegal ({ frames := 2, cells := 0, slots := 0, locals := 42 }) (va_Pc [.ref (a 0), .int (nI q), .int (nI o), .int (nI g), .int x] (gG D (tyC cI cL) (wC cI cL a) ((dI, dO, dG, dN, dT), (aN, aB), (nS, nP, nR, nG, nO, nU, nT), (tP, tR, tO, tN, tF, tZ), (mP, mN)))) (va_Sv (fun _ => True)) 0 0 (fun _ => False) := by
  refine g_enter (by decide) rfl (Nat.le_of_ble_eq_true rfl) ?_
  intro p e s m below meth c ls F hK hP hl
  obtain ⟨hx, hb, hr, hml, hown, hts, hlocks⟩ := id F
  have hl : lv_has ls 5 [(0, .ref (a 0)), (1, .int (nI q)), (2, .int (nI o)), (3, .int (nI g)), (4, .int x)] := hl
  refine lv_iload_n hx hb dDB_requireLegal_0 rfl (lv_at hl 1 rfl) ?_
  refine g_roSv (As := [.int (nI q)]) (rest := []) ⟨hx, hb, hml, hown, hts⟩ (c_DB_requirePort l dI dO dG dN dT aN aB nS nP nR nG nO nU nT tP tR tO tN tF tZ mP mN q (by first | omega | assumption)) (cw_S 1 hts k285 k286 k27 k287 rfl rfl rfl (by decide +kernel) ⟨Nat.le_of_ble_eq_true rfl, Nat.le_of_ble_eq_true rfl⟩) hK hP rfl hl.1 rfl (Nat.le_of_ble_eq_true rfl) dDB_requireLegal_1 ⟨Nat.zero_le _, Nat.zero_le _⟩ ?_
  refine lv_aload_n hx hb dDB_requireLegal_4 rfl (lv_at hl 0 rfl) ?_
  refine lv_iload_n hx hb dDB_requireLegal_5 rfl (lv_at hl 2 rfl) ?_
  refine g_roVv (As := [.int (nI o)]) (rest := []) ⟨hx, hb, hml, hown, hts⟩ (c_DB_requireSender l dI dO dG dN dT aN aB nS nP nR nG nO nU nT tP tR tO tN tF tZ mP mN o (by first | omega | assumption) (by first | omega | assumption) (by first | omega | assumption)) (cwV 1 hts (gw_V k379 k381 k10 k27 k382) rfl rfl rfl (by decide +kernel) ⟨Nat.le_of_ble_eq_true rfl, Nat.le_of_ble_eq_true rfl⟩) hK hP (va_recv hK hP (ci := 4) (q0 := 0) rfl rfl) rfl hl.1 rfl (Nat.le_of_ble_eq_true rfl) dDB_requireLegal_6 ⟨Nat.zero_le _, Nat.zero_le _⟩ ?_
  refine lv_iload_n hx hb dDB_requireLegal_9 rfl (lv_at hl 3 rfl) ?_
  refine g_roSv (As := [.int (nI g)]) (rest := []) ⟨hx, hb, hml, hown, hts⟩ (c_DB_requireRouter l dI dO dG dN dT aN aB nS nP nR nG nO nU nT tP tR tO tN tF tZ mP mN g (by first | omega | assumption)) (cw_S 1 hts k438 k439 k27 k440 rfl rfl rfl (by decide +kernel) ⟨Nat.le_of_ble_eq_true rfl, Nat.le_of_ble_eq_true rfl⟩) hK hP rfl hl.1 rfl (Nat.le_of_ble_eq_true rfl) dDB_requireLegal_10 ⟨Nat.zero_le _, Nat.zero_le _⟩ ?_
  refine lv_iload hx hb dDB_requireLegal_13 (lv_at hl 4 rfl) ?_
  refine g_roSv (As := [.int x]) (rest := []) ⟨hx, hb, hml, hown, hts⟩ (c_DB_requireNumber l dI dO dG dN dT aN aB nS nP nR nG nO nU nT tP tR tO tN tF tZ mP mN x (by first | omega | assumption) (by first | omega | assumption)) (cw_S 1 hts k442 k443 k27 k444 rfl rfl rfl (by decide +kernel) ⟨Nat.le_of_ble_eq_true rfl, Nat.le_of_ble_eq_true rfl⟩) hK hP rfl hl.1 rfl (Nat.le_of_ble_eq_true rfl) dDB_requireLegal_15 ⟨Nat.zero_le _, Nat.zero_le _⟩ ?_
  refine lv_aload_n hx hb dDB_requireLegal_18 rfl (lv_at hl 0 rfl) ?_
  refine lv_iload_n hx hb dDB_requireLegal_19 rfl (lv_at hl 1 rfl) ?_
  refine g_roVv (As := [.int (nI q)]) (rest := []) ⟨hx, hb, hml, hown, hts⟩ (c_DB_requireOn l dI dO dG dN dT aN aB nS nP nR nG nO nU nT tP tR tO tN tF tZ mP mN q (by first | omega | assumption) (by first | omega | assumption)) (cwV 1 hts (gw_V k387 k389 k11 k27 k390) rfl rfl rfl (by decide +kernel) ⟨Nat.le_of_ble_eq_true rfl, Nat.le_of_ble_eq_true rfl⟩) hK hP (va_recv hK hP (ci := 4) (q0 := 0) rfl rfl) rfl hl.1 rfl (Nat.le_of_ble_eq_true rfl) dDB_requireLegal_20 ⟨Nat.zero_le _, Nat.zero_le _⟩ ?_
  exact r_vret hx hb hr trivial hlocks dDB_requireLegal_23
def fDB_port (dO : Int32) (dG : Int32) (nS : Nat → Int32) (nP : Nat → Int32) (nO : Nat → Int64) (nU : Nat → Int64) (q : Nat) (b : Bool) : Bool × Int32 × Int32 × (Nat → Int32) × (Nat → Int64) × (Nat → Int64) := (if (fDB_isOn dO q) = b then (false, dO, dG, nS, nO, nU) else (cond b (true, dO ||| (bI q), dG, nS, nO, nU) (true, dO &&& ((bI q) ^^^ (-1)), dG &&& ((bI q) ^^^ (-1)), (LNB_dropPort nP (nI q) 16 0 nS nO nU).1, (LNB_dropPort nP (nI q) 16 0 nS nO nU).2.1, (LNB_dropPort nP (nI q) 16 0 nS nO nU).2.2)))
set_option maxHeartbeats 4000000 in
set_option maxRecDepth 100000 in
theorem c_DB_port (l : Launch) {D : va_G} {cI cL : ClassId} {a : Nat → Nat} {A : Nat → Prop} (hA : ∀ v : CS, va_D A (wC cI cL a v)) (dI : Nat) (dO dG dN dT : Int32) (aN aB : Nat → Int32) (nS nP nR nG : Nat → Int32) (nO nU : Nat → Int64) (nT : Nat → Int32) (tP tR tO tN : Nat → Int32) (tF tZ : Nat) (mP : Nat → Int32) (mN : Int64) (q : Nat) (b : Bool) (hq : q < 8) : Met l yDB_port wsDB_port ({ frames := 3, cells := 0, slots := 0, locals := 66 }) (va_Pc [.ref (a 0), .int (nI q), .int (bi b)] (gG D (tyC cI cL) (wC cI cL a) ((dI, dO, dG, dN, dT), (aN, aB), (nS, nP, nR, nG, nO, nU, nT), (tP, tR, tO, tN, tF, tZ), (mP, mN)))) (va_Qi (fun (r : Int32) (u : CS) => r = bi ((fDB_port dO dG nS nP nO nU q b).1) ∧ u = ((dI, (fDB_port dO dG nS nP nO nU q b).2.1, (fDB_port dO dG nS nP nO nU q b).2.2.1, dN, dT), (aN, aB), ((fDB_port dO dG nS nP nO nU q b).2.2.2.1, nP, nR, nG, (fDB_port dO dG nS nP nO nU q b).2.2.2.2.1, (fDB_port dO dG nS nP nO nU q b).2.2.2.2.2, nT), (tP, tR, tO, tN, tF, tZ), (mP, mN))) (gG D (tyC cI cL) (wC cI cL a)) A) 0 0 A := by
  refine g_enter (by decide) rfl (Nat.le_of_ble_eq_true rfl) ?_
  intro p e s m below meth c ls F hK hP hl
  obtain ⟨hx, hb, hr, hml, hown, hts, hlocks⟩ := id F
  have hS : va_S A s.heap s.heap [] := va_S.rf
  have hl : lv_has ls 3 [(0, .ref (a 0)), (1, .int (nI q)), (2, .int (bi b))] := hl
  refine lv_iload_n hx hb dDB_port_0 rfl (lv_at hl 1 rfl) ?_
  refine g_roSv (As := [.int (nI q)]) (rest := []) ⟨hx, hb, hml, hown, hts⟩ (c_DB_requirePort l dI dO dG dN dT aN aB nS nP nR nG nO nU nT tP tR tO tN tF tZ mP mN q (by first | omega | assumption)) (cw_S 1 hts k285 k286 k27 k287 rfl rfl rfl (by decide +kernel) ⟨Nat.le_of_ble_eq_true rfl, Nat.le_of_ble_eq_true rfl⟩) hK hP rfl hl.1 rfl (Nat.le_of_ble_eq_true rfl) dDB_port_1 ⟨Nat.zero_le _, Nat.zero_le _⟩ ?_
  refine lv_aload_n hx hb dDB_port_4 rfl (lv_at hl 0 rfl) ?_
  refine lv_iload_n hx hb dDB_port_5 rfl (lv_at hl 1 rfl) ?_
  refine g_roVi (As := [.int (nI q)]) (rest := []) ⟨hx, hb, hml, hown, hts⟩ (c_DB_isOn l dI dO dG dN dT aN aB nS nP nR nG nO nU nT tP tR tO tN tF tZ mP mN q (by first | omega | assumption)) (cwV 1 hts (gw_V k355 k357 k7 k27 k358) rfl rfl rfl (by decide +kernel) ⟨Nat.le_of_ble_eq_true rfl, Nat.le_of_ble_eq_true rfl⟩) hK hP (va_recv hK hP (ci := 4) (q0 := 0) rfl rfl) rfl hl.1 rfl (Nat.le_of_ble_eq_true rfl) dDB_port_6 ⟨Nat.zero_le _, Nat.zero_le _⟩ ?_
  refine lv_iload_n hx hb dDB_port_9 rfl (lv_at hl 2 rfl) ?_
  refine lv_icmp_ne (tgt := 15) hx hb dDB_port_10 (by decide) (fun c1 => ?_) (fun c1 => ?_)
  · have c1 : ¬ (fDB_isOn dO q) = b := fun q => c1 (by rw [q])
    refine lv_iload_n hx hb dDB_port_15 rfl (lv_at hl 2 rfl) ?_
    refine lv_if_eqb (tgt := 34) hx hb dDB_port_16 (by decide) (fun c2 => ?_) (fun c2 => ?_)
    · refine lv_aload_n hx hb dDB_port_34 rfl (lv_at hl 0 rfl) ?_
      refine lv_dup hx hb dDB_port_35 rfl ?_
      refine va_get (D := D) (ci := 4) (v := .int dO) (C := RDB) (T := TDB) (N := 9) hx hb hts inDB hown hK hP 0 rfl rfl 5 (by decide) (hts _ k133) (fun _ h9 => h9) rfl dDB_port_36 ?_
      refine lv_iconst (v := 1) hx hb dDB_port_39 (by decide) ?_
      refine lv_iload_n hx hb dDB_port_40 rfl (lv_at hl 1 rfl) ?_
      refine lv_ishl hx hb dDB_port_41 ?_
      refine lv_eqi (y := bI q) rfl ?_
      refine lv_iconst (v := (-1)) hx hb dDB_port_42 (by decide) ?_
      refine lv_ixor hx hb dDB_port_43 ?_
      refine lv_iand hx hb dDB_port_44 ?_
      refine va_put (D := D) (ci := 4) (v := .int (dO &&& ((bI q) ^^^ (-1)))) (ty := .int) (C := RDB) (T := TDB) (N := 9) hx hb hts inDB tyDB tyDB_ok nmDB hown hK hP (hA _) hS 0 rfl rfl 5 (by decide) (hts _ k133) (fun _ h9 => h9) rfl (by decide +kernel) rfl rfl (Nat.le_of_ble_eq_true rfl) dDB_port_45 (fun H locs hP _ hS => ?_)
      have hP : va_P D vwCl (wC cI cL a ((dI, dO &&& ((bI q) ^^^ (-1)), dG, dN, dT), (aN, aB), (nS, nP, nR, nG, nO, nU, nT), (tP, tR, tO, tN, tF, tZ), (mP, mN))) H := hP
      refine lv_aload_n hx hb dDB_port_48 rfl (lv_at hl 0 rfl) ?_
      refine lv_dup hx hb dDB_port_49 rfl ?_
      refine va_get (D := D) (ci := 4) (v := .int dG) (C := RDB) (T := TDB) (N := 9) hx hb hts inDB hown hK hP 0 rfl rfl 6 (by decide) (hts _ k134) (fun _ h9 => h9) rfl dDB_port_50 ?_
      refine lv_iconst (v := 1) hx hb dDB_port_53 (by decide) ?_
      refine lv_iload_n hx hb dDB_port_54 rfl (lv_at hl 1 rfl) ?_
      refine lv_ishl hx hb dDB_port_55 ?_
      refine lv_eqi (y := bI q) rfl ?_
      refine lv_iconst (v := (-1)) hx hb dDB_port_56 (by decide) ?_
      refine lv_ixor hx hb dDB_port_57 ?_
      refine lv_iand hx hb dDB_port_58 ?_
      refine va_put (D := D) (ci := 4) (v := .int (dG &&& ((bI q) ^^^ (-1)))) (ty := .int) (C := RDB) (T := TDB) (N := 9) hx hb hts inDB tyDB tyDB_ok nmDB hown hK hP (hA _) hS 0 rfl rfl 6 (by decide) (hts _ k134) (fun _ h9 => h9) rfl (by decide +kernel) rfl rfl (Nat.le_of_ble_eq_true rfl) dDB_port_59 (fun H locs hP _ hS => ?_)
      have hP : va_P D vwCl (wC cI cL a ((dI, dO &&& ((bI q) ^^^ (-1)), dG &&& ((bI q) ^^^ (-1)), dN, dT), (aN, aB), (nS, nP, nR, nG, nO, nU, nT), (tP, tR, tO, tN, tF, tZ), (mP, mN))) H := hP
      refine lv_aload_n hx hb dDB_port_62 rfl (lv_at hl 0 rfl) ?_
      refine va_get (D := D) (ci := 4) (v := .ref (a 4)) (C := RDB) (T := TDB) (N := 9) hx hb hts inDB hown hK hP 0 rfl rfl 2 (by decide) (hts _ k130) (fun _ h9 => h9) rfl dDB_port_63 ?_
      refine lv_iload_n hx hb dDB_port_66 rfl (lv_at hl 1 rfl) ?_
      refine g_callVv (As := [.int (nI q)]) (rest := []) ⟨hx, hb, hml, hown, hts⟩ (c_NB_dropPort l hA dI (dO &&& ((bI q) ^^^ (-1))) (dG &&& ((bI q) ^^^ (-1))) dN dT aN aB nS nP nR nG nO nU nT tP tR tO tN tF tZ mP mN (nI q)) (cwV 1 hts (gw_V k359 k360 k361 k29 k362) rfl rfl rfl (by decide +kernel) ⟨Nat.le_of_ble_eq_true rfl, Nat.le_of_ble_eq_true rfl⟩) hK hP (va_recv hK hP (ci := 2) (q0 := 4) rfl rfl) rfl hl.1 rfl (Nat.le_of_ble_eq_true rfl) dDB_port_67 ⟨Nat.zero_le _, Nat.zero_le _⟩ (fun q h => h) hS (fun H locs hP hS => ?_)
      have hP : va_P D vwCl (wC cI cL a ((dI, dO &&& ((bI q) ^^^ (-1)), dG &&& ((bI q) ^^^ (-1)), dN, dT), (aN, aB), ((LNB_dropPort nP (nI q) 16 0 nS nO nU).1, nP, nR, nG, (LNB_dropPort nP (nI q) 16 0 nS nO nU).2.1, (LNB_dropPort nP (nI q) 16 0 nS nO nU).2.2, nT), (tP, tR, tO, tN, tF, tZ), (mP, mN))) H := hP
      refine lv_iconst (v := bi true) hx hb dDB_port_70 (by decide) ?_
      have e1 : fDB_port dO dG nS nP nO nU q b = (true, dO &&& ((bI q) ^^^ (-1)), dG &&& ((bI q) ^^^ (-1)), (LNB_dropPort nP (nI q) 16 0 nS nO nU).1, (LNB_dropPort nP (nI q) 16 0 nS nO nU).2.1, (LNB_dropPort nP (nI q) 16 0 nS nO nU).2.2) := by first | (simp only [fDB_port, if_neg c1, c2, cond_true, cond_false]; done) | (simp only [fDB_port, if_neg c1]; simp only [c2, cond_true, cond_false])
      exact g_zret (v := ((dI, dO &&& ((bI q) ^^^ (-1)), dG &&& ((bI q) ^^^ (-1)), dN, dT), (aN, aB), ((LNB_dropPort nP (nI q) 16 0 nS nO nU).1, nP, nR, nG, (LNB_dropPort nP (nI q) 16 0 nS nO nU).2.1, (LNB_dropPort nP (nI q) 16 0 nS nO nU).2.2, nT), (tP, tR, tO, tN, tF, tZ), (mP, mN))) hx hb hr hK hP hS ⟨by first | rfl | (rw [e1] <;> rfl), by first | rfl | (rw [e1] <;> rfl)⟩ hlocks dDB_port_71
    · refine lv_aload_n hx hb dDB_port_19 rfl (lv_at hl 0 rfl) ?_
      refine lv_dup hx hb dDB_port_20 rfl ?_
      refine va_get (D := D) (ci := 4) (v := .int dO) (C := RDB) (T := TDB) (N := 9) hx hb hts inDB hown hK hP 0 rfl rfl 5 (by decide) (hts _ k133) (fun _ h9 => h9) rfl dDB_port_21 ?_
      refine lv_iconst (v := 1) hx hb dDB_port_24 (by decide) ?_
      refine lv_iload_n hx hb dDB_port_25 rfl (lv_at hl 1 rfl) ?_
      refine lv_ishl hx hb dDB_port_26 ?_
      refine lv_eqi (y := bI q) rfl ?_
      refine lv_ior hx hb dDB_port_27 ?_
      refine va_put (D := D) (ci := 4) (v := .int (dO ||| (bI q))) (ty := .int) (C := RDB) (T := TDB) (N := 9) hx hb hts inDB tyDB tyDB_ok nmDB hown hK hP (hA _) hS 0 rfl rfl 5 (by decide) (hts _ k133) (fun _ h9 => h9) rfl (by decide +kernel) rfl rfl (Nat.le_of_ble_eq_true rfl) dDB_port_28 (fun H locs hP _ hS => ?_)
      have hP : va_P D vwCl (wC cI cL a ((dI, dO ||| (bI q), dG, dN, dT), (aN, aB), (nS, nP, nR, nG, nO, nU, nT), (tP, tR, tO, tN, tF, tZ), (mP, mN))) H := hP
      refine lv_goto (tgt := 70) hx hb dDB_port_31 (by decide) ?_
      refine lv_iconst (v := bi true) hx hb dDB_port_70 (by decide) ?_
      have e1 : fDB_port dO dG nS nP nO nU q b = (true, dO ||| (bI q), dG, nS, nO, nU) := by first | (simp only [fDB_port, if_neg c1, c2, cond_true, cond_false]; done) | (simp only [fDB_port, if_neg c1]; simp only [c2, cond_true, cond_false])
      exact g_zret (v := ((dI, dO ||| (bI q), dG, dN, dT), (aN, aB), (nS, nP, nR, nG, nO, nU, nT), (tP, tR, tO, tN, tF, tZ), (mP, mN))) hx hb hr hK hP hS ⟨by first | rfl | (rw [e1] <;> rfl), by first | rfl | (rw [e1] <;> rfl)⟩ hlocks dDB_port_71
  · have c1 := bi_inj c1
    refine lv_iconst (v := bi false) hx hb dDB_port_13 (by decide) ?_
    have e1 : fDB_port dO dG nS nP nO nU q b = (false, dO, dG, nS, nO, nU) := by simp only [fDB_port, if_pos c1]
    exact g_zret (v := ((dI, dO, dG, dN, dT), (aN, aB), (nS, nP, nR, nG, nO, nU, nT), (tP, tR, tO, tN, tF, tZ), (mP, mN))) hx hb hr hK hP hS ⟨by first | rfl | (rw [e1] <;> rfl), by first | rfl | (rw [e1] <;> rfl)⟩ hlocks dDB_port_14
def fDB_greeting (dT : Int32) (aN : Nat → Int32) (nS : Nat → Int32) (nP : Nat → Int32) (nR : Nat → Int32) (nG : Nat → Int32) (nO : Nat → Int64) (nU : Nat → Int64) (q : Nat) (o : Nat) (b : Bool) : Int32 × (Nat → Int32) × (Nat → Int32) × (Nat → Int64) × (Nat → Int64) := (match (fNB_placeFor nS nP nR (nI q) (nI o)).1 with | none => (0, (fNB_placeFor nS nP nR (nI q) (nI o)).2.1, nG, nO, nU) | some k1 => ((fNB_greeted ((fNB_placeFor nS nP nR (nI q) (nI o)).2.1) nO nU k1 b (LAD_allOrigins aN 64 0 0)).1, (fNB_greeted ((fNB_placeFor nS nP nR (nI q) (nI o)).2.1) nO nU k1 b (LAD_allOrigins aN 64 0 0)).2.1, upd nG k1 dT, (fNB_greeted ((fNB_placeFor nS nP nR (nI q) (nI o)).2.1) nO nU k1 b (LAD_allOrigins aN 64 0 0)).2.2.1, (fNB_greeted ((fNB_placeFor nS nP nR (nI q) (nI o)).2.1) nO nU k1 b (LAD_allOrigins aN 64 0 0)).2.2.2))
set_option maxHeartbeats 4000000 in
set_option maxRecDepth 100000 in
theorem c_DB_greeting (l : Launch) {D : va_G} {cI cL : ClassId} {a : Nat → Nat} {A : Nat → Prop} (hA : ∀ v : CS, va_D A (wC cI cL a v)) (dI : Nat) (dO dG dN dT : Int32) (aN aB : Nat → Int32) (nS nP nR nG : Nat → Int32) (nO nU : Nat → Int64) (nT : Nat → Int32) (tP tR tO tN : Nat → Int32) (tF tZ : Nat) (mP : Nat → Int32) (mN : Int64) (q : Nat) (o : Nat) (b : Bool) (hq : q < 8) (ho : o < 64) (hne : ¬ o = dI) (hI : dI < 64) (hon : fDB_isOn dO q = true) : Met l yDB_greeting wsDB_greeting ({ frames := 2, cells := 0, slots := 0, locals := 48 }) (va_Pc [.ref (a 0), .int (nI q), .int (nI o), .int (bi b)] (gG D (tyC cI cL) (wC cI cL a) ((dI, dO, dG, dN, dT), (aN, aB), (nS, nP, nR, nG, nO, nU, nT), (tP, tR, tO, tN, tF, tZ), (mP, mN)))) (va_Qi (fun (r : Int32) (u : CS) => r = (fDB_greeting dT aN nS nP nR nG nO nU q o b).1 ∧ u = ((dI, dO, dG, dN, dT), (aN, aB), ((fDB_greeting dT aN nS nP nR nG nO nU q o b).2.1, (fNB_placeFor nS nP nR (nI q) (nI o)).2.2.1, (fNB_placeFor nS nP nR (nI q) (nI o)).2.2.2, (fDB_greeting dT aN nS nP nR nG nO nU q o b).2.2.1, (fDB_greeting dT aN nS nP nR nG nO nU q o b).2.2.2.1, (fDB_greeting dT aN nS nP nR nG nO nU q o b).2.2.2.2, nT), (tP, tR, tO, tN, tF, tZ), (mP, mN))) (gG D (tyC cI cL) (wC cI cL a)) A) 0 0 A := by
  refine g_enter (by decide) rfl (Nat.le_of_ble_eq_true rfl) ?_
  intro p e s m below meth c ls F hK hP hl
  obtain ⟨hx, hb, hr, hml, hown, hts, hlocks⟩ := id F
  have hS : va_S A s.heap s.heap [] := va_S.rf
  have hl : lv_has ls 5 [(0, .ref (a 0)), (1, .int (nI q)), (2, .int (nI o)), (3, .int (bi b))] := hl
  refine lv_iload_n hx hb dDB_greeting_0 rfl (lv_at hl 1 rfl) ?_
  refine g_roSv (As := [.int (nI q)]) (rest := []) ⟨hx, hb, hml, hown, hts⟩ (c_DB_requirePort l dI dO dG dN dT aN aB nS nP nR nG nO nU nT tP tR tO tN tF tZ mP mN q (by first | omega | assumption)) (cw_S 1 hts k285 k286 k27 k287 rfl rfl rfl (by decide +kernel) ⟨Nat.le_of_ble_eq_true rfl, Nat.le_of_ble_eq_true rfl⟩) hK hP rfl hl.1 rfl (Nat.le_of_ble_eq_true rfl) dDB_greeting_1 ⟨Nat.zero_le _, Nat.zero_le _⟩ ?_
  refine lv_aload_n hx hb dDB_greeting_4 rfl (lv_at hl 0 rfl) ?_
  refine lv_iload_n hx hb dDB_greeting_5 rfl (lv_at hl 2 rfl) ?_
  refine g_roVv (As := [.int (nI o)]) (rest := []) ⟨hx, hb, hml, hown, hts⟩ (c_DB_requireSender l dI dO dG dN dT aN aB nS nP nR nG nO nU nT tP tR tO tN tF tZ mP mN o (by first | omega | assumption) (by first | omega | assumption) (by first | omega | assumption)) (cwV 1 hts (gw_V k379 k381 k10 k27 k382) rfl rfl rfl (by decide +kernel) ⟨Nat.le_of_ble_eq_true rfl, Nat.le_of_ble_eq_true rfl⟩) hK hP (va_recv hK hP (ci := 4) (q0 := 0) rfl rfl) rfl hl.1 rfl (Nat.le_of_ble_eq_true rfl) dDB_greeting_6 ⟨Nat.zero_le _, Nat.zero_le _⟩ ?_
  refine lv_aload_n hx hb dDB_greeting_9 rfl (lv_at hl 0 rfl) ?_
  refine lv_iload_n hx hb dDB_greeting_10 rfl (lv_at hl 1 rfl) ?_
  refine g_roVv (As := [.int (nI q)]) (rest := []) ⟨hx, hb, hml, hown, hts⟩ (c_DB_requireOn l dI dO dG dN dT aN aB nS nP nR nG nO nU nT tP tR tO tN tF tZ mP mN q (by first | omega | assumption) (by first | omega | assumption)) (cwV 1 hts (gw_V k387 k389 k11 k27 k390) rfl rfl rfl (by decide +kernel) ⟨Nat.le_of_ble_eq_true rfl, Nat.le_of_ble_eq_true rfl⟩) hK hP (va_recv hK hP (ci := 4) (q0 := 0) rfl rfl) rfl hl.1 rfl (Nat.le_of_ble_eq_true rfl) dDB_greeting_11 ⟨Nat.zero_le _, Nat.zero_le _⟩ ?_
  refine lv_aload_n hx hb dDB_greeting_14 rfl (lv_at hl 0 rfl) ?_
  refine va_get (D := D) (ci := 4) (v := .ref (a 4)) (C := RDB) (T := TDB) (N := 9) hx hb hts inDB hown hK hP 0 rfl rfl 2 (by decide) (hts _ k130) (fun _ h9 => h9) rfl dDB_greeting_15 ?_
  refine lv_iload_n hx hb dDB_greeting_18 rfl (lv_at hl 1 rfl) ?_
  refine lv_iload_n hx hb dDB_greeting_19 rfl (lv_at hl 2 rfl) ?_
  refine g_callVi (As := [.int (nI q), .int (nI o)]) (rest := []) ⟨hx, hb, hml, hown, hts⟩ (c_NB_placeFor l hA dI dO dG dN dT aN aB nS nP nR nG nO nU nT tP tR tO tN tF tZ mP mN (nI q) (nI o)) (cwV 2 hts (gw_V k407 k408 k409 k29 k410) rfl rfl rfl (by decide +kernel) ⟨Nat.le_of_ble_eq_true rfl, Nat.le_of_ble_eq_true rfl⟩) hK hP (va_recv hK hP (ci := 2) (q0 := 4) rfl rfl) rfl hl.1 rfl (Nat.le_of_ble_eq_true rfl) dDB_greeting_20 ⟨Nat.zero_le _, Nat.zero_le _⟩ (fun q h => h) hS (fun H locs hP hS => ?_)
  have hP : va_P D vwCl (wC cI cL a ((dI, dO, dG, dN, dT), (aN, aB), ((fNB_placeFor nS nP nR (nI q) (nI o)).2.1, (fNB_placeFor nS nP nR (nI q) (nI o)).2.2.1, (fNB_placeFor nS nP nR (nI q) (nI o)).2.2.2, nG, nO, nU, nT), (tP, tR, tO, tN, tF, tZ), (mP, mN))) H := hP
  rcases ho2 : (fNB_placeFor nS nP nR (nI q) (nI o)).1 with _ | k1
  · refine lv_istore (lv' := [(4, .int (oi none)), (0, .ref (a 0)), (1, .int (nI q)), (2, .int (nI o)), (3, .int (bi b))]) hx hb dDB_greeting_23 hl (by decide) rfl (fun ls hl => ?_)
    refine lv_iload hx hb dDB_greeting_25 (lv_at hl 0 rfl) ?_
    refine lv_iconst (v := (-1)) hx hb dDB_greeting_27 (by decide) ?_
    refine lv_icmp_ne (tgt := 33) hx hb dDB_greeting_28 (by decide) (fun c0 => absurd rfl c0) (fun _ => ?_)
    refine lv_iconst (v := 0) hx hb dDB_greeting_31 (by decide) ?_
    have e1 : fDB_greeting dT aN nS nP nR nG nO nU q o b = (0, (fNB_placeFor nS nP nR (nI q) (nI o)).2.1, nG, nO, nU) := by simp only [fDB_greeting, ho2, cond_true, cond_false]
    exact g_iret (v := ((dI, dO, dG, dN, dT), (aN, aB), ((fNB_placeFor nS nP nR (nI q) (nI o)).2.1, (fNB_placeFor nS nP nR (nI q) (nI o)).2.2.1, (fNB_placeFor nS nP nR (nI q) (nI o)).2.2.2, nG, nO, nU, nT), (tP, tR, tO, tN, tF, tZ), (mP, mN))) hx hb hr hK hP hS ⟨by first | rfl | (rw [e1] <;> rfl), by first | rfl | (rw [e1] <;> rfl)⟩ hlocks dDB_greeting_32
  · have hk1 := c_NB_placeFor_lt ho2
    refine lv_istore (lv' := [(4, .int (nI k1)), (0, .ref (a 0)), (1, .int (nI q)), (2, .int (nI o)), (3, .int (bi b))]) hx hb dDB_greeting_23 hl (by decide) rfl (fun ls hl => ?_)
    refine lv_iload hx hb dDB_greeting_25 (lv_at hl 0 rfl) ?_
    refine lv_iconst (v := (-1)) hx hb dDB_greeting_27 (by decide) ?_
    refine lv_icmp_ne (tgt := 33) hx hb dDB_greeting_28 (by decide) (fun _ => ?_) (fun c0 => absurd c0 (nI_m1 (by omega)))
    refine lv_aload_n hx hb dDB_greeting_33 rfl (lv_at hl 1 rfl) ?_
    refine va_get (D := D) (ci := 4) (v := .ref (a 4)) (C := RDB) (T := TDB) (N := 9) hx hb hts inDB hown hK hP 0 rfl rfl 2 (by decide) (hts _ k130) (fun _ h9 => h9) rfl dDB_greeting_34 ?_
    refine lv_iload hx hb dDB_greeting_37 (lv_at hl 0 rfl) ?_
    refine lv_aload_n hx hb dDB_greeting_39 rfl (lv_at hl 1 rfl) ?_
    refine va_get (D := D) (ci := 4) (v := .int dT) (C := RDB) (T := TDB) (N := 9) hx hb hts inDB hown hK hP 0 rfl rfl 8 (by decide) (hts _ k136) (fun _ h9 => h9) rfl dDB_greeting_40 ?_
    refine lv_iload_n hx hb dDB_greeting_43 rfl (lv_at hl 4 rfl) ?_
    refine lv_aload_n hx hb dDB_greeting_44 rfl (lv_at hl 1 rfl) ?_
    refine va_get (D := D) (ci := 4) (v := .ref (a 1)) (C := RDB) (T := TDB) (N := 9) hx hb hts inDB hown hK hP 0 rfl rfl 1 (by decide) (hts _ k129) (fun _ h9 => h9) rfl dDB_greeting_45 ?_
    refine g_roVl (As := []) (rest := [.int (bi b), .int dT, .int (nI k1), .ref (a 4)]) ⟨hx, hb, hml, hown, hts⟩ (c_AD_allOrigins l dI dO dG dN dT aN aB ((fNB_placeFor nS nP nR (nI q) (nI o)).2.1) ((fNB_placeFor nS nP nR (nI q) (nI o)).2.2.1) ((fNB_placeFor nS nP nR (nI q) (nI o)).2.2.2) nG nO nU nT tP tR tO tN tF tZ mP mN) (cwV 0 hts (gw_V k419 k420 k421 k28 k422) rfl rfl rfl (by decide +kernel) ⟨Nat.le_of_ble_eq_true rfl, Nat.le_of_ble_eq_true rfl⟩) hK hP (va_recv hK hP (ci := 0) (q0 := 1) rfl rfl) rfl hl.1 rfl (Nat.le_of_ble_eq_true rfl) dDB_greeting_48 ⟨Nat.zero_le _, Nat.zero_le _⟩ ?_
    refine g_callVi (As := [.int (nI k1), .int dT, .int (bi b), .long (LAD_allOrigins aN 64 0 0)]) (rest := []) ⟨hx, hb, hml, hown, hts⟩ (c_NB_greeted l hA dI dO dG dN dT aN aB ((fNB_placeFor nS nP nR (nI q) (nI o)).2.1) ((fNB_placeFor nS nP nR (nI q) (nI o)).2.2.1) ((fNB_placeFor nS nP nR (nI q) (nI o)).2.2.2) nG nO nU nT tP tR tO tN tF tZ mP mN k1 dT b (LAD_allOrigins aN 64 0 0) (by first | omega | assumption)) (cwV 4 hts (gw_V k423 k424 k425 k29 k426) rfl rfl rfl (by decide +kernel) ⟨Nat.le_of_ble_eq_true rfl, Nat.le_of_ble_eq_true rfl⟩) hK hP (va_recv hK hP (ci := 2) (q0 := 4) rfl rfl) rfl hl.1 rfl (Nat.le_of_ble_eq_true rfl) dDB_greeting_51 ⟨Nat.zero_le _, Nat.zero_le _⟩ (fun q h => h) hS (fun H locs hP hS => ?_)
    have hP : va_P D vwCl (wC cI cL a ((dI, dO, dG, dN, dT), (aN, aB), ((fNB_greeted ((fNB_placeFor nS nP nR (nI q) (nI o)).2.1) nO nU k1 b (LAD_allOrigins aN 64 0 0)).2.1, (fNB_placeFor nS nP nR (nI q) (nI o)).2.2.1, (fNB_placeFor nS nP nR (nI q) (nI o)).2.2.2, upd nG k1 dT, (fNB_greeted ((fNB_placeFor nS nP nR (nI q) (nI o)).2.1) nO nU k1 b (LAD_allOrigins aN 64 0 0)).2.2.1, (fNB_greeted ((fNB_placeFor nS nP nR (nI q) (nI o)).2.1) nO nU k1 b (LAD_allOrigins aN 64 0 0)).2.2.2, nT), (tP, tR, tO, tN, tF, tZ), (mP, mN))) H := hP
    have e1 : fDB_greeting dT aN nS nP nR nG nO nU q o b = ((fNB_greeted ((fNB_placeFor nS nP nR (nI q) (nI o)).2.1) nO nU k1 b (LAD_allOrigins aN 64 0 0)).1, (fNB_greeted ((fNB_placeFor nS nP nR (nI q) (nI o)).2.1) nO nU k1 b (LAD_allOrigins aN 64 0 0)).2.1, upd nG k1 dT, (fNB_greeted ((fNB_placeFor nS nP nR (nI q) (nI o)).2.1) nO nU k1 b (LAD_allOrigins aN 64 0 0)).2.2.1, (fNB_greeted ((fNB_placeFor nS nP nR (nI q) (nI o)).2.1) nO nU k1 b (LAD_allOrigins aN 64 0 0)).2.2.2) := by simp only [fDB_greeting, ho2, cond_true, cond_false]
    exact g_iret (v := ((dI, dO, dG, dN, dT), (aN, aB), ((fNB_greeted ((fNB_placeFor nS nP nR (nI q) (nI o)).2.1) nO nU k1 b (LAD_allOrigins aN 64 0 0)).2.1, (fNB_placeFor nS nP nR (nI q) (nI o)).2.2.1, (fNB_placeFor nS nP nR (nI q) (nI o)).2.2.2, upd nG k1 dT, (fNB_greeted ((fNB_placeFor nS nP nR (nI q) (nI o)).2.1) nO nU k1 b (LAD_allOrigins aN 64 0 0)).2.2.1, (fNB_greeted ((fNB_placeFor nS nP nR (nI q) (nI o)).2.1) nO nU k1 b (LAD_allOrigins aN 64 0 0)).2.2.2, nT), (tP, tR, tO, tN, tF, tZ), (mP, mN))) hx hb hr hK hP hS ⟨by first | rfl | (rw [e1] <;> rfl), by first | rfl | (rw [e1] <;> rfl)⟩ hlocks dDB_greeting_54
def fDB_takeOwnBack (dI : Nat) (dN : Int32) (aN : Nat → Int32) (nO : Nat → Int64) (nU : Nat → Int64) (j : Nat) (x : Int32) : Int32 × Int32 × (Nat → Int64) × (Nat → Int64) := (if x ≤ dN then (if (aN dI) ≤ x then (1, dN, nO, nU) else (2, dN, vp_updL nO j ((nO j) ||| (bL dI)), vp_updL nU j ((nU j) ||| (bL dI)))) else (3, x, nO, nU))
set_option maxHeartbeats 4000000 in
set_option maxRecDepth 100000 in
theorem c_DB_takeOwnBack (l : Launch) {D : va_G} {cI cL : ClassId} {a : Nat → Nat} {A : Nat → Prop} (hA : ∀ v : CS, va_D A (wC cI cL a v)) (dI : Nat) (dO dG dN dT : Int32) (aN aB : Nat → Int32) (nS nP nR nG : Nat → Int32) (nO nU : Nat → Int64) (nT : Nat → Int32) (tP tR tO tN : Nat → Int32) (tF tZ : Nat) (mP : Nat → Int32) (mN : Int64) (j : Nat) (x : Int32) (hj : j < 16) (hI : dI < 64) : Met l yDB_takeOwnBack wsDB_takeOwnBack ({ frames := 1, cells := 0, slots := 0, locals := 22 }) (va_Pc [.ref (a 0), .int (nI j), .int x] (gG D (tyC cI cL) (wC cI cL a) ((dI, dO, dG, dN, dT), (aN, aB), (nS, nP, nR, nG, nO, nU, nT), (tP, tR, tO, tN, tF, tZ), (mP, mN)))) (va_Qi (fun (r : Int32) (u : CS) => r = (fDB_takeOwnBack dI dN aN nO nU j x).1 ∧ u = ((dI, dO, dG, (fDB_takeOwnBack dI dN aN nO nU j x).2.1, dT), (aN, aB), (nS, nP, nR, nG, (fDB_takeOwnBack dI dN aN nO nU j x).2.2.1, (fDB_takeOwnBack dI dN aN nO nU j x).2.2.2, nT), (tP, tR, tO, tN, tF, tZ), (mP, mN))) (gG D (tyC cI cL) (wC cI cL a)) A) 0 0 A := by
  refine g_enter (by decide) rfl (Nat.le_of_ble_eq_true rfl) ?_
  intro p e s m below meth c ls F hK hP hl
  obtain ⟨hx, hb, hr, hml, hown, hts, hlocks⟩ := id F
  have hS : va_S A s.heap s.heap [] := va_S.rf
  have hl : lv_has ls 3 [(0, .ref (a 0)), (1, .int (nI j)), (2, .int x)] := hl
  refine lv_iload_n hx hb dDB_takeOwnBack_0 rfl (lv_at hl 2 rfl) ?_
  refine lv_aload_n hx hb dDB_takeOwnBack_1 rfl (lv_at hl 0 rfl) ?_
  refine va_get (D := D) (ci := 4) (v := .int dN) (C := RDB) (T := TDB) (N := 9) hx hb hts inDB hown hK hP 0 rfl rfl 7 (by decide) (hts _ k135) (fun _ h9 => h9) rfl dDB_takeOwnBack_2 ?_
  refine lv_icmp_le (tgt := 15) hx hb dDB_takeOwnBack_5 (by decide) (fun c1 => ?_) (fun c1 => ?_)
  · refine lv_aload_n hx hb dDB_takeOwnBack_15 rfl (lv_at hl 0 rfl) ?_
    refine va_get (D := D) (ci := 4) (v := .ref (a 1)) (C := RDB) (T := TDB) (N := 9) hx hb hts inDB hown hK hP 0 rfl rfl 1 (by decide) (hts _ k129) (fun _ h9 => h9) rfl dDB_takeOwnBack_16 ?_
    refine lv_aload_n hx hb dDB_takeOwnBack_19 rfl (lv_at hl 0 rfl) ?_
    refine va_get (D := D) (ci := 4) (v := .int (nI dI)) (C := RDB) (T := TDB) (N := 9) hx hb hts inDB hown hK hP 0 rfl rfl 0 (by decide) (hts _ k128) (fun _ h9 => h9) rfl dDB_takeOwnBack_20 ?_
    refine g_roVi (As := [.int (nI dI)]) (rest := []) ⟨hx, hb, hml, hown, hts⟩ (c_AD_numberOf l dI dO dG dN dT aN aB nS nP nR nG nO nU nT tP tR tO tN tF tZ mP mN dI (by first | omega | assumption)) (cwV 1 hts (gw_V k242 k243 k244 k28 k245) rfl rfl rfl (by decide +kernel) ⟨Nat.le_of_ble_eq_true rfl, Nat.le_of_ble_eq_true rfl⟩) hK hP (va_recv hK hP (ci := 0) (q0 := 1) rfl rfl) rfl hl.1 rfl (Nat.le_of_ble_eq_true rfl) dDB_takeOwnBack_23 ⟨Nat.zero_le _, Nat.zero_le _⟩ ?_
    refine lv_iload_n hx hb dDB_takeOwnBack_26 rfl (lv_at hl 2 rfl) ?_
    refine lv_icmp_le (tgt := 44) hx hb dDB_takeOwnBack_27 (by decide) (fun c2 => ?_) (fun c2 => ?_)
    · refine lv_iconst (v := 1) hx hb dDB_takeOwnBack_44 (by decide) ?_
      have e1 : fDB_takeOwnBack dI dN aN nO nU j x = (1, dN, nO, nU) := by simp only [fDB_takeOwnBack, if_pos c1, if_pos c2]
      exact g_iret (v := ((dI, dO, dG, dN, dT), (aN, aB), (nS, nP, nR, nG, nO, nU, nT), (tP, tR, tO, tN, tF, tZ), (mP, mN))) hx hb hr hK hP hS ⟨by first | rfl | (rw [e1] <;> rfl), by first | rfl | (rw [e1] <;> rfl)⟩ hlocks dDB_takeOwnBack_45
    · refine lv_aload_n hx hb dDB_takeOwnBack_30 rfl (lv_at hl 0 rfl) ?_
      refine va_get (D := D) (ci := 4) (v := .ref (a 4)) (C := RDB) (T := TDB) (N := 9) hx hb hts inDB hown hK hP 0 rfl rfl 2 (by decide) (hts _ k130) (fun _ h9 => h9) rfl dDB_takeOwnBack_31 ?_
      refine lv_iload_n hx hb dDB_takeOwnBack_34 rfl (lv_at hl 1 rfl) ?_
      refine lv_aload_n hx hb dDB_takeOwnBack_35 rfl (lv_at hl 0 rfl) ?_
      refine va_get (D := D) (ci := 4) (v := .int (nI dI)) (C := RDB) (T := TDB) (N := 9) hx hb hts inDB hown hK hP 0 rfl rfl 0 (by decide) (hts _ k128) (fun _ h9 => h9) rfl dDB_takeOwnBack_36 ?_
      refine g_callVv (As := [.int (nI j), .int (nI dI)]) (rest := []) ⟨hx, hb, hml, hown, hts⟩ (c_NB_owe l hA dI dO dG dN dT aN aB nS nP nR nG nO nU nT tP tR tO tN tF tZ mP mN j dI (by first | omega | assumption) (by first | omega | assumption)) (cwV 2 hts (gw_V k463 k169 k170 k29 k171) rfl rfl rfl (by decide +kernel) ⟨Nat.le_of_ble_eq_true rfl, Nat.le_of_ble_eq_true rfl⟩) hK hP (va_recv hK hP (ci := 2) (q0 := 4) rfl rfl) rfl hl.1 rfl (Nat.le_of_ble_eq_true rfl) dDB_takeOwnBack_39 ⟨Nat.zero_le _, Nat.zero_le _⟩ (fun q h => h) hS (fun H locs hP hS => ?_)
      have hP : va_P D vwCl (wC cI cL a ((dI, dO, dG, dN, dT), (aN, aB), (nS, nP, nR, nG, vp_updL nO j ((nO j) ||| (bL dI)), vp_updL nU j ((nU j) ||| (bL dI)), nT), (tP, tR, tO, tN, tF, tZ), (mP, mN))) H := hP
      refine lv_iconst (v := 2) hx hb dDB_takeOwnBack_42 (by decide) ?_
      have e1 : fDB_takeOwnBack dI dN aN nO nU j x = (2, dN, vp_updL nO j ((nO j) ||| (bL dI)), vp_updL nU j ((nU j) ||| (bL dI))) := by simp only [fDB_takeOwnBack, if_pos c1, if_neg c2]
      exact g_iret (v := ((dI, dO, dG, dN, dT), (aN, aB), (nS, nP, nR, nG, vp_updL nO j ((nO j) ||| (bL dI)), vp_updL nU j ((nU j) ||| (bL dI)), nT), (tP, tR, tO, tN, tF, tZ), (mP, mN))) hx hb hr hK hP hS ⟨by first | rfl | (rw [e1] <;> rfl), by first | rfl | (rw [e1] <;> rfl)⟩ hlocks dDB_takeOwnBack_43
  · refine lv_aload_n hx hb dDB_takeOwnBack_8 rfl (lv_at hl 0 rfl) ?_
    refine lv_iload_n hx hb dDB_takeOwnBack_9 rfl (lv_at hl 2 rfl) ?_
    refine va_put (D := D) (ci := 4) (v := .int x) (ty := .int) (C := RDB) (T := TDB) (N := 9) hx hb hts inDB tyDB tyDB_ok nmDB hown hK hP (hA _) hS 0 rfl rfl 7 (by decide) (hts _ k135) (fun _ h9 => h9) rfl (by decide +kernel) rfl rfl (Nat.le_of_ble_eq_true rfl) dDB_takeOwnBack_10 (fun H locs hP _ hS => ?_)
    have hP : va_P D vwCl (wC cI cL a ((dI, dO, dG, x, dT), (aN, aB), (nS, nP, nR, nG, nO, nU, nT), (tP, tR, tO, tN, tF, tZ), (mP, mN))) H := hP
    refine lv_iconst (v := 3) hx hb dDB_takeOwnBack_13 (by decide) ?_
    have e1 : fDB_takeOwnBack dI dN aN nO nU j x = (3, x, nO, nU) := by simp only [fDB_takeOwnBack, if_neg c1]
    exact g_iret (v := ((dI, dO, dG, x, dT), (aN, aB), (nS, nP, nR, nG, nO, nU, nT), (tP, tR, tO, tN, tF, tZ), (mP, mN))) hx hb hr hK hP hS ⟨by first | rfl | (rw [e1] <;> rfl), by first | rfl | (rw [e1] <;> rfl)⟩ hlocks dDB_takeOwnBack_14
def fDB_takeAdvert (aN : Nat → Int32) (aB : Nat → Int32) (nS : Nat → Int32) (nO : Nat → Int64) (nU : Nat → Int64) (j : Nat) (o : Nat) (x : Int32) (y : Int32) : Int32 × (Nat → Int32) × (Nat → Int32) × (Nat → Int64) × (Nat → Int64) := (if x ≤ (aN o) then (if x = (aN o) then (1, aN, aB, nO, nU) else (2, aN, aB, vp_updL nO j ((nO j) ||| (bL o)), vp_updL nU j ((nU j) ||| (bL o)))) else (0, upd aN o x, upd aB o y, (LNB_oweToFriendsBut nS (some j) o 16 0 nO nU).1, (LNB_oweToFriendsBut nS (some j) o 16 0 nO nU).2))
set_option maxHeartbeats 4000000 in
set_option maxRecDepth 100000 in
theorem c_DB_takeAdvert (l : Launch) {D : va_G} {cI cL : ClassId} {a : Nat → Nat} {A : Nat → Prop} (hA : ∀ v : CS, va_D A (wC cI cL a v)) (dI : Nat) (dO dG dN dT : Int32) (aN aB : Nat → Int32) (nS nP nR nG : Nat → Int32) (nO nU : Nat → Int64) (nT : Nat → Int32) (tP tR tO tN : Nat → Int32) (tF tZ : Nat) (mP : Nat → Int32) (mN : Int64) (j : Nat) (o : Nat) (x : Int32) (y : Int32) (hj : j < 16) (ho : o < 64) : Met l yDB_takeAdvert wsDB_takeAdvert ({ frames := 2, cells := 0, slots := 0, locals := 45 }) (va_Pc [.ref (a 0), .int (nI j), .int (nI o), .int x, .int y] (gG D (tyC cI cL) (wC cI cL a) ((dI, dO, dG, dN, dT), (aN, aB), (nS, nP, nR, nG, nO, nU, nT), (tP, tR, tO, tN, tF, tZ), (mP, mN)))) (va_Qi (fun (r : Int32) (u : CS) => r = (fDB_takeAdvert aN aB nS nO nU j o x y).1 ∧ u = ((dI, dO, dG, dN, dT), ((fDB_takeAdvert aN aB nS nO nU j o x y).2.1, (fDB_takeAdvert aN aB nS nO nU j o x y).2.2.1), (nS, nP, nR, nG, (fDB_takeAdvert aN aB nS nO nU j o x y).2.2.2.1, (fDB_takeAdvert aN aB nS nO nU j o x y).2.2.2.2, nT), (tP, tR, tO, tN, tF, tZ), (mP, mN))) (gG D (tyC cI cL) (wC cI cL a)) A) 0 0 A := by
  refine g_enter (by decide) rfl (Nat.le_of_ble_eq_true rfl) ?_
  intro p e s m below meth c ls F hK hP hl
  obtain ⟨hx, hb, hr, hml, hown, hts, hlocks⟩ := id F
  have hS : va_S A s.heap s.heap [] := va_S.rf
  have hl : lv_has ls 6 [(0, .ref (a 0)), (1, .int (nI j)), (2, .int (nI o)), (3, .int x), (4, .int y)] := hl
  refine lv_aload_n hx hb dDB_takeAdvert_0 rfl (lv_at hl 0 rfl) ?_
  refine va_get (D := D) (ci := 4) (v := .ref (a 1)) (C := RDB) (T := TDB) (N := 9) hx hb hts inDB hown hK hP 0 rfl rfl 1 (by decide) (hts _ k129) (fun _ h9 => h9) rfl dDB_takeAdvert_1 ?_
  refine lv_iload_n hx hb dDB_takeAdvert_4 rfl (lv_at hl 2 rfl) ?_
  refine g_roVi (As := [.int (nI o)]) (rest := []) ⟨hx, hb, hml, hown, hts⟩ (c_AD_numberOf l dI dO dG dN dT aN aB nS nP nR nG nO nU nT tP tR tO tN tF tZ mP mN o (by first | omega | assumption)) (cwV 1 hts (gw_V k242 k243 k244 k28 k245) rfl rfl rfl (by decide +kernel) ⟨Nat.le_of_ble_eq_true rfl, Nat.le_of_ble_eq_true rfl⟩) hK hP (va_recv hK hP (ci := 0) (q0 := 1) rfl rfl) rfl hl.1 rfl (Nat.le_of_ble_eq_true rfl) dDB_takeAdvert_5 ⟨Nat.zero_le _, Nat.zero_le _⟩ ?_
  refine lv_istore (lv' := [(5, .int (aN o)), (0, .ref (a 0)), (1, .int (nI j)), (2, .int (nI o)), (3, .int x), (4, .int y)]) hx hb dDB_takeAdvert_8 hl (by decide) rfl (fun ls hl => ?_)
  refine lv_iload_n hx hb dDB_takeAdvert_10 rfl (lv_at hl 4 rfl) ?_
  refine lv_iload hx hb dDB_takeAdvert_11 (lv_at hl 0 rfl) ?_
  refine lv_icmp_le (tgt := 38) hx hb dDB_takeAdvert_13 (by decide) (fun c1 => ?_) (fun c1 => ?_)
  · refine lv_iload_n hx hb dDB_takeAdvert_38 rfl (lv_at hl 4 rfl) ?_
    refine lv_iload hx hb dDB_takeAdvert_39 (lv_at hl 0 rfl) ?_
    refine lv_icmp_ne (tgt := 46) hx hb dDB_takeAdvert_41 (by decide) (fun c2 => ?_) (fun c2 => ?_)
    · refine lv_aload_n hx hb dDB_takeAdvert_46 rfl (lv_at hl 1 rfl) ?_
      refine va_get (D := D) (ci := 4) (v := .ref (a 4)) (C := RDB) (T := TDB) (N := 9) hx hb hts inDB hown hK hP 0 rfl rfl 2 (by decide) (hts _ k130) (fun _ h9 => h9) rfl dDB_takeAdvert_47 ?_
      refine lv_iload_n hx hb dDB_takeAdvert_50 rfl (lv_at hl 2 rfl) ?_
      refine lv_iload_n hx hb dDB_takeAdvert_51 rfl (lv_at hl 3 rfl) ?_
      refine g_callVv (As := [.int (nI j), .int (nI o)]) (rest := []) ⟨hx, hb, hml, hown, hts⟩ (c_NB_owe l hA dI dO dG dN dT aN aB nS nP nR nG nO nU nT tP tR tO tN tF tZ mP mN j o (by first | omega | assumption) (by first | omega | assumption)) (cwV 2 hts (gw_V k463 k169 k170 k29 k171) rfl rfl rfl (by decide +kernel) ⟨Nat.le_of_ble_eq_true rfl, Nat.le_of_ble_eq_true rfl⟩) hK hP (va_recv hK hP (ci := 2) (q0 := 4) rfl rfl) rfl hl.1 rfl (Nat.le_of_ble_eq_true rfl) dDB_takeAdvert_52 ⟨Nat.zero_le _, Nat.zero_le _⟩ (fun q h => h) hS (fun H locs hP hS => ?_)
      have hP : va_P D vwCl (wC cI cL a ((dI, dO, dG, dN, dT), (aN, aB), (nS, nP, nR, nG, vp_updL nO j ((nO j) ||| (bL o)), vp_updL nU j ((nU j) ||| (bL o)), nT), (tP, tR, tO, tN, tF, tZ), (mP, mN))) H := hP
      refine lv_iconst (v := 2) hx hb dDB_takeAdvert_55 (by decide) ?_
      have e1 : fDB_takeAdvert aN aB nS nO nU j o x y = (2, aN, aB, vp_updL nO j ((nO j) ||| (bL o)), vp_updL nU j ((nU j) ||| (bL o))) := by simp only [fDB_takeAdvert, if_pos c1, if_neg c2]
      exact g_iret (v := ((dI, dO, dG, dN, dT), (aN, aB), (nS, nP, nR, nG, vp_updL nO j ((nO j) ||| (bL o)), vp_updL nU j ((nU j) ||| (bL o)), nT), (tP, tR, tO, tN, tF, tZ), (mP, mN))) hx hb hr hK hP hS ⟨by first | rfl | (rw [e1] <;> rfl), by first | rfl | (rw [e1] <;> rfl)⟩ hlocks dDB_takeAdvert_56
    · refine lv_iconst (v := 1) hx hb dDB_takeAdvert_44 (by decide) ?_
      have e1 : fDB_takeAdvert aN aB nS nO nU j o x y = (1, aN, aB, nO, nU) := by simp only [fDB_takeAdvert, if_pos c1, if_pos c2]
      exact g_iret (v := ((dI, dO, dG, dN, dT), (aN, aB), (nS, nP, nR, nG, nO, nU, nT), (tP, tR, tO, tN, tF, tZ), (mP, mN))) hx hb hr hK hP hS ⟨by first | rfl | (rw [e1] <;> rfl), by first | rfl | (rw [e1] <;> rfl)⟩ hlocks dDB_takeAdvert_45
  · refine lv_aload_n hx hb dDB_takeAdvert_16 rfl (lv_at hl 1 rfl) ?_
    refine va_get (D := D) (ci := 4) (v := .ref (a 1)) (C := RDB) (T := TDB) (N := 9) hx hb hts inDB hown hK hP 0 rfl rfl 1 (by decide) (hts _ k129) (fun _ h9 => h9) rfl dDB_takeAdvert_17 ?_
    refine lv_iload_n hx hb dDB_takeAdvert_20 rfl (lv_at hl 3 rfl) ?_
    refine lv_iload_n hx hb dDB_takeAdvert_21 rfl (lv_at hl 4 rfl) ?_
    refine lv_iload hx hb dDB_takeAdvert_22 (lv_at hl 5 rfl) ?_
    refine g_callVv (As := [.int (nI o), .int x, .int y]) (rest := []) ⟨hx, hb, hml, hown, hts⟩ (c_AD_put l hA dI dO dG dN dT aN aB nS nP nR nG nO nU nT tP tR tO tN tF tZ mP mN o x y (by first | omega | assumption)) (cwV 3 hts (gw_V k160 k161 k162 k28 k163) rfl rfl rfl (by decide +kernel) ⟨Nat.le_of_ble_eq_true rfl, Nat.le_of_ble_eq_true rfl⟩) hK hP (va_recv hK hP (ci := 0) (q0 := 1) rfl rfl) rfl hl.1 rfl (Nat.le_of_ble_eq_true rfl) dDB_takeAdvert_24 ⟨Nat.zero_le _, Nat.zero_le _⟩ (fun q h => h) hS (fun H locs hP hS => ?_)
    have hP : va_P D vwCl (wC cI cL a ((dI, dO, dG, dN, dT), (upd aN o x, upd aB o y), (nS, nP, nR, nG, nO, nU, nT), (tP, tR, tO, tN, tF, tZ), (mP, mN))) H := hP
    refine lv_aload_n hx hb dDB_takeAdvert_27 rfl (lv_at hl 1 rfl) ?_
    refine va_get (D := D) (ci := 4) (v := .ref (a 4)) (C := RDB) (T := TDB) (N := 9) hx hb hts inDB hown hK hP 0 rfl rfl 2 (by decide) (hts _ k130) (fun _ h9 => h9) rfl dDB_takeAdvert_28 ?_
    refine lv_iload_n hx hb dDB_takeAdvert_31 rfl (lv_at hl 2 rfl) ?_
    refine lv_iload_n hx hb dDB_takeAdvert_32 rfl (lv_at hl 3 rfl) ?_
    refine g_callVv (As := [.int (nI j), .int (nI o)]) (rest := []) ⟨hx, hb, hml, hown, hts⟩ (c_NB_oweToFriendsBut l hA dI dO dG dN dT (upd aN o x) (upd aB o y) nS nP nR nG nO nU nT tP tR tO tN tF tZ mP mN (some j) o (by first | omega | assumption)) (cwV 2 hts (gw_V k164 k165 k166 k29 k167) rfl rfl rfl (by decide +kernel) ⟨Nat.le_of_ble_eq_true rfl, Nat.le_of_ble_eq_true rfl⟩) hK hP (va_recv hK hP (ci := 2) (q0 := 4) rfl rfl) rfl hl.1 rfl (Nat.le_of_ble_eq_true rfl) dDB_takeAdvert_33 ⟨Nat.zero_le _, Nat.zero_le _⟩ (fun q h => h) hS (fun H locs hP hS => ?_)
    have hP : va_P D vwCl (wC cI cL a ((dI, dO, dG, dN, dT), (upd aN o x, upd aB o y), (nS, nP, nR, nG, (LNB_oweToFriendsBut nS (some j) o 16 0 nO nU).1, (LNB_oweToFriendsBut nS (some j) o 16 0 nO nU).2, nT), (tP, tR, tO, tN, tF, tZ), (mP, mN))) H := hP
    refine lv_iconst (v := 0) hx hb dDB_takeAdvert_36 (by decide) ?_
    have e1 : fDB_takeAdvert aN aB nS nO nU j o x y = (0, upd aN o x, upd aB o y, (LNB_oweToFriendsBut nS (some j) o 16 0 nO nU).1, (LNB_oweToFriendsBut nS (some j) o 16 0 nO nU).2) := by simp only [fDB_takeAdvert, if_neg c1]
    exact g_iret (v := ((dI, dO, dG, dN, dT), (upd aN o x, upd aB o y), (nS, nP, nR, nG, (LNB_oweToFriendsBut nS (some j) o 16 0 nO nU).1, (LNB_oweToFriendsBut nS (some j) o 16 0 nO nU).2, nT), (tP, tR, tO, tN, tF, tZ), (mP, mN))) hx hb hr hK hP hS ⟨by first | rfl | (rw [e1] <;> rfl), by first | rfl | (rw [e1] <;> rfl)⟩ hlocks dDB_takeAdvert_37
def fDB_advert (dI : Nat) (dN : Int32) (aN : Nat → Int32) (aB : Nat → Int32) (nS : Nat → Int32) (nP : Nat → Int32) (nR : Nat → Int32) (nO : Nat → Int64) (nU : Nat → Int64) (tP : Nat → Int32) (tR : Nat → Int32) (tO : Nat → Int32) (tN : Nat → Int32) (tF : Nat) (tZ : Nat) (q : Nat) (o : Nat) (g : Nat) (x : Int32) (y : Int32) : Int32 × Int32 × (Nat → Int32) × (Nat → Int32) × (Nat → Int64) × (Nat → Int64) × (Nat → Int32) × (Nat → Int32) × (Nat → Int32) × (Nat → Int32) × Nat := (match fNB_friendPlace nS nP nR (nI q) (nI o) with | none => ((-1), dN, aN, aB, nO, nU, tP, tR, tO, tN, tZ) | some k1 => (if x < (aN g) then (if g = dI then ((fDB_takeOwnBack dI dN aN nO nU k1 x).1, (fDB_takeOwnBack dI dN aN nO nU k1 x).2.1, aN, aB, (fDB_takeOwnBack dI dN aN nO nU k1 x).2.2.1, (fDB_takeOwnBack dI dN aN nO nU k1 x).2.2.2, (fTQ_add tP tR tO tN tF tZ (nI q) (nI o) (nI g) x).1, (fTQ_add tP tR tO tN tF tZ (nI q) (nI o) (nI g) x).2.1, (fTQ_add tP tR tO tN tF tZ (nI q) (nI o) (nI g) x).2.2.1, (fTQ_add tP tR tO tN tF tZ (nI q) (nI o) (nI g) x).2.2.2.1, (fTQ_add tP tR tO tN tF tZ (nI q) (nI o) (nI g) x).2.2.2.2) else ((fDB_takeAdvert aN aB nS nO nU k1 g x y).1, dN, (fDB_takeAdvert aN aB nS nO nU k1 g x y).2.1, (fDB_takeAdvert aN aB nS nO nU k1 g x y).2.2.1, (fDB_takeAdvert aN aB nS nO nU k1 g x y).2.2.2.1, (fDB_takeAdvert aN aB nS nO nU k1 g x y).2.2.2.2, (fTQ_add tP tR tO tN tF tZ (nI q) (nI o) (nI g) x).1, (fTQ_add tP tR tO tN tF tZ (nI q) (nI o) (nI g) x).2.1, (fTQ_add tP tR tO tN tF tZ (nI q) (nI o) (nI g) x).2.2.1, (fTQ_add tP tR tO tN tF tZ (nI q) (nI o) (nI g) x).2.2.2.1, (fTQ_add tP tR tO tN tF tZ (nI q) (nI o) (nI g) x).2.2.2.2)) else (if g = dI then ((fDB_takeOwnBack dI dN aN (vp_updL nO k1 ((nO k1) &&& ((bL g) ^^^ (-1)))) (vp_updL nU k1 ((nU k1) &&& ((bL g) ^^^ (-1)))) k1 x).1, (fDB_takeOwnBack dI dN aN (vp_updL nO k1 ((nO k1) &&& ((bL g) ^^^ (-1)))) (vp_updL nU k1 ((nU k1) &&& ((bL g) ^^^ (-1)))) k1 x).2.1, aN, aB, (fDB_takeOwnBack dI dN aN (vp_updL nO k1 ((nO k1) &&& ((bL g) ^^^ (-1)))) (vp_updL nU k1 ((nU k1) &&& ((bL g) ^^^ (-1)))) k1 x).2.2.1, (fDB_takeOwnBack dI dN aN (vp_updL nO k1 ((nO k1) &&& ((bL g) ^^^ (-1)))) (vp_updL nU k1 ((nU k1) &&& ((bL g) ^^^ (-1)))) k1 x).2.2.2, (fTQ_add tP tR tO tN tF tZ (nI q) (nI o) (nI g) x).1, (fTQ_add tP tR tO tN tF tZ (nI q) (nI o) (nI g) x).2.1, (fTQ_add tP tR tO tN tF tZ (nI q) (nI o) (nI g) x).2.2.1, (fTQ_add tP tR tO tN tF tZ (nI q) (nI o) (nI g) x).2.2.2.1, (fTQ_add tP tR tO tN tF tZ (nI q) (nI o) (nI g) x).2.2.2.2) else ((fDB_takeAdvert aN aB nS (vp_updL nO k1 ((nO k1) &&& ((bL g) ^^^ (-1)))) (vp_updL nU k1 ((nU k1) &&& ((bL g) ^^^ (-1)))) k1 g x y).1, dN, (fDB_takeAdvert aN aB nS (vp_updL nO k1 ((nO k1) &&& ((bL g) ^^^ (-1)))) (vp_updL nU k1 ((nU k1) &&& ((bL g) ^^^ (-1)))) k1 g x y).2.1, (fDB_takeAdvert aN aB nS (vp_updL nO k1 ((nO k1) &&& ((bL g) ^^^ (-1)))) (vp_updL nU k1 ((nU k1) &&& ((bL g) ^^^ (-1)))) k1 g x y).2.2.1, (fDB_takeAdvert aN aB nS (vp_updL nO k1 ((nO k1) &&& ((bL g) ^^^ (-1)))) (vp_updL nU k1 ((nU k1) &&& ((bL g) ^^^ (-1)))) k1 g x y).2.2.2.1, (fDB_takeAdvert aN aB nS (vp_updL nO k1 ((nO k1) &&& ((bL g) ^^^ (-1)))) (vp_updL nU k1 ((nU k1) &&& ((bL g) ^^^ (-1)))) k1 g x y).2.2.2.2, (fTQ_add tP tR tO tN tF tZ (nI q) (nI o) (nI g) x).1, (fTQ_add tP tR tO tN tF tZ (nI q) (nI o) (nI g) x).2.1, (fTQ_add tP tR tO tN tF tZ (nI q) (nI o) (nI g) x).2.2.1, (fTQ_add tP tR tO tN tF tZ (nI q) (nI o) (nI g) x).2.2.2.1, (fTQ_add tP tR tO tN tF tZ (nI q) (nI o) (nI g) x).2.2.2.2))))
set_option maxHeartbeats 4000000 in
set_option maxRecDepth 100000 in
theorem c_DB_advert (l : Launch) {D : va_G} {cI cL : ClassId} {a : Nat → Nat} {A : Nat → Prop} (hA : ∀ v : CS, va_D A (wC cI cL a v)) (dI : Nat) (dO dG dN dT : Int32) (aN aB : Nat → Int32) (nS nP nR nG : Nat → Int32) (nO nU : Nat → Int64) (nT : Nat → Int32) (tP tR tO tN : Nat → Int32) (tF tZ : Nat) (mP : Nat → Int32) (mN : Int64) (q : Nat) (o : Nat) (g : Nat) (x : Int32) (y : Int32) (hq : q < 8) (ho : o < 64) (hne : ¬ o = dI) (hI : dI < 64) (hg : g < 64) (h1 : ¬ x < 1) (h2 : x ≤ 1000000000) (hon : fDB_isOn dO q = true) (hF : tF < 64) (hZ : tZ ≤ 64) : Met l yDB_advert wsDB_advert ({ frames := 3, cells := 0, slots := 0, locals := 70 }) (va_Pc [.ref (a 0), .int (nI q), .int (nI o), .int (nI g), .int x, .int y] (gG D (tyC cI cL) (wC cI cL a) ((dI, dO, dG, dN, dT), (aN, aB), (nS, nP, nR, nG, nO, nU, nT), (tP, tR, tO, tN, tF, tZ), (mP, mN)))) (va_Qi (fun (r : Int32) (u : CS) => r = (fDB_advert dI dN aN aB nS nP nR nO nU tP tR tO tN tF tZ q o g x y).1 ∧ u = ((dI, dO, dG, (fDB_advert dI dN aN aB nS nP nR nO nU tP tR tO tN tF tZ q o g x y).2.1, dT), ((fDB_advert dI dN aN aB nS nP nR nO nU tP tR tO tN tF tZ q o g x y).2.2.1, (fDB_advert dI dN aN aB nS nP nR nO nU tP tR tO tN tF tZ q o g x y).2.2.2.1), (nS, nP, nR, nG, (fDB_advert dI dN aN aB nS nP nR nO nU tP tR tO tN tF tZ q o g x y).2.2.2.2.1, (fDB_advert dI dN aN aB nS nP nR nO nU tP tR tO tN tF tZ q o g x y).2.2.2.2.2.1, nT), ((fDB_advert dI dN aN aB nS nP nR nO nU tP tR tO tN tF tZ q o g x y).2.2.2.2.2.2.1, (fDB_advert dI dN aN aB nS nP nR nO nU tP tR tO tN tF tZ q o g x y).2.2.2.2.2.2.2.1, (fDB_advert dI dN aN aB nS nP nR nO nU tP tR tO tN tF tZ q o g x y).2.2.2.2.2.2.2.2.1, (fDB_advert dI dN aN aB nS nP nR nO nU tP tR tO tN tF tZ q o g x y).2.2.2.2.2.2.2.2.2.1, tF, (fDB_advert dI dN aN aB nS nP nR nO nU tP tR tO tN tF tZ q o g x y).2.2.2.2.2.2.2.2.2.2), (mP, mN))) (gG D (tyC cI cL) (wC cI cL a)) A) 0 0 A := by
  refine g_enter (by decide) rfl (Nat.le_of_ble_eq_true rfl) ?_
  intro p e s m below meth c ls F hK hP hl
  obtain ⟨hx, hb, hr, hml, hown, hts, hlocks⟩ := id F
  have hS : va_S A s.heap s.heap [] := va_S.rf
  have hl : lv_has ls 7 [(0, .ref (a 0)), (1, .int (nI q)), (2, .int (nI o)), (3, .int (nI g)), (4, .int x), (5, .int y)] := hl
  refine lv_aload_n hx hb dDB_advert_0 rfl (lv_at hl 0 rfl) ?_
  refine lv_iload_n hx hb dDB_advert_1 rfl (lv_at hl 1 rfl) ?_
  refine lv_iload_n hx hb dDB_advert_2 rfl (lv_at hl 2 rfl) ?_
  refine lv_iload_n hx hb dDB_advert_3 rfl (lv_at hl 3 rfl) ?_
  refine lv_iload hx hb dDB_advert_4 (lv_at hl 4 rfl) ?_
  refine g_roVv (As := [.int (nI q), .int (nI o), .int (nI g), .int x]) (rest := []) ⟨hx, hb, hml, hown, hts⟩ (c_DB_requireLegal l dI dO dG dN dT aN aB nS nP nR nG nO nU nT tP tR tO tN tF tZ mP mN q o g x (by first | omega | assumption) (by first | omega | assumption) (by first | omega | assumption) (by first | omega | assumption) (by first | omega | assumption) (by first | omega | assumption) (by first | omega | assumption) (by first | omega | assumption)) (cwV 4 hts (gw_V k434 k436 k14 k27 k437) rfl rfl rfl (by decide +kernel) ⟨Nat.le_of_ble_eq_true rfl, Nat.le_of_ble_eq_true rfl⟩) hK hP (va_recv hK hP (ci := 4) (q0 := 0) rfl rfl) rfl hl.1 rfl (Nat.le_of_ble_eq_true rfl) dDB_advert_6 ⟨Nat.zero_le _, Nat.zero_le _⟩ ?_
  refine lv_aload_n hx hb dDB_advert_9 rfl (lv_at hl 0 rfl) ?_
  refine va_get (D := D) (ci := 4) (v := .ref (a 4)) (C := RDB) (T := TDB) (N := 9) hx hb hts inDB hown hK hP 0 rfl rfl 2 (by decide) (hts _ k130) (fun _ h9 => h9) rfl dDB_advert_10 ?_
  refine lv_iload_n hx hb dDB_advert_13 rfl (lv_at hl 1 rfl) ?_
  refine lv_iload_n hx hb dDB_advert_14 rfl (lv_at hl 2 rfl) ?_
  refine g_roVi (As := [.int (nI q), .int (nI o)]) (rest := []) ⟨hx, hb, hml, hown, hts⟩ (c_NB_friendPlace l dI dO dG dN dT aN aB nS nP nR nG nO nU nT tP tR tO tN tF tZ mP mN (nI q) (nI o)) (cwV 2 hts (gw_V k447 k448 k449 k29 k450) rfl rfl rfl (by decide +kernel) ⟨Nat.le_of_ble_eq_true rfl, Nat.le_of_ble_eq_true rfl⟩) hK hP (va_recv hK hP (ci := 2) (q0 := 4) rfl rfl) rfl hl.1 rfl (Nat.le_of_ble_eq_true rfl) dDB_advert_15 ⟨Nat.zero_le _, Nat.zero_le _⟩ ?_
  rcases ho2 : fNB_friendPlace nS nP nR (nI q) (nI o) with _ | k1
  · refine lv_istore (lv' := [(6, .int (oi none)), (0, .ref (a 0)), (1, .int (nI q)), (2, .int (nI o)), (3, .int (nI g)), (4, .int x), (5, .int y)]) hx hb dDB_advert_18 hl (by decide) rfl (fun ls hl => ?_)
    refine lv_iload hx hb dDB_advert_20 (lv_at hl 0 rfl) ?_
    refine lv_iconst (v := (-1)) hx hb dDB_advert_22 (by decide) ?_
    refine lv_icmp_ne (tgt := 28) hx hb dDB_advert_23 (by decide) (fun c0 => absurd rfl c0) (fun _ => ?_)
    refine lv_iconst (v := (-1)) hx hb dDB_advert_26 (by decide) ?_
    have e1 : fDB_advert dI dN aN aB nS nP nR nO nU tP tR tO tN tF tZ q o g x y = ((-1), dN, aN, aB, nO, nU, tP, tR, tO, tN, tZ) := by simp only [fDB_advert, ho2, cond_true, cond_false]
    exact g_iret (v := ((dI, dO, dG, dN, dT), (aN, aB), (nS, nP, nR, nG, nO, nU, nT), (tP, tR, tO, tN, tF, tZ), (mP, mN))) hx hb hr hK hP hS ⟨by first | rfl | (rw [e1] <;> rfl), by first | rfl | (rw [e1] <;> rfl)⟩ hlocks dDB_advert_27
  · have hk1 := c_NB_friendPlace_lt ho2
    refine lv_istore (lv' := [(6, .int (nI k1)), (0, .ref (a 0)), (1, .int (nI q)), (2, .int (nI o)), (3, .int (nI g)), (4, .int x), (5, .int y)]) hx hb dDB_advert_18 hl (by decide) rfl (fun ls hl => ?_)
    refine lv_iload hx hb dDB_advert_20 (lv_at hl 0 rfl) ?_
    refine lv_iconst (v := (-1)) hx hb dDB_advert_22 (by decide) ?_
    refine lv_icmp_ne (tgt := 28) hx hb dDB_advert_23 (by decide) (fun _ => ?_) (fun c0 => absurd c0 (nI_m1 (by omega)))
    refine lv_aload_n hx hb dDB_advert_28 rfl (lv_at hl 1 rfl) ?_
    refine va_get (D := D) (ci := 4) (v := .ref (a 12)) (C := RDB) (T := TDB) (N := 9) hx hb hts inDB hown hK hP 0 rfl rfl 3 (by decide) (hts _ k131) (fun _ h9 => h9) rfl dDB_advert_29 ?_
    refine lv_iload_n hx hb dDB_advert_32 rfl (lv_at hl 2 rfl) ?_
    refine lv_iload_n hx hb dDB_advert_33 rfl (lv_at hl 3 rfl) ?_
    refine lv_iload_n hx hb dDB_advert_34 rfl (lv_at hl 4 rfl) ?_
    refine lv_iload hx hb dDB_advert_35 (lv_at hl 5 rfl) ?_
    refine g_callVv (As := [.int (nI q), .int (nI o), .int (nI g), .int x]) (rest := []) ⟨hx, hb, hml, hown, hts⟩ (c_TQ_add l hA dI dO dG dN dT aN aB nS nP nR nG nO nU nT tP tR tO tN tF tZ mP mN (nI q) (nI o) (nI g) x (by first | omega | assumption) (by first | omega | assumption)) (cwV 4 hts (gw_V k451 k452 k453 k30 k454) rfl rfl rfl (by decide +kernel) ⟨Nat.le_of_ble_eq_true rfl, Nat.le_of_ble_eq_true rfl⟩) hK hP (va_recv hK hP (ci := 3) (q0 := 12) rfl rfl) rfl hl.1 rfl (Nat.le_of_ble_eq_true rfl) dDB_advert_37 ⟨Nat.zero_le _, Nat.zero_le _⟩ (fun q h => h) hS (fun H locs hP hS => ?_)
    have hP : va_P D vwCl (wC cI cL a ((dI, dO, dG, dN, dT), (aN, aB), (nS, nP, nR, nG, nO, nU, nT), ((fTQ_add tP tR tO tN tF tZ (nI q) (nI o) (nI g) x).1, (fTQ_add tP tR tO tN tF tZ (nI q) (nI o) (nI g) x).2.1, (fTQ_add tP tR tO tN tF tZ (nI q) (nI o) (nI g) x).2.2.1, (fTQ_add tP tR tO tN tF tZ (nI q) (nI o) (nI g) x).2.2.2.1, tF, (fTQ_add tP tR tO tN tF tZ (nI q) (nI o) (nI g) x).2.2.2.2), (mP, mN))) H := hP
    refine lv_iload hx hb dDB_advert_40 (lv_at hl 5 rfl) ?_
    refine lv_aload_n hx hb dDB_advert_42 rfl (lv_at hl 1 rfl) ?_
    refine va_get (D := D) (ci := 4) (v := .ref (a 1)) (C := RDB) (T := TDB) (N := 9) hx hb hts inDB hown hK hP 0 rfl rfl 1 (by decide) (hts _ k129) (fun _ h9 => h9) rfl dDB_advert_43 ?_
    refine lv_iload_n hx hb dDB_advert_46 rfl (lv_at hl 4 rfl) ?_
    refine g_roVi (As := [.int (nI g)]) (rest := [.int x]) ⟨hx, hb, hml, hown, hts⟩ (c_AD_numberOf l dI dO dG dN dT aN aB nS nP nR nG nO nU nT ((fTQ_add tP tR tO tN tF tZ (nI q) (nI o) (nI g) x).1) ((fTQ_add tP tR tO tN tF tZ (nI q) (nI o) (nI g) x).2.1) ((fTQ_add tP tR tO tN tF tZ (nI q) (nI o) (nI g) x).2.2.1) ((fTQ_add tP tR tO tN tF tZ (nI q) (nI o) (nI g) x).2.2.2.1) tF ((fTQ_add tP tR tO tN tF tZ (nI q) (nI o) (nI g) x).2.2.2.2) mP mN g (by first | omega | assumption)) (cwV 1 hts (gw_V k242 k243 k244 k28 k245) rfl rfl rfl (by decide +kernel) ⟨Nat.le_of_ble_eq_true rfl, Nat.le_of_ble_eq_true rfl⟩) hK hP (va_recv hK hP (ci := 0) (q0 := 1) rfl rfl) rfl hl.1 rfl (Nat.le_of_ble_eq_true rfl) dDB_advert_47 ⟨Nat.zero_le _, Nat.zero_le _⟩ ?_
    refine lv_icmp_lt (tgt := 64) hx hb dDB_advert_50 (by decide) (fun c5 => ?_) (fun c5 => ?_)
    · refine lv_iload_n hx hb dDB_advert_64 rfl (lv_at hl 4 rfl) ?_
      refine lv_aload_n hx hb dDB_advert_65 rfl (lv_at hl 1 rfl) ?_
      refine va_get (D := D) (ci := 4) (v := .int (nI dI)) (C := RDB) (T := TDB) (N := 9) hx hb hts inDB hown hK hP 0 rfl rfl 0 (by decide) (hts _ k128) (fun _ h9 => h9) rfl dDB_advert_66 ?_
      refine lv_icmp_ne (tgt := 81) hx hb dDB_advert_69 (by decide) (fun c6 => ?_) (fun c6 => ?_)
      · have c6 : ¬ g = dI := fun q => c6 ((nI_eq (by omega) (by omega)).mpr q)
        refine lv_aload_n hx hb dDB_advert_81 rfl (lv_at hl 1 rfl) ?_
        refine lv_iload hx hb dDB_advert_82 (lv_at hl 0 rfl) ?_
        refine lv_iload_n hx hb dDB_advert_84 rfl (lv_at hl 4 rfl) ?_
        refine lv_iload hx hb dDB_advert_85 (lv_at hl 5 rfl) ?_
        refine lv_iload hx hb dDB_advert_87 (lv_at hl 6 rfl) ?_
        refine g_callVi (As := [.int (nI k1), .int (nI g), .int x, .int y]) (rest := []) ⟨hx, hb, hml, hown, hts⟩ (c_DB_takeAdvert l hA dI dO dG dN dT aN aB nS nP nR nG nO nU nT ((fTQ_add tP tR tO tN tF tZ (nI q) (nI o) (nI g) x).1) ((fTQ_add tP tR tO tN tF tZ (nI q) (nI o) (nI g) x).2.1) ((fTQ_add tP tR tO tN tF tZ (nI q) (nI o) (nI g) x).2.2.1) ((fTQ_add tP tR tO tN tF tZ (nI q) (nI o) (nI g) x).2.2.2.1) tF ((fTQ_add tP tR tO tN tF tZ (nI q) (nI o) (nI g) x).2.2.2.2) mP mN k1 g x y (by first | omega | assumption) (by first | omega | assumption)) (cwV 4 hts (gw_V k464 k466 k16 k27 k467) rfl rfl rfl (by decide +kernel) ⟨Nat.le_of_ble_eq_true rfl, Nat.le_of_ble_eq_true rfl⟩) hK hP (va_recv hK hP (ci := 4) (q0 := 0) rfl rfl) rfl hl.1 rfl (Nat.le_of_ble_eq_true rfl) dDB_advert_89 ⟨Nat.zero_le _, Nat.zero_le _⟩ (fun q h => h) hS (fun H locs hP hS => ?_)
        have hP : va_P D vwCl (wC cI cL a ((dI, dO, dG, dN, dT), ((fDB_takeAdvert aN aB nS nO nU k1 g x y).2.1, (fDB_takeAdvert aN aB nS nO nU k1 g x y).2.2.1), (nS, nP, nR, nG, (fDB_takeAdvert aN aB nS nO nU k1 g x y).2.2.2.1, (fDB_takeAdvert aN aB nS nO nU k1 g x y).2.2.2.2, nT), ((fTQ_add tP tR tO tN tF tZ (nI q) (nI o) (nI g) x).1, (fTQ_add tP tR tO tN tF tZ (nI q) (nI o) (nI g) x).2.1, (fTQ_add tP tR tO tN tF tZ (nI q) (nI o) (nI g) x).2.2.1, (fTQ_add tP tR tO tN tF tZ (nI q) (nI o) (nI g) x).2.2.2.1, tF, (fTQ_add tP tR tO tN tF tZ (nI q) (nI o) (nI g) x).2.2.2.2), (mP, mN))) H := hP
        have e1 : fDB_advert dI dN aN aB nS nP nR nO nU tP tR tO tN tF tZ q o g x y = ((fDB_takeAdvert aN aB nS nO nU k1 g x y).1, dN, (fDB_takeAdvert aN aB nS nO nU k1 g x y).2.1, (fDB_takeAdvert aN aB nS nO nU k1 g x y).2.2.1, (fDB_takeAdvert aN aB nS nO nU k1 g x y).2.2.2.1, (fDB_takeAdvert aN aB nS nO nU k1 g x y).2.2.2.2, (fTQ_add tP tR tO tN tF tZ (nI q) (nI o) (nI g) x).1, (fTQ_add tP tR tO tN tF tZ (nI q) (nI o) (nI g) x).2.1, (fTQ_add tP tR tO tN tF tZ (nI q) (nI o) (nI g) x).2.2.1, (fTQ_add tP tR tO tN tF tZ (nI q) (nI o) (nI g) x).2.2.2.1, (fTQ_add tP tR tO tN tF tZ (nI q) (nI o) (nI g) x).2.2.2.2) := by first | (simp only [fDB_advert, ho2, if_pos c5, if_neg c6, cond_true, cond_false]; done) | (simp only [fDB_advert, ho2, cond_true, cond_false]; simp only [if_pos c5]; simp only [if_neg c6])
        exact g_iret (v := ((dI, dO, dG, dN, dT), ((fDB_takeAdvert aN aB nS nO nU k1 g x y).2.1, (fDB_takeAdvert aN aB nS nO nU k1 g x y).2.2.1), (nS, nP, nR, nG, (fDB_takeAdvert aN aB nS nO nU k1 g x y).2.2.2.1, (fDB_takeAdvert aN aB nS nO nU k1 g x y).2.2.2.2, nT), ((fTQ_add tP tR tO tN tF tZ (nI q) (nI o) (nI g) x).1, (fTQ_add tP tR tO tN tF tZ (nI q) (nI o) (nI g) x).2.1, (fTQ_add tP tR tO tN tF tZ (nI q) (nI o) (nI g) x).2.2.1, (fTQ_add tP tR tO tN tF tZ (nI q) (nI o) (nI g) x).2.2.2.1, tF, (fTQ_add tP tR tO tN tF tZ (nI q) (nI o) (nI g) x).2.2.2.2), (mP, mN))) hx hb hr hK hP hS ⟨by first | rfl | (rw [e1] <;> rfl), by first | rfl | (rw [e1] <;> rfl)⟩ hlocks dDB_advert_92
      · have c6 := (nI_eq (by omega) (by omega)).mp c6
        refine lv_aload_n hx hb dDB_advert_72 rfl (lv_at hl 1 rfl) ?_
        refine lv_iload hx hb dDB_advert_73 (lv_at hl 0 rfl) ?_
        refine lv_iload hx hb dDB_advert_75 (lv_at hl 5 rfl) ?_
        refine g_callVi (As := [.int (nI k1), .int x]) (rest := []) ⟨hx, hb, hml, hown, hts⟩ (c_DB_takeOwnBack l hA dI dO dG dN dT aN aB nS nP nR nG nO nU nT ((fTQ_add tP tR tO tN tF tZ (nI q) (nI o) (nI g) x).1) ((fTQ_add tP tR tO tN tF tZ (nI q) (nI o) (nI g) x).2.1) ((fTQ_add tP tR tO tN tF tZ (nI q) (nI o) (nI g) x).2.2.1) ((fTQ_add tP tR tO tN tF tZ (nI q) (nI o) (nI g) x).2.2.2.1) tF ((fTQ_add tP tR tO tN tF tZ (nI q) (nI o) (nI g) x).2.2.2.2) mP mN k1 x (by first | omega | assumption) (by first | omega | assumption)) (cwV 2 hts (gw_V k459 k461 k15 k27 k462) rfl rfl rfl (by decide +kernel) ⟨Nat.le_of_ble_eq_true rfl, Nat.le_of_ble_eq_true rfl⟩) hK hP (va_recv hK hP (ci := 4) (q0 := 0) rfl rfl) rfl hl.1 rfl (Nat.le_of_ble_eq_true rfl) dDB_advert_77 ⟨Nat.zero_le _, Nat.zero_le _⟩ (fun q h => h) hS (fun H locs hP hS => ?_)
        have hP : va_P D vwCl (wC cI cL a ((dI, dO, dG, (fDB_takeOwnBack dI dN aN nO nU k1 x).2.1, dT), (aN, aB), (nS, nP, nR, nG, (fDB_takeOwnBack dI dN aN nO nU k1 x).2.2.1, (fDB_takeOwnBack dI dN aN nO nU k1 x).2.2.2, nT), ((fTQ_add tP tR tO tN tF tZ (nI q) (nI o) (nI g) x).1, (fTQ_add tP tR tO tN tF tZ (nI q) (nI o) (nI g) x).2.1, (fTQ_add tP tR tO tN tF tZ (nI q) (nI o) (nI g) x).2.2.1, (fTQ_add tP tR tO tN tF tZ (nI q) (nI o) (nI g) x).2.2.2.1, tF, (fTQ_add tP tR tO tN tF tZ (nI q) (nI o) (nI g) x).2.2.2.2), (mP, mN))) H := hP
        have e1 : fDB_advert dI dN aN aB nS nP nR nO nU tP tR tO tN tF tZ q o g x y = ((fDB_takeOwnBack dI dN aN nO nU k1 x).1, (fDB_takeOwnBack dI dN aN nO nU k1 x).2.1, aN, aB, (fDB_takeOwnBack dI dN aN nO nU k1 x).2.2.1, (fDB_takeOwnBack dI dN aN nO nU k1 x).2.2.2, (fTQ_add tP tR tO tN tF tZ (nI q) (nI o) (nI g) x).1, (fTQ_add tP tR tO tN tF tZ (nI q) (nI o) (nI g) x).2.1, (fTQ_add tP tR tO tN tF tZ (nI q) (nI o) (nI g) x).2.2.1, (fTQ_add tP tR tO tN tF tZ (nI q) (nI o) (nI g) x).2.2.2.1, (fTQ_add tP tR tO tN tF tZ (nI q) (nI o) (nI g) x).2.2.2.2) := by first | (simp only [fDB_advert, ho2, if_pos c5, if_pos c6, cond_true, cond_false]; done) | (simp only [fDB_advert, ho2, cond_true, cond_false]; simp only [if_pos c5]; simp only [if_pos c6])
        exact g_iret (v := ((dI, dO, dG, (fDB_takeOwnBack dI dN aN nO nU k1 x).2.1, dT), (aN, aB), (nS, nP, nR, nG, (fDB_takeOwnBack dI dN aN nO nU k1 x).2.2.1, (fDB_takeOwnBack dI dN aN nO nU k1 x).2.2.2, nT), ((fTQ_add tP tR tO tN tF tZ (nI q) (nI o) (nI g) x).1, (fTQ_add tP tR tO tN tF tZ (nI q) (nI o) (nI g) x).2.1, (fTQ_add tP tR tO tN tF tZ (nI q) (nI o) (nI g) x).2.2.1, (fTQ_add tP tR tO tN tF tZ (nI q) (nI o) (nI g) x).2.2.2.1, tF, (fTQ_add tP tR tO tN tF tZ (nI q) (nI o) (nI g) x).2.2.2.2), (mP, mN))) hx hb hr hK hP hS ⟨by first | rfl | (rw [e1] <;> rfl), by first | rfl | (rw [e1] <;> rfl)⟩ hlocks dDB_advert_80
    · refine lv_aload_n hx hb dDB_advert_53 rfl (lv_at hl 1 rfl) ?_
      refine va_get (D := D) (ci := 4) (v := .ref (a 4)) (C := RDB) (T := TDB) (N := 9) hx hb hts inDB hown hK hP 0 rfl rfl 2 (by decide) (hts _ k130) (fun _ h9 => h9) rfl dDB_advert_54 ?_
      refine lv_iload hx hb dDB_advert_57 (lv_at hl 0 rfl) ?_
      refine lv_iload_n hx hb dDB_advert_59 rfl (lv_at hl 4 rfl) ?_
      refine g_callVi (As := [.int (nI k1), .int (nI g)]) (rest := []) ⟨hx, hb, hml, hown, hts⟩ (c_NB_settle l hA dI dO dG dN dT aN aB nS nP nR nG nO nU nT ((fTQ_add tP tR tO tN tF tZ (nI q) (nI o) (nI g) x).1) ((fTQ_add tP tR tO tN tF tZ (nI q) (nI o) (nI g) x).2.1) ((fTQ_add tP tR tO tN tF tZ (nI q) (nI o) (nI g) x).2.2.1) ((fTQ_add tP tR tO tN tF tZ (nI q) (nI o) (nI g) x).2.2.2.1) tF ((fTQ_add tP tR tO tN tF tZ (nI q) (nI o) (nI g) x).2.2.2.2) mP mN k1 g (by first | omega | assumption) (by first | omega | assumption)) (cwV 2 hts (gw_V k455 k456 k457 k29 k458) rfl rfl rfl (by decide +kernel) ⟨Nat.le_of_ble_eq_true rfl, Nat.le_of_ble_eq_true rfl⟩) hK hP (va_recv hK hP (ci := 2) (q0 := 4) rfl rfl) rfl hl.1 rfl (Nat.le_of_ble_eq_true rfl) dDB_advert_60 ⟨Nat.zero_le _, Nat.zero_le _⟩ (fun q h => h) hS (fun H locs hP hS => ?_)
      have hP : va_P D vwCl (wC cI cL a ((dI, dO, dG, dN, dT), (aN, aB), (nS, nP, nR, nG, vp_updL nO k1 ((nO k1) &&& ((bL g) ^^^ (-1))), vp_updL nU k1 ((nU k1) &&& ((bL g) ^^^ (-1))), nT), ((fTQ_add tP tR tO tN tF tZ (nI q) (nI o) (nI g) x).1, (fTQ_add tP tR tO tN tF tZ (nI q) (nI o) (nI g) x).2.1, (fTQ_add tP tR tO tN tF tZ (nI q) (nI o) (nI g) x).2.2.1, (fTQ_add tP tR tO tN tF tZ (nI q) (nI o) (nI g) x).2.2.2.1, tF, (fTQ_add tP tR tO tN tF tZ (nI q) (nI o) (nI g) x).2.2.2.2), (mP, mN))) H := hP
      refine lv_pop hx hb dDB_advert_63 rfl ?_
      refine lv_iload_n hx hb dDB_advert_64 rfl (lv_at hl 4 rfl) ?_
      refine lv_aload_n hx hb dDB_advert_65 rfl (lv_at hl 1 rfl) ?_
      refine va_get (D := D) (ci := 4) (v := .int (nI dI)) (C := RDB) (T := TDB) (N := 9) hx hb hts inDB hown hK hP 0 rfl rfl 0 (by decide) (hts _ k128) (fun _ h9 => h9) rfl dDB_advert_66 ?_
      refine lv_icmp_ne (tgt := 81) hx hb dDB_advert_69 (by decide) (fun c7 => ?_) (fun c7 => ?_)
      · have c7 : ¬ g = dI := fun q => c7 ((nI_eq (by omega) (by omega)).mpr q)
        refine lv_aload_n hx hb dDB_advert_81 rfl (lv_at hl 1 rfl) ?_
        refine lv_iload hx hb dDB_advert_82 (lv_at hl 0 rfl) ?_
        refine lv_iload_n hx hb dDB_advert_84 rfl (lv_at hl 4 rfl) ?_
        refine lv_iload hx hb dDB_advert_85 (lv_at hl 5 rfl) ?_
        refine lv_iload hx hb dDB_advert_87 (lv_at hl 6 rfl) ?_
        refine g_callVi (As := [.int (nI k1), .int (nI g), .int x, .int y]) (rest := []) ⟨hx, hb, hml, hown, hts⟩ (c_DB_takeAdvert l hA dI dO dG dN dT aN aB nS nP nR nG (vp_updL nO k1 ((nO k1) &&& ((bL g) ^^^ (-1)))) (vp_updL nU k1 ((nU k1) &&& ((bL g) ^^^ (-1)))) nT ((fTQ_add tP tR tO tN tF tZ (nI q) (nI o) (nI g) x).1) ((fTQ_add tP tR tO tN tF tZ (nI q) (nI o) (nI g) x).2.1) ((fTQ_add tP tR tO tN tF tZ (nI q) (nI o) (nI g) x).2.2.1) ((fTQ_add tP tR tO tN tF tZ (nI q) (nI o) (nI g) x).2.2.2.1) tF ((fTQ_add tP tR tO tN tF tZ (nI q) (nI o) (nI g) x).2.2.2.2) mP mN k1 g x y (by first | omega | assumption) (by first | omega | assumption)) (cwV 4 hts (gw_V k464 k466 k16 k27 k467) rfl rfl rfl (by decide +kernel) ⟨Nat.le_of_ble_eq_true rfl, Nat.le_of_ble_eq_true rfl⟩) hK hP (va_recv hK hP (ci := 4) (q0 := 0) rfl rfl) rfl hl.1 rfl (Nat.le_of_ble_eq_true rfl) dDB_advert_89 ⟨Nat.zero_le _, Nat.zero_le _⟩ (fun q h => h) hS (fun H locs hP hS => ?_)
        have hP : va_P D vwCl (wC cI cL a ((dI, dO, dG, dN, dT), ((fDB_takeAdvert aN aB nS (vp_updL nO k1 ((nO k1) &&& ((bL g) ^^^ (-1)))) (vp_updL nU k1 ((nU k1) &&& ((bL g) ^^^ (-1)))) k1 g x y).2.1, (fDB_takeAdvert aN aB nS (vp_updL nO k1 ((nO k1) &&& ((bL g) ^^^ (-1)))) (vp_updL nU k1 ((nU k1) &&& ((bL g) ^^^ (-1)))) k1 g x y).2.2.1), (nS, nP, nR, nG, (fDB_takeAdvert aN aB nS (vp_updL nO k1 ((nO k1) &&& ((bL g) ^^^ (-1)))) (vp_updL nU k1 ((nU k1) &&& ((bL g) ^^^ (-1)))) k1 g x y).2.2.2.1, (fDB_takeAdvert aN aB nS (vp_updL nO k1 ((nO k1) &&& ((bL g) ^^^ (-1)))) (vp_updL nU k1 ((nU k1) &&& ((bL g) ^^^ (-1)))) k1 g x y).2.2.2.2, nT), ((fTQ_add tP tR tO tN tF tZ (nI q) (nI o) (nI g) x).1, (fTQ_add tP tR tO tN tF tZ (nI q) (nI o) (nI g) x).2.1, (fTQ_add tP tR tO tN tF tZ (nI q) (nI o) (nI g) x).2.2.1, (fTQ_add tP tR tO tN tF tZ (nI q) (nI o) (nI g) x).2.2.2.1, tF, (fTQ_add tP tR tO tN tF tZ (nI q) (nI o) (nI g) x).2.2.2.2), (mP, mN))) H := hP
        have e1 : fDB_advert dI dN aN aB nS nP nR nO nU tP tR tO tN tF tZ q o g x y = ((fDB_takeAdvert aN aB nS (vp_updL nO k1 ((nO k1) &&& ((bL g) ^^^ (-1)))) (vp_updL nU k1 ((nU k1) &&& ((bL g) ^^^ (-1)))) k1 g x y).1, dN, (fDB_takeAdvert aN aB nS (vp_updL nO k1 ((nO k1) &&& ((bL g) ^^^ (-1)))) (vp_updL nU k1 ((nU k1) &&& ((bL g) ^^^ (-1)))) k1 g x y).2.1, (fDB_takeAdvert aN aB nS (vp_updL nO k1 ((nO k1) &&& ((bL g) ^^^ (-1)))) (vp_updL nU k1 ((nU k1) &&& ((bL g) ^^^ (-1)))) k1 g x y).2.2.1, (fDB_takeAdvert aN aB nS (vp_updL nO k1 ((nO k1) &&& ((bL g) ^^^ (-1)))) (vp_updL nU k1 ((nU k1) &&& ((bL g) ^^^ (-1)))) k1 g x y).2.2.2.1, (fDB_takeAdvert aN aB nS (vp_updL nO k1 ((nO k1) &&& ((bL g) ^^^ (-1)))) (vp_updL nU k1 ((nU k1) &&& ((bL g) ^^^ (-1)))) k1 g x y).2.2.2.2, (fTQ_add tP tR tO tN tF tZ (nI q) (nI o) (nI g) x).1, (fTQ_add tP tR tO tN tF tZ (nI q) (nI o) (nI g) x).2.1, (fTQ_add tP tR tO tN tF tZ (nI q) (nI o) (nI g) x).2.2.1, (fTQ_add tP tR tO tN tF tZ (nI q) (nI o) (nI g) x).2.2.2.1, (fTQ_add tP tR tO tN tF tZ (nI q) (nI o) (nI g) x).2.2.2.2) := by first | (simp only [fDB_advert, ho2, if_neg c5, if_neg c7, cond_true, cond_false]; done) | (simp only [fDB_advert, ho2, cond_true, cond_false]; simp only [if_neg c5]; simp only [if_neg c7])
        exact g_iret (v := ((dI, dO, dG, dN, dT), ((fDB_takeAdvert aN aB nS (vp_updL nO k1 ((nO k1) &&& ((bL g) ^^^ (-1)))) (vp_updL nU k1 ((nU k1) &&& ((bL g) ^^^ (-1)))) k1 g x y).2.1, (fDB_takeAdvert aN aB nS (vp_updL nO k1 ((nO k1) &&& ((bL g) ^^^ (-1)))) (vp_updL nU k1 ((nU k1) &&& ((bL g) ^^^ (-1)))) k1 g x y).2.2.1), (nS, nP, nR, nG, (fDB_takeAdvert aN aB nS (vp_updL nO k1 ((nO k1) &&& ((bL g) ^^^ (-1)))) (vp_updL nU k1 ((nU k1) &&& ((bL g) ^^^ (-1)))) k1 g x y).2.2.2.1, (fDB_takeAdvert aN aB nS (vp_updL nO k1 ((nO k1) &&& ((bL g) ^^^ (-1)))) (vp_updL nU k1 ((nU k1) &&& ((bL g) ^^^ (-1)))) k1 g x y).2.2.2.2, nT), ((fTQ_add tP tR tO tN tF tZ (nI q) (nI o) (nI g) x).1, (fTQ_add tP tR tO tN tF tZ (nI q) (nI o) (nI g) x).2.1, (fTQ_add tP tR tO tN tF tZ (nI q) (nI o) (nI g) x).2.2.1, (fTQ_add tP tR tO tN tF tZ (nI q) (nI o) (nI g) x).2.2.2.1, tF, (fTQ_add tP tR tO tN tF tZ (nI q) (nI o) (nI g) x).2.2.2.2), (mP, mN))) hx hb hr hK hP hS ⟨by first | rfl | (rw [e1] <;> rfl), by first | rfl | (rw [e1] <;> rfl)⟩ hlocks dDB_advert_92
      · have c7 := (nI_eq (by omega) (by omega)).mp c7
        refine lv_aload_n hx hb dDB_advert_72 rfl (lv_at hl 1 rfl) ?_
        refine lv_iload hx hb dDB_advert_73 (lv_at hl 0 rfl) ?_
        refine lv_iload hx hb dDB_advert_75 (lv_at hl 5 rfl) ?_
        refine g_callVi (As := [.int (nI k1), .int x]) (rest := []) ⟨hx, hb, hml, hown, hts⟩ (c_DB_takeOwnBack l hA dI dO dG dN dT aN aB nS nP nR nG (vp_updL nO k1 ((nO k1) &&& ((bL g) ^^^ (-1)))) (vp_updL nU k1 ((nU k1) &&& ((bL g) ^^^ (-1)))) nT ((fTQ_add tP tR tO tN tF tZ (nI q) (nI o) (nI g) x).1) ((fTQ_add tP tR tO tN tF tZ (nI q) (nI o) (nI g) x).2.1) ((fTQ_add tP tR tO tN tF tZ (nI q) (nI o) (nI g) x).2.2.1) ((fTQ_add tP tR tO tN tF tZ (nI q) (nI o) (nI g) x).2.2.2.1) tF ((fTQ_add tP tR tO tN tF tZ (nI q) (nI o) (nI g) x).2.2.2.2) mP mN k1 x (by first | omega | assumption) (by first | omega | assumption)) (cwV 2 hts (gw_V k459 k461 k15 k27 k462) rfl rfl rfl (by decide +kernel) ⟨Nat.le_of_ble_eq_true rfl, Nat.le_of_ble_eq_true rfl⟩) hK hP (va_recv hK hP (ci := 4) (q0 := 0) rfl rfl) rfl hl.1 rfl (Nat.le_of_ble_eq_true rfl) dDB_advert_77 ⟨Nat.zero_le _, Nat.zero_le _⟩ (fun q h => h) hS (fun H locs hP hS => ?_)
        have hP : va_P D vwCl (wC cI cL a ((dI, dO, dG, (fDB_takeOwnBack dI dN aN (vp_updL nO k1 ((nO k1) &&& ((bL g) ^^^ (-1)))) (vp_updL nU k1 ((nU k1) &&& ((bL g) ^^^ (-1)))) k1 x).2.1, dT), (aN, aB), (nS, nP, nR, nG, (fDB_takeOwnBack dI dN aN (vp_updL nO k1 ((nO k1) &&& ((bL g) ^^^ (-1)))) (vp_updL nU k1 ((nU k1) &&& ((bL g) ^^^ (-1)))) k1 x).2.2.1, (fDB_takeOwnBack dI dN aN (vp_updL nO k1 ((nO k1) &&& ((bL g) ^^^ (-1)))) (vp_updL nU k1 ((nU k1) &&& ((bL g) ^^^ (-1)))) k1 x).2.2.2, nT), ((fTQ_add tP tR tO tN tF tZ (nI q) (nI o) (nI g) x).1, (fTQ_add tP tR tO tN tF tZ (nI q) (nI o) (nI g) x).2.1, (fTQ_add tP tR tO tN tF tZ (nI q) (nI o) (nI g) x).2.2.1, (fTQ_add tP tR tO tN tF tZ (nI q) (nI o) (nI g) x).2.2.2.1, tF, (fTQ_add tP tR tO tN tF tZ (nI q) (nI o) (nI g) x).2.2.2.2), (mP, mN))) H := hP
        have e1 : fDB_advert dI dN aN aB nS nP nR nO nU tP tR tO tN tF tZ q o g x y = ((fDB_takeOwnBack dI dN aN (vp_updL nO k1 ((nO k1) &&& ((bL g) ^^^ (-1)))) (vp_updL nU k1 ((nU k1) &&& ((bL g) ^^^ (-1)))) k1 x).1, (fDB_takeOwnBack dI dN aN (vp_updL nO k1 ((nO k1) &&& ((bL g) ^^^ (-1)))) (vp_updL nU k1 ((nU k1) &&& ((bL g) ^^^ (-1)))) k1 x).2.1, aN, aB, (fDB_takeOwnBack dI dN aN (vp_updL nO k1 ((nO k1) &&& ((bL g) ^^^ (-1)))) (vp_updL nU k1 ((nU k1) &&& ((bL g) ^^^ (-1)))) k1 x).2.2.1, (fDB_takeOwnBack dI dN aN (vp_updL nO k1 ((nO k1) &&& ((bL g) ^^^ (-1)))) (vp_updL nU k1 ((nU k1) &&& ((bL g) ^^^ (-1)))) k1 x).2.2.2, (fTQ_add tP tR tO tN tF tZ (nI q) (nI o) (nI g) x).1, (fTQ_add tP tR tO tN tF tZ (nI q) (nI o) (nI g) x).2.1, (fTQ_add tP tR tO tN tF tZ (nI q) (nI o) (nI g) x).2.2.1, (fTQ_add tP tR tO tN tF tZ (nI q) (nI o) (nI g) x).2.2.2.1, (fTQ_add tP tR tO tN tF tZ (nI q) (nI o) (nI g) x).2.2.2.2) := by first | (simp only [fDB_advert, ho2, if_neg c5, if_pos c7, cond_true, cond_false]; done) | (simp only [fDB_advert, ho2, cond_true, cond_false]; simp only [if_neg c5]; simp only [if_pos c7])
        exact g_iret (v := ((dI, dO, dG, (fDB_takeOwnBack dI dN aN (vp_updL nO k1 ((nO k1) &&& ((bL g) ^^^ (-1)))) (vp_updL nU k1 ((nU k1) &&& ((bL g) ^^^ (-1)))) k1 x).2.1, dT), (aN, aB), (nS, nP, nR, nG, (fDB_takeOwnBack dI dN aN (vp_updL nO k1 ((nO k1) &&& ((bL g) ^^^ (-1)))) (vp_updL nU k1 ((nU k1) &&& ((bL g) ^^^ (-1)))) k1 x).2.2.1, (fDB_takeOwnBack dI dN aN (vp_updL nO k1 ((nO k1) &&& ((bL g) ^^^ (-1)))) (vp_updL nU k1 ((nU k1) &&& ((bL g) ^^^ (-1)))) k1 x).2.2.2, nT), ((fTQ_add tP tR tO tN tF tZ (nI q) (nI o) (nI g) x).1, (fTQ_add tP tR tO tN tF tZ (nI q) (nI o) (nI g) x).2.1, (fTQ_add tP tR tO tN tF tZ (nI q) (nI o) (nI g) x).2.2.1, (fTQ_add tP tR tO tN tF tZ (nI q) (nI o) (nI g) x).2.2.2.1, tF, (fTQ_add tP tR tO tN tF tZ (nI q) (nI o) (nI g) x).2.2.2.2), (mP, mN))) hx hb hr hK hP hS ⟨by first | rfl | (rw [e1] <;> rfl), by first | rfl | (rw [e1] <;> rfl)⟩ hlocks dDB_advert_80
def fDB_thanks (aN : Nat → Int32) (nS : Nat → Int32) (nP : Nat → Int32) (nR : Nat → Int32) (nO : Nat → Int64) (nU : Nat → Int64) (q : Nat) (o : Nat) (g : Nat) (x : Int32) : Bool × (Nat → Int64) × (Nat → Int64) := (match fNB_friendPlace nS nP nR (nI q) (nI o) with | none => (false, nO, nU) | some k1 => (if x = (aN g) then (fNB_settle nO k1 g, vp_updL nO k1 ((nO k1) &&& ((bL g) ^^^ (-1))), vp_updL nU k1 ((nU k1) &&& ((bL g) ^^^ (-1)))) else (false, nO, nU)))
set_option maxHeartbeats 4000000 in
set_option maxRecDepth 100000 in
theorem c_DB_thanks (l : Launch) {D : va_G} {cI cL : ClassId} {a : Nat → Nat} {A : Nat → Prop} (hA : ∀ v : CS, va_D A (wC cI cL a v)) (dI : Nat) (dO dG dN dT : Int32) (aN aB : Nat → Int32) (nS nP nR nG : Nat → Int32) (nO nU : Nat → Int64) (nT : Nat → Int32) (tP tR tO tN : Nat → Int32) (tF tZ : Nat) (mP : Nat → Int32) (mN : Int64) (q : Nat) (o : Nat) (g : Nat) (x : Int32) (hq : q < 8) (ho : o < 64) (hne : ¬ o = dI) (hI : dI < 64) (hg : g < 64) (h1 : ¬ x < 1) (h2 : x ≤ 1000000000) (hon : fDB_isOn dO q = true) : Met l yDB_thanks wsDB_thanks ({ frames := 3, cells := 0, slots := 0, locals := 66 }) (va_Pc [.ref (a 0), .int (nI q), .int (nI o), .int (nI g), .int x] (gG D (tyC cI cL) (wC cI cL a) ((dI, dO, dG, dN, dT), (aN, aB), (nS, nP, nR, nG, nO, nU, nT), (tP, tR, tO, tN, tF, tZ), (mP, mN)))) (va_Qi (fun (r : Int32) (u : CS) => r = bi ((fDB_thanks aN nS nP nR nO nU q o g x).1) ∧ u = ((dI, dO, dG, dN, dT), (aN, aB), (nS, nP, nR, nG, (fDB_thanks aN nS nP nR nO nU q o g x).2.1, (fDB_thanks aN nS nP nR nO nU q o g x).2.2, nT), (tP, tR, tO, tN, tF, tZ), (mP, mN))) (gG D (tyC cI cL) (wC cI cL a)) A) 0 0 A := by
  refine g_enter (by decide) rfl (Nat.le_of_ble_eq_true rfl) ?_
  intro p e s m below meth c ls F hK hP hl
  obtain ⟨hx, hb, hr, hml, hown, hts, hlocks⟩ := id F
  have hS : va_S A s.heap s.heap [] := va_S.rf
  have hl : lv_has ls 6 [(0, .ref (a 0)), (1, .int (nI q)), (2, .int (nI o)), (3, .int (nI g)), (4, .int x)] := hl
  refine lv_aload_n hx hb dDB_thanks_0 rfl (lv_at hl 0 rfl) ?_
  refine lv_iload_n hx hb dDB_thanks_1 rfl (lv_at hl 1 rfl) ?_
  refine lv_iload_n hx hb dDB_thanks_2 rfl (lv_at hl 2 rfl) ?_
  refine lv_iload_n hx hb dDB_thanks_3 rfl (lv_at hl 3 rfl) ?_
  refine lv_iload hx hb dDB_thanks_4 (lv_at hl 4 rfl) ?_
  refine g_roVv (As := [.int (nI q), .int (nI o), .int (nI g), .int x]) (rest := []) ⟨hx, hb, hml, hown, hts⟩ (c_DB_requireLegal l dI dO dG dN dT aN aB nS nP nR nG nO nU nT tP tR tO tN tF tZ mP mN q o g x (by first | omega | assumption) (by first | omega | assumption) (by first | omega | assumption) (by first | omega | assumption) (by first | omega | assumption) (by first | omega | assumption) (by first | omega | assumption) (by first | omega | assumption)) (cwV 4 hts (gw_V k434 k436 k14 k27 k437) rfl rfl rfl (by decide +kernel) ⟨Nat.le_of_ble_eq_true rfl, Nat.le_of_ble_eq_true rfl⟩) hK hP (va_recv hK hP (ci := 4) (q0 := 0) rfl rfl) rfl hl.1 rfl (Nat.le_of_ble_eq_true rfl) dDB_thanks_6 ⟨Nat.zero_le _, Nat.zero_le _⟩ ?_
  refine lv_aload_n hx hb dDB_thanks_9 rfl (lv_at hl 0 rfl) ?_
  refine va_get (D := D) (ci := 4) (v := .ref (a 4)) (C := RDB) (T := TDB) (N := 9) hx hb hts inDB hown hK hP 0 rfl rfl 2 (by decide) (hts _ k130) (fun _ h9 => h9) rfl dDB_thanks_10 ?_
  refine lv_iload_n hx hb dDB_thanks_13 rfl (lv_at hl 1 rfl) ?_
  refine lv_iload_n hx hb dDB_thanks_14 rfl (lv_at hl 2 rfl) ?_
  refine g_roVi (As := [.int (nI q), .int (nI o)]) (rest := []) ⟨hx, hb, hml, hown, hts⟩ (c_NB_friendPlace l dI dO dG dN dT aN aB nS nP nR nG nO nU nT tP tR tO tN tF tZ mP mN (nI q) (nI o)) (cwV 2 hts (gw_V k447 k448 k449 k29 k450) rfl rfl rfl (by decide +kernel) ⟨Nat.le_of_ble_eq_true rfl, Nat.le_of_ble_eq_true rfl⟩) hK hP (va_recv hK hP (ci := 2) (q0 := 4) rfl rfl) rfl hl.1 rfl (Nat.le_of_ble_eq_true rfl) dDB_thanks_15 ⟨Nat.zero_le _, Nat.zero_le _⟩ ?_
  rcases ho2 : fNB_friendPlace nS nP nR (nI q) (nI o) with _ | k1
  · refine lv_istore (lv' := [(5, .int (oi none)), (0, .ref (a 0)), (1, .int (nI q)), (2, .int (nI o)), (3, .int (nI g)), (4, .int x)]) hx hb dDB_thanks_18 hl (by decide) rfl (fun ls hl => ?_)
    refine lv_iload hx hb dDB_thanks_20 (lv_at hl 0 rfl) ?_
    refine lv_iconst (v := (-1)) hx hb dDB_thanks_22 (by decide) ?_
    refine lv_icmp_eq (tgt := 39) hx hb dDB_thanks_23 (by decide) (fun _ => ?_) (fun c0 => absurd rfl c0)
    refine lv_iconst (v := bi false) hx hb dDB_thanks_39 (by decide) ?_
    have e1 : fDB_thanks aN nS nP nR nO nU q o g x = (false, nO, nU) := by simp only [fDB_thanks, ho2, cond_true, cond_false]
    exact g_zret (v := ((dI, dO, dG, dN, dT), (aN, aB), (nS, nP, nR, nG, nO, nU, nT), (tP, tR, tO, tN, tF, tZ), (mP, mN))) hx hb hr hK hP hS ⟨by first | rfl | (rw [e1] <;> rfl), by first | rfl | (rw [e1] <;> rfl)⟩ hlocks dDB_thanks_40
  · have hk1 := c_NB_friendPlace_lt ho2
    refine lv_istore (lv' := [(5, .int (nI k1)), (0, .ref (a 0)), (1, .int (nI q)), (2, .int (nI o)), (3, .int (nI g)), (4, .int x)]) hx hb dDB_thanks_18 hl (by decide) rfl (fun ls hl => ?_)
    refine lv_iload hx hb dDB_thanks_20 (lv_at hl 0 rfl) ?_
    refine lv_iconst (v := (-1)) hx hb dDB_thanks_22 (by decide) ?_
    refine lv_icmp_eq (tgt := 39) hx hb dDB_thanks_23 (by decide) (fun c0 => absurd c0 (nI_m1 (by omega))) (fun _ => ?_)
    refine lv_iload hx hb dDB_thanks_26 (lv_at hl 5 rfl) ?_
    refine lv_aload_n hx hb dDB_thanks_28 rfl (lv_at hl 1 rfl) ?_
    refine va_get (D := D) (ci := 4) (v := .ref (a 1)) (C := RDB) (T := TDB) (N := 9) hx hb hts inDB hown hK hP 0 rfl rfl 1 (by decide) (hts _ k129) (fun _ h9 => h9) rfl dDB_thanks_29 ?_
    refine lv_iload_n hx hb dDB_thanks_32 rfl (lv_at hl 4 rfl) ?_
    refine g_roVi (As := [.int (nI g)]) (rest := [.int x]) ⟨hx, hb, hml, hown, hts⟩ (c_AD_numberOf l dI dO dG dN dT aN aB nS nP nR nG nO nU nT tP tR tO tN tF tZ mP mN g (by first | omega | assumption)) (cwV 1 hts (gw_V k242 k243 k244 k28 k245) rfl rfl rfl (by decide +kernel) ⟨Nat.le_of_ble_eq_true rfl, Nat.le_of_ble_eq_true rfl⟩) hK hP (va_recv hK hP (ci := 0) (q0 := 1) rfl rfl) rfl hl.1 rfl (Nat.le_of_ble_eq_true rfl) dDB_thanks_33 ⟨Nat.zero_le _, Nat.zero_le _⟩ ?_
    refine lv_icmp_eq (tgt := 41) hx hb dDB_thanks_36 (by decide) (fun c5 => ?_) (fun c5 => ?_)
    · refine lv_aload_n hx hb dDB_thanks_41 rfl (lv_at hl 1 rfl) ?_
      refine va_get (D := D) (ci := 4) (v := .ref (a 4)) (C := RDB) (T := TDB) (N := 9) hx hb hts inDB hown hK hP 0 rfl rfl 2 (by decide) (hts _ k130) (fun _ h9 => h9) rfl dDB_thanks_42 ?_
      refine lv_iload hx hb dDB_thanks_45 (lv_at hl 0 rfl) ?_
      refine lv_iload_n hx hb dDB_thanks_47 rfl (lv_at hl 4 rfl) ?_
      refine g_callVi (As := [.int (nI k1), .int (nI g)]) (rest := []) ⟨hx, hb, hml, hown, hts⟩ (c_NB_settle l hA dI dO dG dN dT aN aB nS nP nR nG nO nU nT tP tR tO tN tF tZ mP mN k1 g (by first | omega | assumption) (by first | omega | assumption)) (cwV 2 hts (gw_V k455 k456 k457 k29 k458) rfl rfl rfl (by decide +kernel) ⟨Nat.le_of_ble_eq_true rfl, Nat.le_of_ble_eq_true rfl⟩) hK hP (va_recv hK hP (ci := 2) (q0 := 4) rfl rfl) rfl hl.1 rfl (Nat.le_of_ble_eq_true rfl) dDB_thanks_48 ⟨Nat.zero_le _, Nat.zero_le _⟩ (fun q h => h) hS (fun H locs hP hS => ?_)
      have hP : va_P D vwCl (wC cI cL a ((dI, dO, dG, dN, dT), (aN, aB), (nS, nP, nR, nG, vp_updL nO k1 ((nO k1) &&& ((bL g) ^^^ (-1))), vp_updL nU k1 ((nU k1) &&& ((bL g) ^^^ (-1))), nT), (tP, tR, tO, tN, tF, tZ), (mP, mN))) H := hP
      have e1 : fDB_thanks aN nS nP nR nO nU q o g x = (fNB_settle nO k1 g, vp_updL nO k1 ((nO k1) &&& ((bL g) ^^^ (-1))), vp_updL nU k1 ((nU k1) &&& ((bL g) ^^^ (-1)))) := by first | (simp only [fDB_thanks, ho2, if_pos c5, cond_true, cond_false]; done) | (simp only [fDB_thanks, ho2, cond_true, cond_false]; simp only [if_pos c5])
      exact g_zret (v := ((dI, dO, dG, dN, dT), (aN, aB), (nS, nP, nR, nG, vp_updL nO k1 ((nO k1) &&& ((bL g) ^^^ (-1))), vp_updL nU k1 ((nU k1) &&& ((bL g) ^^^ (-1))), nT), (tP, tR, tO, tN, tF, tZ), (mP, mN))) hx hb hr hK hP hS ⟨by first | rfl | (rw [e1] <;> rfl), by first | rfl | (rw [e1] <;> rfl)⟩ hlocks dDB_thanks_51
    · refine lv_iconst (v := bi false) hx hb dDB_thanks_39 (by decide) ?_
      have e1 : fDB_thanks aN nS nP nR nO nU q o g x = (false, nO, nU) := by first | (simp only [fDB_thanks, ho2, if_neg c5, cond_true, cond_false]; done) | (simp only [fDB_thanks, ho2, cond_true, cond_false]; simp only [if_neg c5])
      exact g_zret (v := ((dI, dO, dG, dN, dT), (aN, aB), (nS, nP, nR, nG, nO, nU, nT), (tP, tR, tO, tN, tF, tZ), (mP, mN))) hx hb hr hK hP hS ⟨by first | rfl | (rw [e1] <;> rfl), by first | rfl | (rw [e1] <;> rfl)⟩ hlocks dDB_thanks_40
set_option maxHeartbeats 4000000 in
set_option maxRecDepth 100000 in
theorem c_DB_own (l : Launch) {D : va_G} {cI cL : ClassId} {a : Nat → Nat} {A : Nat → Prop} (hA : ∀ v : CS, va_D A (wC cI cL a v)) (dI : Nat) (dO dG dN dT : Int32) (aN aB : Nat → Int32) (nS nP nR nG : Nat → Int32) (nO nU : Nat → Int64) (nT : Nat → Int32) (tP tR tO tN : Nat → Int32) (tF tZ : Nat) (mP : Nat → Int32) (mN : Int64) (x : Int32) (hI : dI < 64) : Met l yDB_own wsDB_own ({ frames := 2, cells := 0, slots := 0, locals := 45 }) (va_Pc [.ref (a 0), .int x] (gG D (tyC cI cL) (wC cI cL a) ((dI, dO, dG, dN, dT), (aN, aB), (nS, nP, nR, nG, nO, nU, nT), (tP, tR, tO, tN, tF, tZ), (mP, mN)))) (va_Qi (fun (r : Int32) (u : CS) => r = dN + 1 ∧ u = ((dI, dO, dG, dN + 1, dT), (upd aN dI (dN + 1), upd aB dI x), (nS, nP, nR, nG, (LNB_oweToFriendsBut nS none dI 16 0 nO nU).1, (LNB_oweToFriendsBut nS none dI 16 0 nO nU).2, nT), (tP, tR, tO, tN, tF, tZ), (mP, mN))) (gG D (tyC cI cL) (wC cI cL a)) A) 0 0 A := by
  refine g_enter (by decide) rfl (Nat.le_of_ble_eq_true rfl) ?_
  intro p e s m below meth c ls F hK hP hl
  obtain ⟨hx, hb, hr, hml, hown, hts, hlocks⟩ := id F
  have hS : va_S A s.heap s.heap [] := va_S.rf
  have hl : lv_has ls 2 [(0, .ref (a 0)), (1, .int x)] := hl
  refine lv_aload_n hx hb dDB_own_0 rfl (lv_at hl 0 rfl) ?_
  refine lv_dup hx hb dDB_own_1 rfl ?_
  refine va_get (D := D) (ci := 4) (v := .int dN) (C := RDB) (T := TDB) (N := 9) hx hb hts inDB hown hK hP 0 rfl rfl 7 (by decide) (hts _ k135) (fun _ h9 => h9) rfl dDB_own_2 ?_
  refine lv_iconst (v := 1) hx hb dDB_own_5 (by decide) ?_
  refine lv_iadd hx hb dDB_own_6 ?_
  refine va_put (D := D) (ci := 4) (v := .int (dN + 1)) (ty := .int) (C := RDB) (T := TDB) (N := 9) hx hb hts inDB tyDB tyDB_ok nmDB hown hK hP (hA _) hS 0 rfl rfl 7 (by decide) (hts _ k135) (fun _ h9 => h9) rfl (by decide +kernel) rfl rfl (Nat.le_of_ble_eq_true rfl) dDB_own_7 (fun H locs hP _ hS => ?_)
  have hP : va_P D vwCl (wC cI cL a ((dI, dO, dG, dN + 1, dT), (aN, aB), (nS, nP, nR, nG, nO, nU, nT), (tP, tR, tO, tN, tF, tZ), (mP, mN))) H := hP
  refine lv_aload_n hx hb dDB_own_10 rfl (lv_at hl 0 rfl) ?_
  refine va_get (D := D) (ci := 4) (v := .ref (a 1)) (C := RDB) (T := TDB) (N := 9) hx hb hts inDB hown hK hP 0 rfl rfl 1 (by decide) (hts _ k129) (fun _ h9 => h9) rfl dDB_own_11 ?_
  refine lv_aload_n hx hb dDB_own_14 rfl (lv_at hl 0 rfl) ?_
  refine va_get (D := D) (ci := 4) (v := .int (nI dI)) (C := RDB) (T := TDB) (N := 9) hx hb hts inDB hown hK hP 0 rfl rfl 0 (by decide) (hts _ k128) (fun _ h9 => h9) rfl dDB_own_15 ?_
  refine lv_aload_n hx hb dDB_own_18 rfl (lv_at hl 0 rfl) ?_
  refine va_get (D := D) (ci := 4) (v := .int (dN + 1)) (C := RDB) (T := TDB) (N := 9) hx hb hts inDB hown hK hP 0 rfl rfl 7 (by decide) (hts _ k135) (fun _ h9 => h9) rfl dDB_own_19 ?_
  refine lv_iload_n hx hb dDB_own_22 rfl (lv_at hl 1 rfl) ?_
  refine g_callVv (As := [.int (nI dI), .int (dN + 1), .int x]) (rest := []) ⟨hx, hb, hml, hown, hts⟩ (c_AD_put l hA dI dO dG (dN + 1) dT aN aB nS nP nR nG nO nU nT tP tR tO tN tF tZ mP mN dI (dN + 1) x (by first | omega | assumption)) (cwV 3 hts (gw_V k160 k161 k162 k28 k163) rfl rfl rfl (by decide +kernel) ⟨Nat.le_of_ble_eq_true rfl, Nat.le_of_ble_eq_true rfl⟩) hK hP (va_recv hK hP (ci := 0) (q0 := 1) rfl rfl) rfl hl.1 rfl (Nat.le_of_ble_eq_true rfl) dDB_own_23 ⟨Nat.zero_le _, Nat.zero_le _⟩ (fun q h => h) hS (fun H locs hP hS => ?_)
  have hP : va_P D vwCl (wC cI cL a ((dI, dO, dG, dN + 1, dT), (upd aN dI (dN + 1), upd aB dI x), (nS, nP, nR, nG, nO, nU, nT), (tP, tR, tO, tN, tF, tZ), (mP, mN))) H := hP
  refine lv_aload_n hx hb dDB_own_26 rfl (lv_at hl 0 rfl) ?_
  refine va_get (D := D) (ci := 4) (v := .ref (a 4)) (C := RDB) (T := TDB) (N := 9) hx hb hts inDB hown hK hP 0 rfl rfl 2 (by decide) (hts _ k130) (fun _ h9 => h9) rfl dDB_own_27 ?_
  refine lv_iconst (v := (-1)) hx hb dDB_own_30 (by decide) ?_
  refine lv_aload_n hx hb dDB_own_31 rfl (lv_at hl 0 rfl) ?_
  refine va_get (D := D) (ci := 4) (v := .int (nI dI)) (C := RDB) (T := TDB) (N := 9) hx hb hts inDB hown hK hP 0 rfl rfl 0 (by decide) (hts _ k128) (fun _ h9 => h9) rfl dDB_own_32 ?_
  refine g_callVv (As := [.int (-1), .int (nI dI)]) (rest := []) ⟨hx, hb, hml, hown, hts⟩ (c_NB_oweToFriendsBut l hA dI dO dG (dN + 1) dT (upd aN dI (dN + 1)) (upd aB dI x) nS nP nR nG nO nU nT tP tR tO tN tF tZ mP mN none dI (by first | omega | assumption)) (cwV 2 hts (gw_V k164 k165 k166 k29 k167) rfl rfl rfl (by decide +kernel) ⟨Nat.le_of_ble_eq_true rfl, Nat.le_of_ble_eq_true rfl⟩) hK hP (va_recv hK hP (ci := 2) (q0 := 4) rfl rfl) rfl hl.1 rfl (Nat.le_of_ble_eq_true rfl) dDB_own_35 ⟨Nat.zero_le _, Nat.zero_le _⟩ (fun q h => h) hS (fun H locs hP hS => ?_)
  have hP : va_P D vwCl (wC cI cL a ((dI, dO, dG, dN + 1, dT), (upd aN dI (dN + 1), upd aB dI x), (nS, nP, nR, nG, (LNB_oweToFriendsBut nS none dI 16 0 nO nU).1, (LNB_oweToFriendsBut nS none dI 16 0 nO nU).2, nT), (tP, tR, tO, tN, tF, tZ), (mP, mN))) H := hP
  refine lv_aload_n hx hb dDB_own_38 rfl (lv_at hl 0 rfl) ?_
  refine va_get (D := D) (ci := 4) (v := .int (dN + 1)) (C := RDB) (T := TDB) (N := 9) hx hb hts inDB hown hK hP 0 rfl rfl 7 (by decide) (hts _ k135) (fun _ h9 => h9) rfl dDB_own_39 ?_
  exact g_iret (v := ((dI, dO, dG, dN + 1, dT), (upd aN dI (dN + 1), upd aB dI x), (nS, nP, nR, nG, (LNB_oweToFriendsBut nS none dI 16 0 nO nU).1, (LNB_oweToFriendsBut nS none dI 16 0 nO nU).2, nT), (tP, tR, tO, tN, tF, tZ), (mP, mN))) hx hb hr hK hP hS ⟨rfl, rfl⟩ hlocks dDB_own_42
def fDB_forget (aN : Nat → Int32) (aB : Nat → Int32) (nO : Nat → Int64) (nU : Nat → Int64) (g : Nat) : Bool × (Nat → Int32) × (Nat → Int32) × (Nat → Int64) × (Nat → Int64) := (cond (fAD_has aN g) (true, upd aN g 0, upd aB g 0, (LNB_settleAll g 16 0 nO nU).1, (LNB_settleAll g 16 0 nO nU).2) (false, aN, aB, nO, nU))
set_option maxHeartbeats 4000000 in
set_option maxRecDepth 100000 in
theorem c_DB_forget (l : Launch) {D : va_G} {cI cL : ClassId} {a : Nat → Nat} {A : Nat → Prop} (hA : ∀ v : CS, va_D A (wC cI cL a v)) (dI : Nat) (dO dG dN dT : Int32) (aN aB : Nat → Int32) (nS nP nR nG : Nat → Int32) (nO nU : Nat → Int64) (nT : Nat → Int32) (tP tR tO tN : Nat → Int32) (tF tZ : Nat) (mP : Nat → Int32) (mN : Int64) (g : Nat) (hg : g < 64) : Met l yDB_forget wsDB_forget ({ frames := 2, cells := 0, slots := 0, locals := 47 }) (va_Pc [.ref (a 0), .int (nI g)] (gG D (tyC cI cL) (wC cI cL a) ((dI, dO, dG, dN, dT), (aN, aB), (nS, nP, nR, nG, nO, nU, nT), (tP, tR, tO, tN, tF, tZ), (mP, mN)))) (va_Qi (fun (r : Int32) (u : CS) => r = bi ((fDB_forget aN aB nO nU g).1) ∧ u = ((dI, dO, dG, dN, dT), ((fDB_forget aN aB nO nU g).2.1, (fDB_forget aN aB nO nU g).2.2.1), (nS, nP, nR, nG, (fDB_forget aN aB nO nU g).2.2.2.1, (fDB_forget aN aB nO nU g).2.2.2.2, nT), (tP, tR, tO, tN, tF, tZ), (mP, mN))) (gG D (tyC cI cL) (wC cI cL a)) A) 0 0 A := by
  refine g_enter (by decide) rfl (Nat.le_of_ble_eq_true rfl) ?_
  intro p e s m below meth c ls F hK hP hl
  obtain ⟨hx, hb, hr, hml, hown, hts, hlocks⟩ := id F
  have hS : va_S A s.heap s.heap [] := va_S.rf
  have hl : lv_has ls 2 [(0, .ref (a 0)), (1, .int (nI g))] := hl
  refine lv_iload_n hx hb dDB_forget_0 rfl (lv_at hl 1 rfl) ?_
  refine g_roSv (As := [.int (nI g)]) (rest := []) ⟨hx, hb, hml, hown, hts⟩ (c_DB_requireRouter l dI dO dG dN dT aN aB nS nP nR nG nO nU nT tP tR tO tN tF tZ mP mN g (by first | omega | assumption)) (cw_S 1 hts k438 k439 k27 k440 rfl rfl rfl (by decide +kernel) ⟨Nat.le_of_ble_eq_true rfl, Nat.le_of_ble_eq_true rfl⟩) hK hP rfl hl.1 rfl (Nat.le_of_ble_eq_true rfl) dDB_forget_1 ⟨Nat.zero_le _, Nat.zero_le _⟩ ?_
  refine lv_aload_n hx hb dDB_forget_4 rfl (lv_at hl 0 rfl) ?_
  refine va_get (D := D) (ci := 4) (v := .ref (a 1)) (C := RDB) (T := TDB) (N := 9) hx hb hts inDB hown hK hP 0 rfl rfl 1 (by decide) (hts _ k129) (fun _ h9 => h9) rfl dDB_forget_5 ?_
  refine lv_iload_n hx hb dDB_forget_8 rfl (lv_at hl 1 rfl) ?_
  refine g_roVi (As := [.int (nI g)]) (rest := []) ⟨hx, hb, hml, hown, hts⟩ (c_AD_has l dI dO dG dN dT aN aB nS nP nR nG nO nU nT tP tR tO tN tF tZ mP mN g (by first | omega | assumption)) (cwV 1 hts (gw_V k482 k483 k484 k28 k485) rfl rfl rfl (by decide +kernel) ⟨Nat.le_of_ble_eq_true rfl, Nat.le_of_ble_eq_true rfl⟩) hK hP (va_recv hK hP (ci := 0) (q0 := 1) rfl rfl) rfl hl.1 rfl (Nat.le_of_ble_eq_true rfl) dDB_forget_9 ⟨Nat.zero_le _, Nat.zero_le _⟩ ?_
  refine lv_if_neb (tgt := 17) hx hb dDB_forget_12 (by decide) (fun c1 => ?_) (fun c1 => ?_)
  · refine lv_aload_n hx hb dDB_forget_17 rfl (lv_at hl 0 rfl) ?_
    refine va_get (D := D) (ci := 4) (v := .ref (a 1)) (C := RDB) (T := TDB) (N := 9) hx hb hts inDB hown hK hP 0 rfl rfl 1 (by decide) (hts _ k129) (fun _ h9 => h9) rfl dDB_forget_18 ?_
    refine lv_iload_n hx hb dDB_forget_21 rfl (lv_at hl 1 rfl) ?_
    refine g_callVv (As := [.int (nI g)]) (rest := []) ⟨hx, hb, hml, hown, hts⟩ (c_AD_remove l hA dI dO dG dN dT aN aB nS nP nR nG nO nU nT tP tR tO tN tF tZ mP mN g (by first | omega | assumption)) (cwV 1 hts (gw_V k486 k487 k488 k28 k489) rfl rfl rfl (by decide +kernel) ⟨Nat.le_of_ble_eq_true rfl, Nat.le_of_ble_eq_true rfl⟩) hK hP (va_recv hK hP (ci := 0) (q0 := 1) rfl rfl) rfl hl.1 rfl (Nat.le_of_ble_eq_true rfl) dDB_forget_22 ⟨Nat.zero_le _, Nat.zero_le _⟩ (fun q h => h) hS (fun H locs hP hS => ?_)
    have hP : va_P D vwCl (wC cI cL a ((dI, dO, dG, dN, dT), (upd aN g 0, upd aB g 0), (nS, nP, nR, nG, nO, nU, nT), (tP, tR, tO, tN, tF, tZ), (mP, mN))) H := hP
    refine lv_aload_n hx hb dDB_forget_25 rfl (lv_at hl 0 rfl) ?_
    refine va_get (D := D) (ci := 4) (v := .ref (a 4)) (C := RDB) (T := TDB) (N := 9) hx hb hts inDB hown hK hP 0 rfl rfl 2 (by decide) (hts _ k130) (fun _ h9 => h9) rfl dDB_forget_26 ?_
    refine lv_iload_n hx hb dDB_forget_29 rfl (lv_at hl 1 rfl) ?_
    refine g_callVv (As := [.int (nI g)]) (rest := []) ⟨hx, hb, hml, hown, hts⟩ (c_NB_settleAll l hA dI dO dG dN dT (upd aN g 0) (upd aB g 0) nS nP nR nG nO nU nT tP tR tO tN tF tZ mP mN g (by first | omega | assumption)) (cwV 1 hts (gw_V k491 k492 k493 k29 k494) rfl rfl rfl (by decide +kernel) ⟨Nat.le_of_ble_eq_true rfl, Nat.le_of_ble_eq_true rfl⟩) hK hP (va_recv hK hP (ci := 2) (q0 := 4) rfl rfl) rfl hl.1 rfl (Nat.le_of_ble_eq_true rfl) dDB_forget_30 ⟨Nat.zero_le _, Nat.zero_le _⟩ (fun q h => h) hS (fun H locs hP hS => ?_)
    have hP : va_P D vwCl (wC cI cL a ((dI, dO, dG, dN, dT), (upd aN g 0, upd aB g 0), (nS, nP, nR, nG, (LNB_settleAll g 16 0 nO nU).1, (LNB_settleAll g 16 0 nO nU).2, nT), (tP, tR, tO, tN, tF, tZ), (mP, mN))) H := hP
    refine lv_iconst (v := bi true) hx hb dDB_forget_33 (by decide) ?_
    have e1 : fDB_forget aN aB nO nU g = (true, upd aN g 0, upd aB g 0, (LNB_settleAll g 16 0 nO nU).1, (LNB_settleAll g 16 0 nO nU).2) := by simp only [fDB_forget, c1, cond_true, cond_false]
    exact g_zret (v := ((dI, dO, dG, dN, dT), (upd aN g 0, upd aB g 0), (nS, nP, nR, nG, (LNB_settleAll g 16 0 nO nU).1, (LNB_settleAll g 16 0 nO nU).2, nT), (tP, tR, tO, tN, tF, tZ), (mP, mN))) hx hb hr hK hP hS ⟨by first | rfl | (rw [e1] <;> rfl), by first | rfl | (rw [e1] <;> rfl)⟩ hlocks dDB_forget_34
  · refine lv_iconst (v := bi false) hx hb dDB_forget_15 (by decide) ?_
    have e1 : fDB_forget aN aB nO nU g = (false, aN, aB, nO, nU) := by simp only [fDB_forget, c1, cond_true, cond_false]
    exact g_zret (v := ((dI, dO, dG, dN, dT), (aN, aB), (nS, nP, nR, nG, nO, nU, nT), (tP, tR, tO, tN, tF, tZ), (mP, mN))) hx hb hr hK hP hS ⟨by first | rfl | (rw [e1] <;> rfl), by first | rfl | (rw [e1] <;> rfl)⟩ hlocks dDB_forget_16
def fDB_run (dO : Int32) (dG : Int32) (dT : Int32) (x : Int32) : Int32 × Int32 := (if ((dT + x) / 20) ≤ (dT / 20) then (dT + x, dG) else (dT + x, dO))
set_option maxHeartbeats 4000000 in
set_option maxRecDepth 100000 in
theorem c_DB_run (l : Launch) {D : va_G} {cI cL : ClassId} {a : Nat → Nat} {A : Nat → Prop} (hA : ∀ v : CS, va_D A (wC cI cL a v)) (dI : Nat) (dO dG dN dT : Int32) (aN aB : Nat → Int32) (nS nP nR nG : Nat → Int32) (nO nU : Nat → Int64) (nT : Nat → Int32) (tP tR tO tN : Nat → Int32) (tF tZ : Nat) (mP : Nat → Int32) (mN : Int64) (x : Int32) (h1 : ¬ x < 1) (h2 : x ≤ 2000) (h3 : x ≤ 1000000 - dT) : Met l yDB_run wsDB_run ({ frames := 3, cells := 0, slots := 0, locals := 66 }) (va_Pc [.ref (a 0), .int x] (gG D (tyC cI cL) (wC cI cL a) ((dI, dO, dG, dN, dT), (aN, aB), (nS, nP, nR, nG, nO, nU, nT), (tP, tR, tO, tN, tF, tZ), (mP, mN)))) (va_Qi (fun (r : Int32) (u : CS) => r = (fDB_run dO dG dT x).1 ∧ u = ((dI, dO, (fDB_run dO dG dT x).2, dN, dT + x), (aN, aB), ((LNB_dropSilent nG (dT + x) 16 0 nS nO nU).1, nP, nR, nG, (LNB_dropSilent nG (dT + x) 16 0 nS nO nU).2.1, (LNB_dropSilent nG (dT + x) 16 0 nS nO nU).2.2, nT), (tP, tR, tO, tN, tF, tZ), (mP, mN))) (gG D (tyC cI cL) (wC cI cL a)) A) 0 0 A := by
  refine g_enter (by decide) rfl (Nat.le_of_ble_eq_true rfl) ?_
  intro p e s m below meth c ls F hK hP hl
  obtain ⟨hx, hb, hr, hml, hown, hts, hlocks⟩ := id F
  have hS : va_S A s.heap s.heap [] := va_S.rf
  have hl : lv_has ls 3 [(0, .ref (a 0)), (1, .int x)] := hl
  refine lv_iload_n hx hb dDB_run_0 rfl (lv_at hl 1 rfl) ?_
  refine lv_iconst (v := 1) hx hb dDB_run_1 (by decide) ?_
  refine lv_icmp_lt (tgt := 12) hx hb dDB_run_2 (by decide) (fun c1 => absurd c1 h1) (fun c1 => ?_)
  refine lv_iload_n hx hb dDB_run_5 rfl (lv_at hl 1 rfl) ?_
  refine lv_sipush (v := 2000) hx hb dDB_run_6 (by decide) ?_
  refine lv_icmp_le (tgt := 22) hx hb dDB_run_9 (by decide) (fun c2 => ?_) (fun c2 => absurd h2 c2)
  refine lv_iload_n hx hb dDB_run_22 rfl (lv_at hl 1 rfl) ?_
  refine lv_ldc (v := 1000000) hx hb hown (hts _ k504) dDB_run_23 ?_
  refine lv_aload_n hx hb dDB_run_25 rfl (lv_at hl 0 rfl) ?_
  refine va_get (D := D) (ci := 4) (v := .int dT) (C := RDB) (T := TDB) (N := 9) hx hb hts inDB hown hK hP 0 rfl rfl 8 (by decide) (hts _ k136) (fun _ h9 => h9) rfl dDB_run_26 ?_
  refine lv_isub hx hb dDB_run_29 ?_
  refine lv_icmp_le (tgt := 43) hx hb dDB_run_30 (by decide) (fun c3 => ?_) (fun c3 => absurd h3 c3)
  refine lv_aload_n hx hb dDB_run_43 rfl (lv_at hl 0 rfl) ?_
  refine va_get (D := D) (ci := 4) (v := .int dT) (C := RDB) (T := TDB) (N := 9) hx hb hts inDB hown hK hP 0 rfl rfl 8 (by decide) (hts _ k136) (fun _ h9 => h9) rfl dDB_run_44 ?_
  refine lv_bipush (v := 20) hx hb dDB_run_47 (by decide) ?_
  refine lv_idiv hx hb dDB_run_49 (by decide) ?_
  refine lv_istore_n (lv' := [(2, .int (dT / 20)), (0, .ref (a 0)), (1, .int x)]) hx hb dDB_run_50 rfl hl (by decide) rfl (fun ls hl => ?_)
  refine lv_aload_n hx hb dDB_run_51 rfl (lv_at hl 1 rfl) ?_
  refine lv_dup hx hb dDB_run_52 rfl ?_
  refine va_get (D := D) (ci := 4) (v := .int dT) (C := RDB) (T := TDB) (N := 9) hx hb hts inDB hown hK hP 0 rfl rfl 8 (by decide) (hts _ k136) (fun _ h9 => h9) rfl dDB_run_53 ?_
  refine lv_iload_n hx hb dDB_run_56 rfl (lv_at hl 2 rfl) ?_
  refine lv_iadd hx hb dDB_run_57 ?_
  refine va_put (D := D) (ci := 4) (v := .int (dT + x)) (ty := .int) (C := RDB) (T := TDB) (N := 9) hx hb hts inDB tyDB tyDB_ok nmDB hown hK hP (hA _) hS 0 rfl rfl 8 (by decide) (hts _ k136) (fun _ h9 => h9) rfl (by decide +kernel) rfl rfl (Nat.le_of_ble_eq_true rfl) dDB_run_58 (fun H locs hP _ hS => ?_)
  have hP : va_P D vwCl (wC cI cL a ((dI, dO, dG, dN, dT + x), (aN, aB), (nS, nP, nR, nG, nO, nU, nT), (tP, tR, tO, tN, tF, tZ), (mP, mN))) H := hP
  refine lv_aload_n hx hb dDB_run_61 rfl (lv_at hl 1 rfl) ?_
  refine va_get (D := D) (ci := 4) (v := .int (dT + x)) (C := RDB) (T := TDB) (N := 9) hx hb hts inDB hown hK hP 0 rfl rfl 8 (by decide) (hts _ k136) (fun _ h9 => h9) rfl dDB_run_62 ?_
  refine lv_bipush (v := 20) hx hb dDB_run_65 (by decide) ?_
  refine lv_idiv hx hb dDB_run_67 (by decide) ?_
  refine lv_iload_n hx hb dDB_run_68 rfl (lv_at hl 0 rfl) ?_
  refine lv_icmp_le (tgt := 80) hx hb dDB_run_69 (by decide) (fun c4 => ?_) (fun c4 => ?_)
  · refine lv_aload_n hx hb dDB_run_80 rfl (lv_at hl 1 rfl) ?_
    refine va_get (D := D) (ci := 4) (v := .ref (a 4)) (C := RDB) (T := TDB) (N := 9) hx hb hts inDB hown hK hP 0 rfl rfl 2 (by decide) (hts _ k130) (fun _ h9 => h9) rfl dDB_run_81 ?_
    refine lv_aload_n hx hb dDB_run_84 rfl (lv_at hl 1 rfl) ?_
    refine va_get (D := D) (ci := 4) (v := .int (dT + x)) (C := RDB) (T := TDB) (N := 9) hx hb hts inDB hown hK hP 0 rfl rfl 8 (by decide) (hts _ k136) (fun _ h9 => h9) rfl dDB_run_85 ?_
    refine g_callVv (As := [.int (dT + x)]) (rest := []) ⟨hx, hb, hml, hown, hts⟩ (c_NB_dropSilent l hA dI dO dG dN (dT + x) aN aB nS nP nR nG nO nU nT tP tR tO tN tF tZ mP mN (dT + x)) (cwV 1 hts (gw_V k506 k507 k508 k29 k509) rfl rfl rfl (by decide +kernel) ⟨Nat.le_of_ble_eq_true rfl, Nat.le_of_ble_eq_true rfl⟩) hK hP (va_recv hK hP (ci := 2) (q0 := 4) rfl rfl) rfl hl.1 rfl (Nat.le_of_ble_eq_true rfl) dDB_run_88 ⟨Nat.zero_le _, Nat.zero_le _⟩ (fun q h => h) hS (fun H locs hP hS => ?_)
    have hP : va_P D vwCl (wC cI cL a ((dI, dO, dG, dN, dT + x), (aN, aB), ((LNB_dropSilent nG (dT + x) 16 0 nS nO nU).1, nP, nR, nG, (LNB_dropSilent nG (dT + x) 16 0 nS nO nU).2.1, (LNB_dropSilent nG (dT + x) 16 0 nS nO nU).2.2, nT), (tP, tR, tO, tN, tF, tZ), (mP, mN))) H := hP
    refine lv_aload_n hx hb dDB_run_91 rfl (lv_at hl 1 rfl) ?_
    refine va_get (D := D) (ci := 4) (v := .int (dT + x)) (C := RDB) (T := TDB) (N := 9) hx hb hts inDB hown hK hP 0 rfl rfl 8 (by decide) (hts _ k136) (fun _ h9 => h9) rfl dDB_run_92 ?_
    have e1 : fDB_run dO dG dT x = (dT + x, dG) := by simp only [fDB_run, if_pos c4]
    exact g_iret (v := ((dI, dO, dG, dN, dT + x), (aN, aB), ((LNB_dropSilent nG (dT + x) 16 0 nS nO nU).1, nP, nR, nG, (LNB_dropSilent nG (dT + x) 16 0 nS nO nU).2.1, (LNB_dropSilent nG (dT + x) 16 0 nS nO nU).2.2, nT), (tP, tR, tO, tN, tF, tZ), (mP, mN))) hx hb hr hK hP hS ⟨by first | rfl | (rw [e1] <;> rfl), by first | rfl | (rw [e1] <;> rfl)⟩ hlocks dDB_run_95
  · refine lv_aload_n hx hb dDB_run_72 rfl (lv_at hl 1 rfl) ?_
    refine lv_aload_n hx hb dDB_run_73 rfl (lv_at hl 1 rfl) ?_
    refine va_get (D := D) (ci := 4) (v := .int dO) (C := RDB) (T := TDB) (N := 9) hx hb hts inDB hown hK hP 0 rfl rfl 5 (by decide) (hts _ k133) (fun _ h9 => h9) rfl dDB_run_74 ?_
    refine va_put (D := D) (ci := 4) (v := .int dO) (ty := .int) (C := RDB) (T := TDB) (N := 9) hx hb hts inDB tyDB tyDB_ok nmDB hown hK hP (hA _) hS 0 rfl rfl 6 (by decide) (hts _ k134) (fun _ h9 => h9) rfl (by decide +kernel) rfl rfl (Nat.le_of_ble_eq_true rfl) dDB_run_77 (fun H locs hP _ hS => ?_)
    have hP : va_P D vwCl (wC cI cL a ((dI, dO, dO, dN, dT + x), (aN, aB), (nS, nP, nR, nG, nO, nU, nT), (tP, tR, tO, tN, tF, tZ), (mP, mN))) H := hP
    refine lv_aload_n hx hb dDB_run_80 rfl (lv_at hl 1 rfl) ?_
    refine va_get (D := D) (ci := 4) (v := .ref (a 4)) (C := RDB) (T := TDB) (N := 9) hx hb hts inDB hown hK hP 0 rfl rfl 2 (by decide) (hts _ k130) (fun _ h9 => h9) rfl dDB_run_81 ?_
    refine lv_aload_n hx hb dDB_run_84 rfl (lv_at hl 1 rfl) ?_
    refine va_get (D := D) (ci := 4) (v := .int (dT + x)) (C := RDB) (T := TDB) (N := 9) hx hb hts inDB hown hK hP 0 rfl rfl 8 (by decide) (hts _ k136) (fun _ h9 => h9) rfl dDB_run_85 ?_
    refine g_callVv (As := [.int (dT + x)]) (rest := []) ⟨hx, hb, hml, hown, hts⟩ (c_NB_dropSilent l hA dI dO dO dN (dT + x) aN aB nS nP nR nG nO nU nT tP tR tO tN tF tZ mP mN (dT + x)) (cwV 1 hts (gw_V k506 k507 k508 k29 k509) rfl rfl rfl (by decide +kernel) ⟨Nat.le_of_ble_eq_true rfl, Nat.le_of_ble_eq_true rfl⟩) hK hP (va_recv hK hP (ci := 2) (q0 := 4) rfl rfl) rfl hl.1 rfl (Nat.le_of_ble_eq_true rfl) dDB_run_88 ⟨Nat.zero_le _, Nat.zero_le _⟩ (fun q h => h) hS (fun H locs hP hS => ?_)
    have hP : va_P D vwCl (wC cI cL a ((dI, dO, dO, dN, dT + x), (aN, aB), ((LNB_dropSilent nG (dT + x) 16 0 nS nO nU).1, nP, nR, nG, (LNB_dropSilent nG (dT + x) 16 0 nS nO nU).2.1, (LNB_dropSilent nG (dT + x) 16 0 nS nO nU).2.2, nT), (tP, tR, tO, tN, tF, tZ), (mP, mN))) H := hP
    refine lv_aload_n hx hb dDB_run_91 rfl (lv_at hl 1 rfl) ?_
    refine va_get (D := D) (ci := 4) (v := .int (dT + x)) (C := RDB) (T := TDB) (N := 9) hx hb hts inDB hown hK hP 0 rfl rfl 8 (by decide) (hts _ k136) (fun _ h9 => h9) rfl dDB_run_92 ?_
    have e1 : fDB_run dO dG dT x = (dT + x, dO) := by simp only [fDB_run, if_neg c4]
    exact g_iret (v := ((dI, dO, dO, dN, dT + x), (aN, aB), ((LNB_dropSilent nG (dT + x) 16 0 nS nO nU).1, nP, nR, nG, (LNB_dropSilent nG (dT + x) 16 0 nS nO nU).2.1, (LNB_dropSilent nG (dT + x) 16 0 nS nO nU).2.2, nT), (tP, tR, tO, tN, tF, tZ), (mP, mN))) hx hb hr hK hP hS ⟨by first | rfl | (rw [e1] <;> rfl), by first | rfl | (rw [e1] <;> rfl)⟩ hlocks dDB_run_95
def LDB_makeGreeting (dG : Int32) (nS : Nat → Int32) (nP : Nat → Int32) (nR : Nat → Int32) (mP : Nat → Int32) (mN : Int64) : Nat → Nat → Bool × Int32 × (Nat → Int32) × Int64
  | 0, k => (false, dG, mP, mN)
  | n + 1, k => (if (dG &&& (bI k)) = 0 then LDB_makeGreeting dG nS nP nR mP mN n (k + 1)  else (true, dG &&& ((bI k) ^^^ (-1)), upd (upd (upd (upd (upd (upd mP 0 1) 1 (nI k)) 2 (-1)) 3 (-1)) 4 0) 5 0, (LNB_heardOn nS nP nR (nI k) 16 0 0)))
set_option maxHeartbeats 4000000 in
set_option maxRecDepth 100000 in
theorem lpDB_makeGreeting {p : Program} {l : Launch} {e : Env} {s : State} {m : MethodId} {args : Array Value} {below : List Frame} {meth : Method} {c : Code} {D : va_G} {cI cL : ClassId} {a : Nat → Nat} {A : Nat → Prop} (hA : ∀ v : CS, va_D A (wC cI cL a v)) (F : gFix p c cDB_makeGreeting meth (some .boolean) m s args bigW RDB 3) (hK : va_K D vwCl (tyC cI cL) s) {dI : Nat} {dO : Int32} {dG : Int32} {dN : Int32} {dT : Int32} {aN : Nat → Int32} {aB : Nat → Int32} {nS : Nat → Int32} {nP : Nat → Int32} {nR : Nat → Int32} {nG : Nat → Int32} {nO : Nat → Int64} {nU : Nat → Int64} {nT : Nat → Int32} {tP : Nat → Int32} {tR : Nat → Int32} {tO : Nat → Int32} {tN : Nat → Int32} {tF : Nat} {tZ : Nat} {mP : Nat → Int32} {mN : Int64}   (post : Int32 → CS → Prop) : ∀ (n k : Nat)   (ls : Array Slot) (H : Heap) (locs : List Loc), k + n = 8 → va_P D vwCl (wC cI cL a ((dI, dO, dG, dN, dT), (aN, aB), (nS, nP, nR, nG, nO, nU, nT), (tP, tR, tO, tN, tF, tZ), (mP, mN))) H → va_S A s.heap H locs → lv_has ls 3 [(1, .int (nI k)), (0, .ref (a 0))] → post (bi ((LDB_makeGreeting dG nS nP nR mP mN n k ).1)) ((dI, dO, (LDB_makeGreeting dG nS nP nR mP mN n k ).2.1, dN, dT), (aN, aB), (nS, nP, nR, nG, nO, nU, nT), (tP, tR, tO, tN, tF, tZ), ((LDB_makeGreeting dG nS nP nR mP mN n k ).2.2.1, (LDB_makeGreeting dG nS nP nR mP mN n k ).2.2.2)) → W p l e ({ frames := 2, cells := 0, slots := 0, locals := 46 }) s m args below meth c H locs 0 0 (MQ below (va_Qi post (gG D (tyC cI cL) (wC cI cL a)) A) args s 0 0 A) (F0 m 2 ls []) := by
  obtain ⟨hx, hb, hr, hml, hown, hts, hlocks⟩ := F
  intro n
  induction n with
  | zero =>
    intro k  ls H locs hkn  hP hS hl hq
    refine lv_iload_n hx hb dDB_makeGreeting_2 rfl (lv_at hl 0 rfl) ?_
    refine lv_bipush (v := nI 8) hx hb dDB_makeGreeting_3 (by decide) ?_
    refine lv_icmp_ge (tgt := 57) hx hb dDB_makeGreeting_5 (by decide) (fun _ => ?_) (fun c0 => absurd (nI_le (by omega) (by omega)) c0)
    refine lv_iconst (v := bi false) hx hb dDB_makeGreeting_57 (by decide) ?_
    have e1 : LDB_makeGreeting dG nS nP nR mP mN 0 k  = (false, dG, mP, mN) := by simp only [LDB_makeGreeting]
    rw [e1] at hq
    exact g_zret hx hb hr hK hP hS hq hlocks dDB_makeGreeting_58
  | succ n ih =>
    intro k  ls H locs hkn  hP hS hl hq
    refine lv_iload_n hx hb dDB_makeGreeting_2 rfl (lv_at hl 0 rfl) ?_
    refine lv_bipush (v := nI 8) hx hb dDB_makeGreeting_3 (by decide) ?_
    refine lv_icmp_ge (tgt := 57) hx hb dDB_makeGreeting_5 (by decide) (fun c0 => absurd c0 (nI_ge (by omega) (by decide))) (fun _ => ?_)
    refine lv_iconst (v := 1) hx hb dDB_makeGreeting_8 (by decide) ?_
    refine lv_iload_n hx hb dDB_makeGreeting_9 rfl (lv_at hl 0 rfl) ?_
    refine lv_ishl hx hb dDB_makeGreeting_10 ?_
    refine lv_eqi (y := bI k) rfl ?_
    refine lv_istore_n (lv' := [(2, .int (bI k)), (1, .int (nI k)), (0, .ref (a 0))]) hx hb dDB_makeGreeting_11 rfl hl (by decide) rfl (fun ls hl => ?_)
    refine lv_aload_n hx hb dDB_makeGreeting_12 rfl (lv_at hl 2 rfl) ?_
    refine va_get (D := D) (ci := 4) (v := .int dG) (C := RDB) (T := TDB) (N := 9) hx hb hts inDB hown hK hP 0 rfl rfl 6 (by decide) (hts _ k134) (fun _ h9 => h9) rfl dDB_makeGreeting_13 ?_
    refine lv_iload_n hx hb dDB_makeGreeting_16 rfl (lv_at hl 0 rfl) ?_
    refine lv_iand hx hb dDB_makeGreeting_17 ?_
    refine lv_if_eq (tgt := 51) hx hb dDB_makeGreeting_18 (by decide) (fun c3 => ?_) (fun c3 => ?_)
    · refine lv_iinc (v := nI (k + 1)) (lv' := [(1, .int (nI (k + 1))), (2, .int (bI k)), (0, .ref (a 0))]) hx hb dDB_makeGreeting_51 hl (k := 1) rfl (nI_1 k) (by decide) rfl (fun ls hl => ?_)
      refine lv_goto (tgt := 2) hx hb dDB_makeGreeting_54 (by decide) ?_
      have e1 : LDB_makeGreeting dG nS nP nR mP mN (n + 1) k  = LDB_makeGreeting dG nS nP nR mP mN n (k + 1)  := by simp only [LDB_makeGreeting, if_pos c3]
      rw [e1] at hq
      exact ih (k + 1)  ls H locs (by omega)  hP hS (lv_sub hl [0, 2] rfl) hq
    · refine lv_aload_n hx hb dDB_makeGreeting_21 rfl (lv_at hl 2 rfl) ?_
      refine lv_dup hx hb dDB_makeGreeting_22 rfl ?_
      refine va_get (D := D) (ci := 4) (v := .int dG) (C := RDB) (T := TDB) (N := 9) hx hb hts inDB hown hK hP 0 rfl rfl 6 (by decide) (hts _ k134) (fun _ h9 => h9) rfl dDB_makeGreeting_23 ?_
      refine lv_iload_n hx hb dDB_makeGreeting_26 rfl (lv_at hl 0 rfl) ?_
      refine lv_iconst (v := (-1)) hx hb dDB_makeGreeting_27 (by decide) ?_
      refine lv_ixor hx hb dDB_makeGreeting_28 ?_
      refine lv_iand hx hb dDB_makeGreeting_29 ?_
      refine va_put (D := D) (ci := 4) (v := .int (dG &&& ((bI k) ^^^ (-1)))) (ty := .int) (C := RDB) (T := TDB) (N := 9) hx hb hts inDB tyDB tyDB_ok nmDB hown hK hP (hA _) hS 0 rfl rfl 6 (by decide) (hts _ k134) (fun _ h9 => h9) rfl (by decide +kernel) rfl rfl (Nat.le_of_ble_eq_true rfl) dDB_makeGreeting_30 (fun H locs hP _ hS => ?_)
      have hP : va_P D vwCl (wC cI cL a ((dI, dO, dG &&& ((bI k) ^^^ (-1)), dN, dT), (aN, aB), (nS, nP, nR, nG, nO, nU, nT), (tP, tR, tO, tN, tF, tZ), (mP, mN))) H := hP
      refine lv_aload_n hx hb dDB_makeGreeting_33 rfl (lv_at hl 2 rfl) ?_
      refine va_get (D := D) (ci := 4) (v := .ref (a 17)) (C := RDB) (T := TDB) (N := 9) hx hb hts inDB hown hK hP 0 rfl rfl 4 (by decide) (hts _ k132) (fun _ h9 => h9) rfl dDB_makeGreeting_34 ?_
      refine lv_iload_n hx hb dDB_makeGreeting_37 rfl (lv_at hl 1 rfl) ?_
      refine lv_aload_n hx hb dDB_makeGreeting_38 rfl (lv_at hl 2 rfl) ?_
      refine va_get (D := D) (ci := 4) (v := .ref (a 4)) (C := RDB) (T := TDB) (N := 9) hx hb hts inDB hown hK hP 0 rfl rfl 2 (by decide) (hts _ k130) (fun _ h9 => h9) rfl dDB_makeGreeting_39 ?_
      refine lv_iload_n hx hb dDB_makeGreeting_42 rfl (lv_at hl 1 rfl) ?_
      refine g_roVl (As := [.int (nI k)]) (rest := [.int (nI k), .ref (a 17)]) ⟨hx, hb, hml, hown, hts⟩ (c_NB_heardOn l dI dO (dG &&& ((bI k) ^^^ (-1))) dN dT aN aB nS nP nR nG nO nU nT tP tR tO tN tF tZ mP mN (nI k)) (cwV 1 hts (gw_V k180 k181 k182 k29 k183) rfl rfl rfl (by decide +kernel) ⟨Nat.le_of_ble_eq_true rfl, Nat.le_of_ble_eq_true rfl⟩) hK hP (va_recv hK hP (ci := 2) (q0 := 4) rfl rfl) rfl hl.1 rfl (Nat.le_of_ble_eq_true rfl) dDB_makeGreeting_43 ⟨Nat.zero_le _, Nat.zero_le _⟩ ?_
      refine g_callVv (As := [.int (nI k), .long (LNB_heardOn nS nP nR (nI k) 16 0 0)]) (rest := []) ⟨hx, hb, hml, hown, hts⟩ (c_MS_makeGreeting l hA dI dO (dG &&& ((bI k) ^^^ (-1))) dN dT aN aB nS nP nR nG nO nU nT tP tR tO tN tF tZ mP mN (nI k) (LNB_heardOn nS nP nR (nI k) 16 0 0)) (cwV 2 hts (gw_V k184 k185 k186 k31 k187) rfl rfl rfl (by decide +kernel) ⟨Nat.le_of_ble_eq_true rfl, Nat.le_of_ble_eq_true rfl⟩) hK hP (va_recv hK hP (ci := 1) (q0 := 17) rfl rfl) rfl hl.1 rfl (Nat.le_of_ble_eq_true rfl) dDB_makeGreeting_46 ⟨Nat.zero_le _, Nat.zero_le _⟩ (fun q h => h) hS (fun H locs hP hS => ?_)
      have hP : va_P D vwCl (wC cI cL a ((dI, dO, dG &&& ((bI k) ^^^ (-1)), dN, dT), (aN, aB), (nS, nP, nR, nG, nO, nU, nT), (tP, tR, tO, tN, tF, tZ), (upd (upd (upd (upd (upd (upd mP 0 1) 1 (nI k)) 2 (-1)) 3 (-1)) 4 0) 5 0, (LNB_heardOn nS nP nR (nI k) 16 0 0)))) H := hP
      refine lv_iconst (v := bi true) hx hb dDB_makeGreeting_49 (by decide) ?_
      have e1 : LDB_makeGreeting dG nS nP nR mP mN (n + 1) k  = (true, dG &&& ((bI k) ^^^ (-1)), upd (upd (upd (upd (upd (upd mP 0 1) 1 (nI k)) 2 (-1)) 3 (-1)) 4 0) 5 0, (LNB_heardOn nS nP nR (nI k) 16 0 0)) := by simp only [LDB_makeGreeting, if_neg c3]
      rw [e1] at hq
      exact g_zret hx hb hr hK hP hS hq hlocks dDB_makeGreeting_50
set_option maxHeartbeats 4000000 in
set_option maxRecDepth 100000 in
theorem c_DB_makeGreeting (l : Launch) {D : va_G} {cI cL : ClassId} {a : Nat → Nat} {A : Nat → Prop} (hA : ∀ v : CS, va_D A (wC cI cL a v)) (dI : Nat) (dO dG dN dT : Int32) (aN aB : Nat → Int32) (nS nP nR nG : Nat → Int32) (nO nU : Nat → Int64) (nT : Nat → Int32) (tP tR tO tN : Nat → Int32) (tF tZ : Nat) (mP : Nat → Int32) (mN : Int64)   : Met l yDB_makeGreeting wsDB_makeGreeting ({ frames := 2, cells := 0, slots := 0, locals := 46 }) (va_Pc [.ref (a 0)] (gG D (tyC cI cL) (wC cI cL a) ((dI, dO, dG, dN, dT), (aN, aB), (nS, nP, nR, nG, nO, nU, nT), (tP, tR, tO, tN, tF, tZ), (mP, mN)))) (va_Qi (fun (r : Int32) (u : CS) => r = bi ((LDB_makeGreeting dG nS nP nR mP mN 8 0 ).1) ∧ u = ((dI, dO, (LDB_makeGreeting dG nS nP nR mP mN 8 0 ).2.1, dN, dT), (aN, aB), (nS, nP, nR, nG, nO, nU, nT), (tP, tR, tO, tN, tF, tZ), ((LDB_makeGreeting dG nS nP nR mP mN 8 0 ).2.2.1, (LDB_makeGreeting dG nS nP nR mP mN 8 0 ).2.2.2))) (gG D (tyC cI cL) (wC cI cL a)) A) 0 0 A := by
  refine g_enter (by decide) rfl (Nat.le_of_ble_eq_true rfl) ?_
  intro p e s m below meth c ls F hK hP hl
  obtain ⟨hx, hb, hr, hml, hown, hts, hlocks⟩ := id F
  have hS : va_S A s.heap s.heap [] := va_S.rf
  have hl : lv_has ls 3 [(0, .ref (a 0))] := hl
  refine lv_iconst (v := nI 0) hx hb dDB_makeGreeting_0 (by decide) ?_
  refine lv_istore_n (lv' := [(1, .int (nI 0)), (0, .ref (a 0))]) hx hb dDB_makeGreeting_1 rfl hl (by decide) rfl (fun ls hl => ?_)
  exact lpDB_makeGreeting hA F hK  _ 8 0  ls _ _ rfl  hP hS (lv_sub hl [0, 1] rfl) ⟨rfl, rfl⟩
def fDB_makeThanks (tP : Nat → Int32) (tR : Nat → Int32) (tO : Nat → Int32) (tN : Nat → Int32) (tF : Nat) (tZ : Nat) (mP : Nat → Int32) (mN : Int64) : Bool × Nat × Nat × (Nat → Int32) × Int64 := (cond (fTQ_isEmpty tZ) (false, tF, tZ, mP, mN) (true, (tF + 1) % 64, tZ - 1, upd (upd (upd (upd (upd (upd mP 0 2) 1 (tP tF)) 2 (tR tF)) 3 (tO tF)) 4 (tN tF)) 5 0, 0))
set_option maxHeartbeats 4000000 in
set_option maxRecDepth 100000 in
theorem c_DB_makeThanks (l : Launch) {D : va_G} {cI cL : ClassId} {a : Nat → Nat} {A : Nat → Prop} (hA : ∀ v : CS, va_D A (wC cI cL a v)) (dI : Nat) (dO dG dN dT : Int32) (aN aB : Nat → Int32) (nS nP nR nG : Nat → Int32) (nO nU : Nat → Int64) (nT : Nat → Int32) (tP tR tO tN : Nat → Int32) (tF tZ : Nat) (mP : Nat → Int32) (mN : Int64)  (hF : tF < 64) (hZ : tZ ≤ 64) : Met l yDB_makeThanks wsDB_makeThanks ({ frames := 3, cells := 0, slots := 0, locals := 68 }) (va_Pc [.ref (a 0)] (gG D (tyC cI cL) (wC cI cL a) ((dI, dO, dG, dN, dT), (aN, aB), (nS, nP, nR, nG, nO, nU, nT), (tP, tR, tO, tN, tF, tZ), (mP, mN)))) (va_Qi (fun (r : Int32) (u : CS) => r = bi ((fDB_makeThanks tP tR tO tN tF tZ mP mN).1) ∧ u = ((dI, dO, dG, dN, dT), (aN, aB), (nS, nP, nR, nG, nO, nU, nT), (tP, tR, tO, tN, (fDB_makeThanks tP tR tO tN tF tZ mP mN).2.1, (fDB_makeThanks tP tR tO tN tF tZ mP mN).2.2.1), ((fDB_makeThanks tP tR tO tN tF tZ mP mN).2.2.2.1, (fDB_makeThanks tP tR tO tN tF tZ mP mN).2.2.2.2))) (gG D (tyC cI cL) (wC cI cL a)) A) 0 0 A := by
  refine g_enter (by decide) rfl (Nat.le_of_ble_eq_true rfl) ?_
  intro p e s m below meth c ls F hK hP hl
  obtain ⟨hx, hb, hr, hml, hown, hts, hlocks⟩ := id F
  have hS : va_S A s.heap s.heap [] := va_S.rf
  have hl : lv_has ls 1 [(0, .ref (a 0))] := hl
  refine lv_aload_n hx hb dDB_makeThanks_0 rfl (lv_at hl 0 rfl) ?_
  refine va_get (D := D) (ci := 4) (v := .ref (a 12)) (C := RDB) (T := TDB) (N := 9) hx hb hts inDB hown hK hP 0 rfl rfl 3 (by decide) (hts _ k131) (fun _ h9 => h9) rfl dDB_makeThanks_1 ?_
  refine g_roVi (As := []) (rest := []) ⟨hx, hb, hml, hown, hts⟩ (c_TQ_isEmpty l dI dO dG dN dT aN aB nS nP nR nG nO nU nT tP tR tO tN tF tZ mP mN (by first | omega | assumption)) (cwV 0 hts (gw_V k200 k201 k202 k30 k203) rfl rfl rfl (by decide +kernel) ⟨Nat.le_of_ble_eq_true rfl, Nat.le_of_ble_eq_true rfl⟩) hK hP (va_recv hK hP (ci := 3) (q0 := 12) rfl rfl) rfl hl.1 rfl (Nat.le_of_ble_eq_true rfl) dDB_makeThanks_4 ⟨Nat.zero_le _, Nat.zero_le _⟩ ?_
  refine lv_if_eqb (tgt := 12) hx hb dDB_makeThanks_7 (by decide) (fun c1 => ?_) (fun c1 => ?_)
  · have hZ0 := isEmpty_pos c1
    refine lv_aload_n hx hb dDB_makeThanks_12 rfl (lv_at hl 0 rfl) ?_
    refine va_get (D := D) (ci := 4) (v := .ref (a 12)) (C := RDB) (T := TDB) (N := 9) hx hb hts inDB hown hK hP 0 rfl rfl 3 (by decide) (hts _ k131) (fun _ h9 => h9) rfl dDB_makeThanks_13 ?_
    refine lv_aload_n hx hb dDB_makeThanks_16 rfl (lv_at hl 0 rfl) ?_
    refine va_get (D := D) (ci := 4) (v := .ref (a 17)) (C := RDB) (T := TDB) (N := 9) hx hb hts inDB hown hK hP 0 rfl rfl 4 (by decide) (hts _ k132) (fun _ h9 => h9) rfl dDB_makeThanks_17 ?_
    refine g_callVv (As := [.ref (a 17)]) (rest := []) ⟨hx, hb, hml, hown, hts⟩ (c_TQ_moveFirstTo l hA dI dO dG dN dT aN aB nS nP nR nG nO nU nT tP tR tO tN tF tZ mP mN (by first | omega | assumption) (by first | omega | assumption)) (cwV 1 hts (gw_V k204 k205 k206 k30 k207) rfl rfl rfl (by decide +kernel) ⟨Nat.le_of_ble_eq_true rfl, Nat.le_of_ble_eq_true rfl⟩) hK hP (va_recv hK hP (ci := 3) (q0 := 12) rfl rfl) rfl hl.1 rfl (Nat.le_of_ble_eq_true rfl) dDB_makeThanks_20 ⟨Nat.zero_le _, Nat.zero_le _⟩ (fun q h => h) hS (fun H locs hP hS => ?_)
    have hP : va_P D vwCl (wC cI cL a ((dI, dO, dG, dN, dT), (aN, aB), (nS, nP, nR, nG, nO, nU, nT), (tP, tR, tO, tN, (tF + 1) % 64, tZ - 1), (upd (upd (upd (upd (upd (upd mP 0 2) 1 (tP tF)) 2 (tR tF)) 3 (tO tF)) 4 (tN tF)) 5 0, 0))) H := hP
    refine lv_iconst (v := bi true) hx hb dDB_makeThanks_23 (by decide) ?_
    have e1 : fDB_makeThanks tP tR tO tN tF tZ mP mN = (true, (tF + 1) % 64, tZ - 1, upd (upd (upd (upd (upd (upd mP 0 2) 1 (tP tF)) 2 (tR tF)) 3 (tO tF)) 4 (tN tF)) 5 0, 0) := by simp only [fDB_makeThanks, c1, cond_true, cond_false]
    exact g_zret (v := ((dI, dO, dG, dN, dT), (aN, aB), (nS, nP, nR, nG, nO, nU, nT), (tP, tR, tO, tN, (tF + 1) % 64, tZ - 1), (upd (upd (upd (upd (upd (upd mP 0 2) 1 (tP tF)) 2 (tR tF)) 3 (tO tF)) 4 (tN tF)) 5 0, 0))) hx hb hr hK hP hS ⟨by first | rfl | (rw [e1] <;> rfl), by first | rfl | (rw [e1] <;> rfl)⟩ hlocks dDB_makeThanks_24
  · refine lv_iconst (v := bi false) hx hb dDB_makeThanks_10 (by decide) ?_
    have e1 : fDB_makeThanks tP tR tO tN tF tZ mP mN = (false, tF, tZ, mP, mN) := by simp only [fDB_makeThanks, c1, cond_true, cond_false]
    exact g_zret (v := ((dI, dO, dG, dN, dT), (aN, aB), (nS, nP, nR, nG, nO, nU, nT), (tP, tR, tO, tN, tF, tZ), (mP, mN))) hx hb hr hK hP hS ⟨by first | rfl | (rw [e1] <;> rfl), by first | rfl | (rw [e1] <;> rfl)⟩ hlocks dDB_makeThanks_11
def fDB_makeAdvert (dT : Int32) (aN : Nat → Int32) (aB : Nat → Int32) (nP : Nat → Int32) (nR : Nat → Int32) (nO : Nat → Int64) (nU : Nat → Int64) (nT : Nat → Int32) (mP : Nat → Int32) (mN : Int64) : Bool × (Nat → Int64) × (Nat → Int32) × (Nat → Int32) × Int64 := (match LNB_firstToServe nP nR nO nU nT dT 16 0 none 512 with | none => (false, nU, nT, mP, mN) | some k1 => (match LNB_firstToSend nO nU nT k1 dT 64 0  with | none => (false, nU, nT, mP, mN) | some k5 => (true, vp_updL nU k1 ((nU k1) &&& ((bL k5) ^^^ (-1))), upd nT ((k1 * 64) + k5) dT, upd (upd (upd (upd (upd (upd mP 0 3) 1 (nP k1)) 2 (nR k1)) 3 (nI k5)) 4 (aN k5)) 5 (aB k5), 0)))
set_option maxHeartbeats 4000000 in
set_option maxRecDepth 100000 in
theorem c_DB_makeAdvert (l : Launch) {D : va_G} {cI cL : ClassId} {a : Nat → Nat} {A : Nat → Prop} (hA : ∀ v : CS, va_D A (wC cI cL a v)) (dI : Nat) (dO dG dN dT : Int32) (aN aB : Nat → Int32) (nS nP nR nG : Nat → Int32) (nO nU : Nat → Int64) (nT : Nat → Int32) (tP tR tO tN : Nat → Int32) (tF tZ : Nat) (mP : Nat → Int32) (mN : Int64)   : Met l yDB_makeAdvert wsDB_makeAdvert ({ frames := 3, cells := 0, slots := 0, locals := 73 }) (va_Pc [.ref (a 0)] (gG D (tyC cI cL) (wC cI cL a) ((dI, dO, dG, dN, dT), (aN, aB), (nS, nP, nR, nG, nO, nU, nT), (tP, tR, tO, tN, tF, tZ), (mP, mN)))) (va_Qi (fun (r : Int32) (u : CS) => r = bi ((fDB_makeAdvert dT aN aB nP nR nO nU nT mP mN).1) ∧ u = ((dI, dO, dG, dN, dT), (aN, aB), (nS, nP, nR, nG, nO, (fDB_makeAdvert dT aN aB nP nR nO nU nT mP mN).2.1, (fDB_makeAdvert dT aN aB nP nR nO nU nT mP mN).2.2.1), (tP, tR, tO, tN, tF, tZ), ((fDB_makeAdvert dT aN aB nP nR nO nU nT mP mN).2.2.2.1, (fDB_makeAdvert dT aN aB nP nR nO nU nT mP mN).2.2.2.2))) (gG D (tyC cI cL) (wC cI cL a)) A) 0 0 A := by
  refine g_enter (by decide) rfl (Nat.le_of_ble_eq_true rfl) ?_
  intro p e s m below meth c ls F hK hP hl
  obtain ⟨hx, hb, hr, hml, hown, hts, hlocks⟩ := id F
  have hS : va_S A s.heap s.heap [] := va_S.rf
  have hl : lv_has ls 3 [(0, .ref (a 0))] := hl
  refine lv_aload_n hx hb dDB_makeAdvert_0 rfl (lv_at hl 0 rfl) ?_
  refine va_get (D := D) (ci := 4) (v := .ref (a 4)) (C := RDB) (T := TDB) (N := 9) hx hb hts inDB hown hK hP 0 rfl rfl 2 (by decide) (hts _ k130) (fun _ h9 => h9) rfl dDB_makeAdvert_1 ?_
  refine lv_aload_n hx hb dDB_makeAdvert_4 rfl (lv_at hl 0 rfl) ?_
  refine va_get (D := D) (ci := 4) (v := .int dT) (C := RDB) (T := TDB) (N := 9) hx hb hts inDB hown hK hP 0 rfl rfl 8 (by decide) (hts _ k136) (fun _ h9 => h9) rfl dDB_makeAdvert_5 ?_
  refine g_roVi (As := [.int dT]) (rest := []) ⟨hx, hb, hml, hown, hts⟩ (c_NB_firstToServe l dI dO dG dN dT aN aB nS nP nR nG nO nU nT tP tR tO tN tF tZ mP mN dT) (cwV 1 hts (gw_V k216 k217 k218 k29 k219) rfl rfl rfl (by decide +kernel) ⟨Nat.le_of_ble_eq_true rfl, Nat.le_of_ble_eq_true rfl⟩) hK hP (va_recv hK hP (ci := 2) (q0 := 4) rfl rfl) rfl hl.1 rfl (Nat.le_of_ble_eq_true rfl) dDB_makeAdvert_8 ⟨Nat.zero_le _, Nat.zero_le _⟩ ?_
  rcases ho2 : LNB_firstToServe nP nR nO nU nT dT 16 0 none 512 with _ | k1
  · refine lv_istore_n (lv' := [(1, .int (oi none)), (0, .ref (a 0))]) hx hb dDB_makeAdvert_11 rfl hl (by decide) rfl (fun ls hl => ?_)
    refine lv_iload_n hx hb dDB_makeAdvert_12 rfl (lv_at hl 0 rfl) ?_
    refine lv_iconst (v := (-1)) hx hb dDB_makeAdvert_13 (by decide) ?_
    refine lv_icmp_ne (tgt := 19) hx hb dDB_makeAdvert_14 (by decide) (fun c0 => absurd rfl c0) (fun _ => ?_)
    refine lv_iconst (v := bi false) hx hb dDB_makeAdvert_17 (by decide) ?_
    have e1 : fDB_makeAdvert dT aN aB nP nR nO nU nT mP mN = (false, nU, nT, mP, mN) := by simp only [fDB_makeAdvert, ho2, cond_true, cond_false]
    exact g_zret (v := ((dI, dO, dG, dN, dT), (aN, aB), (nS, nP, nR, nG, nO, nU, nT), (tP, tR, tO, tN, tF, tZ), (mP, mN))) hx hb hr hK hP hS ⟨by first | rfl | (rw [e1] <;> rfl), by first | rfl | (rw [e1] <;> rfl)⟩ hlocks dDB_makeAdvert_18
  · have hk1 := c_NB_firstToServe_lt ho2
    refine lv_istore_n (lv' := [(1, .int (nI k1)), (0, .ref (a 0))]) hx hb dDB_makeAdvert_11 rfl hl (by decide) rfl (fun ls hl => ?_)
    refine lv_iload_n hx hb dDB_makeAdvert_12 rfl (lv_at hl 0 rfl) ?_
    refine lv_iconst (v := (-1)) hx hb dDB_makeAdvert_13 (by decide) ?_
    refine lv_icmp_ne (tgt := 19) hx hb dDB_makeAdvert_14 (by decide) (fun _ => ?_) (fun c0 => absurd c0 (nI_m1 (by omega)))
    refine lv_aload_n hx hb dDB_makeAdvert_19 rfl (lv_at hl 1 rfl) ?_
    refine va_get (D := D) (ci := 4) (v := .ref (a 4)) (C := RDB) (T := TDB) (N := 9) hx hb hts inDB hown hK hP 0 rfl rfl 2 (by decide) (hts _ k130) (fun _ h9 => h9) rfl dDB_makeAdvert_20 ?_
    refine lv_iload_n hx hb dDB_makeAdvert_23 rfl (lv_at hl 0 rfl) ?_
    refine lv_aload_n hx hb dDB_makeAdvert_24 rfl (lv_at hl 1 rfl) ?_
    refine va_get (D := D) (ci := 4) (v := .int dT) (C := RDB) (T := TDB) (N := 9) hx hb hts inDB hown hK hP 0 rfl rfl 8 (by decide) (hts _ k136) (fun _ h9 => h9) rfl dDB_makeAdvert_25 ?_
    refine g_roVi (As := [.int (nI k1), .int dT]) (rest := []) ⟨hx, hb, hml, hown, hts⟩ (c_NB_firstToSend l dI dO dG dN dT aN aB nS nP nR nG nO nU nT tP tR tO tN tF tZ mP mN k1 dT (by first | omega | assumption)) (cwV 2 hts (gw_V k228 k221 k222 k29 k223) rfl rfl rfl (by decide +kernel) ⟨Nat.le_of_ble_eq_true rfl, Nat.le_of_ble_eq_true rfl⟩) hK hP (va_recv hK hP (ci := 2) (q0 := 4) rfl rfl) rfl hl.1 rfl (Nat.le_of_ble_eq_true rfl) dDB_makeAdvert_28 ⟨Nat.zero_le _, Nat.zero_le _⟩ ?_
    rcases ho6 : LNB_firstToSend nO nU nT k1 dT 64 0  with _ | k5
    · refine lv_istore_n (lv' := [(2, .int (oi none)), (1, .int (nI k1)), (0, .ref (a 0))]) hx hb dDB_makeAdvert_31 rfl hl (by decide) rfl (fun ls hl => ?_)
      refine lv_iload_n hx hb dDB_makeAdvert_32 rfl (lv_at hl 0 rfl) ?_
      refine lv_iconst (v := (-1)) hx hb dDB_makeAdvert_33 (by decide) ?_
      refine lv_icmp_ne (tgt := 39) hx hb dDB_makeAdvert_34 (by decide) (fun c0 => absurd rfl c0) (fun _ => ?_)
      refine lv_iconst (v := bi false) hx hb dDB_makeAdvert_37 (by decide) ?_
      have e1 : fDB_makeAdvert dT aN aB nP nR nO nU nT mP mN = (false, nU, nT, mP, mN) := by first | (simp only [fDB_makeAdvert, ho2, ho6, cond_true, cond_false]; done) | (simp only [fDB_makeAdvert, ho2, cond_true, cond_false]; simp only [ho6, cond_true, cond_false])
      exact g_zret (v := ((dI, dO, dG, dN, dT), (aN, aB), (nS, nP, nR, nG, nO, nU, nT), (tP, tR, tO, tN, tF, tZ), (mP, mN))) hx hb hr hK hP hS ⟨by first | rfl | (rw [e1] <;> rfl), by first | rfl | (rw [e1] <;> rfl)⟩ hlocks dDB_makeAdvert_38
    · have hk5 := c_NB_firstToSend_lt ho6
      refine lv_istore_n (lv' := [(2, .int (nI k5)), (1, .int (nI k1)), (0, .ref (a 0))]) hx hb dDB_makeAdvert_31 rfl hl (by decide) rfl (fun ls hl => ?_)
      refine lv_iload_n hx hb dDB_makeAdvert_32 rfl (lv_at hl 0 rfl) ?_
      refine lv_iconst (v := (-1)) hx hb dDB_makeAdvert_33 (by decide) ?_
      refine lv_icmp_ne (tgt := 39) hx hb dDB_makeAdvert_34 (by decide) (fun _ => ?_) (fun c0 => absurd c0 (nI_m1 (by omega)))
      refine lv_aload_n hx hb dDB_makeAdvert_39 rfl (lv_at hl 2 rfl) ?_
      refine va_get (D := D) (ci := 4) (v := .ref (a 4)) (C := RDB) (T := TDB) (N := 9) hx hb hts inDB hown hK hP 0 rfl rfl 2 (by decide) (hts _ k130) (fun _ h9 => h9) rfl dDB_makeAdvert_40 ?_
      refine lv_iload_n hx hb dDB_makeAdvert_43 rfl (lv_at hl 1 rfl) ?_
      refine lv_iload_n hx hb dDB_makeAdvert_44 rfl (lv_at hl 0 rfl) ?_
      refine lv_aload_n hx hb dDB_makeAdvert_45 rfl (lv_at hl 2 rfl) ?_
      refine va_get (D := D) (ci := 4) (v := .int dT) (C := RDB) (T := TDB) (N := 9) hx hb hts inDB hown hK hP 0 rfl rfl 8 (by decide) (hts _ k136) (fun _ h9 => h9) rfl dDB_makeAdvert_46 ?_
      refine g_callVv (As := [.int (nI k1), .int (nI k5), .int dT]) (rest := []) ⟨hx, hb, hml, hown, hts⟩ (c_NB_sent l hA dI dO dG dN dT aN aB nS nP nR nG nO nU nT tP tR tO tN tF tZ mP mN k1 k5 dT (by first | omega | assumption) (by first | omega | assumption)) (cwV 3 hts (gw_V k229 k230 k231 k29 k232) rfl rfl rfl (by decide +kernel) ⟨Nat.le_of_ble_eq_true rfl, Nat.le_of_ble_eq_true rfl⟩) hK hP (va_recv hK hP (ci := 2) (q0 := 4) rfl rfl) rfl hl.1 rfl (Nat.le_of_ble_eq_true rfl) dDB_makeAdvert_49 ⟨Nat.zero_le _, Nat.zero_le _⟩ (fun q h => h) hS (fun H locs hP hS => ?_)
      have hP : va_P D vwCl (wC cI cL a ((dI, dO, dG, dN, dT), (aN, aB), (nS, nP, nR, nG, nO, vp_updL nU k1 ((nU k1) &&& ((bL k5) ^^^ (-1))), upd nT ((k1 * 64) + k5) dT), (tP, tR, tO, tN, tF, tZ), (mP, mN))) H := hP
      refine lv_aload_n hx hb dDB_makeAdvert_52 rfl (lv_at hl 2 rfl) ?_
      refine va_get (D := D) (ci := 4) (v := .ref (a 17)) (C := RDB) (T := TDB) (N := 9) hx hb hts inDB hown hK hP 0 rfl rfl 4 (by decide) (hts _ k132) (fun _ h9 => h9) rfl dDB_makeAdvert_53 ?_
      refine lv_aload_n hx hb dDB_makeAdvert_56 rfl (lv_at hl 2 rfl) ?_
      refine va_get (D := D) (ci := 4) (v := .ref (a 4)) (C := RDB) (T := TDB) (N := 9) hx hb hts inDB hown hK hP 0 rfl rfl 2 (by decide) (hts _ k130) (fun _ h9 => h9) rfl dDB_makeAdvert_57 ?_
      refine lv_iload_n hx hb dDB_makeAdvert_60 rfl (lv_at hl 1 rfl) ?_
      refine g_roVi (As := [.int (nI k1)]) (rest := [.ref (a 17)]) ⟨hx, hb, hml, hown, hts⟩ (c_NB_portAt l dI dO dG dN dT aN aB nS nP nR nG nO (vp_updL nU k1 ((nU k1) &&& ((bL k5) ^^^ (-1)))) (upd nT ((k1 * 64) + k5) dT) tP tR tO tN tF tZ mP mN k1 (by first | omega | assumption)) (cwV 1 hts (gw_V k234 k235 k236 k29 k237) rfl rfl rfl (by decide +kernel) ⟨Nat.le_of_ble_eq_true rfl, Nat.le_of_ble_eq_true rfl⟩) hK hP (va_recv hK hP (ci := 2) (q0 := 4) rfl rfl) rfl hl.1 rfl (Nat.le_of_ble_eq_true rfl) dDB_makeAdvert_61 ⟨Nat.zero_le _, Nat.zero_le _⟩ ?_
      refine lv_aload_n hx hb dDB_makeAdvert_64 rfl (lv_at hl 2 rfl) ?_
      refine va_get (D := D) (ci := 4) (v := .ref (a 4)) (C := RDB) (T := TDB) (N := 9) hx hb hts inDB hown hK hP 0 rfl rfl 2 (by decide) (hts _ k130) (fun _ h9 => h9) rfl dDB_makeAdvert_65 ?_
      refine lv_iload_n hx hb dDB_makeAdvert_68 rfl (lv_at hl 1 rfl) ?_
      refine g_roVi (As := [.int (nI k1)]) (rest := [.int (nP k1), .ref (a 17)]) ⟨hx, hb, hml, hown, hts⟩ (c_NB_routerAt l dI dO dG dN dT aN aB nS nP nR nG nO (vp_updL nU k1 ((nU k1) &&& ((bL k5) ^^^ (-1)))) (upd nT ((k1 * 64) + k5) dT) tP tR tO tN tF tZ mP mN k1 (by first | omega | assumption)) (cwV 1 hts (gw_V k238 k239 k240 k29 k241) rfl rfl rfl (by decide +kernel) ⟨Nat.le_of_ble_eq_true rfl, Nat.le_of_ble_eq_true rfl⟩) hK hP (va_recv hK hP (ci := 2) (q0 := 4) rfl rfl) rfl hl.1 rfl (Nat.le_of_ble_eq_true rfl) dDB_makeAdvert_69 ⟨Nat.zero_le _, Nat.zero_le _⟩ ?_
      refine lv_iload_n hx hb dDB_makeAdvert_72 rfl (lv_at hl 0 rfl) ?_
      refine lv_aload_n hx hb dDB_makeAdvert_73 rfl (lv_at hl 2 rfl) ?_
      refine va_get (D := D) (ci := 4) (v := .ref (a 1)) (C := RDB) (T := TDB) (N := 9) hx hb hts inDB hown hK hP 0 rfl rfl 1 (by decide) (hts _ k129) (fun _ h9 => h9) rfl dDB_makeAdvert_74 ?_
      refine lv_iload_n hx hb dDB_makeAdvert_77 rfl (lv_at hl 0 rfl) ?_
      refine g_roVi (As := [.int (nI k5)]) (rest := [.int (nI k5), .int (nR k1), .int (nP k1), .ref (a 17)]) ⟨hx, hb, hml, hown, hts⟩ (c_AD_numberOf l dI dO dG dN dT aN aB nS nP nR nG nO (vp_updL nU k1 ((nU k1) &&& ((bL k5) ^^^ (-1)))) (upd nT ((k1 * 64) + k5) dT) tP tR tO tN tF tZ mP mN k5 (by first | omega | assumption)) (cwV 1 hts (gw_V k242 k243 k244 k28 k245) rfl rfl rfl (by decide +kernel) ⟨Nat.le_of_ble_eq_true rfl, Nat.le_of_ble_eq_true rfl⟩) hK hP (va_recv hK hP (ci := 0) (q0 := 1) rfl rfl) rfl hl.1 rfl (Nat.le_of_ble_eq_true rfl) dDB_makeAdvert_78 ⟨Nat.zero_le _, Nat.zero_le _⟩ ?_
      refine lv_aload_n hx hb dDB_makeAdvert_81 rfl (lv_at hl 2 rfl) ?_
      refine va_get (D := D) (ci := 4) (v := .ref (a 1)) (C := RDB) (T := TDB) (N := 9) hx hb hts inDB hown hK hP 0 rfl rfl 1 (by decide) (hts _ k129) (fun _ h9 => h9) rfl dDB_makeAdvert_82 ?_
      refine lv_iload_n hx hb dDB_makeAdvert_85 rfl (lv_at hl 0 rfl) ?_
      refine g_roVi (As := [.int (nI k5)]) (rest := [.int (aN k5), .int (nI k5), .int (nR k1), .int (nP k1), .ref (a 17)]) ⟨hx, hb, hml, hown, hts⟩ (c_AD_bodyOf l dI dO dG dN dT aN aB nS nP nR nG nO (vp_updL nU k1 ((nU k1) &&& ((bL k5) ^^^ (-1)))) (upd nT ((k1 * 64) + k5) dT) tP tR tO tN tF tZ mP mN k5 (by first | omega | assumption)) (cwV 1 hts (gw_V k246 k247 k248 k28 k249) rfl rfl rfl (by decide +kernel) ⟨Nat.le_of_ble_eq_true rfl, Nat.le_of_ble_eq_true rfl⟩) hK hP (va_recv hK hP (ci := 0) (q0 := 1) rfl rfl) rfl hl.1 rfl (Nat.le_of_ble_eq_true rfl) dDB_makeAdvert_86 ⟨Nat.zero_le _, Nat.zero_le _⟩ ?_
      refine g_callVv (As := [.int (nP k1), .int (nR k1), .int (nI k5), .int (aN k5), .int (aB k5)]) (rest := []) ⟨hx, hb, hml, hown, hts⟩ (c_MS_makeAdvert l hA dI dO dG dN dT aN aB nS nP nR nG nO (vp_updL nU k1 ((nU k1) &&& ((bL k5) ^^^ (-1)))) (upd nT ((k1 * 64) + k5) dT) tP tR tO tN tF tZ mP mN (nP k1) (nR k1) (nI k5) (aN k5) (aB k5)) (cwV 5 hts (gw_V k250 k251 k252 k31 k253) rfl rfl rfl (by decide +kernel) ⟨Nat.le_of_ble_eq_true rfl, Nat.le_of_ble_eq_true rfl⟩) hK hP (va_recv hK hP (ci := 1) (q0 := 17) rfl rfl) rfl hl.1 rfl (Nat.le_of_ble_eq_true rfl) dDB_makeAdvert_89 ⟨Nat.zero_le _, Nat.zero_le _⟩ (fun q h => h) hS (fun H locs hP hS => ?_)
      have hP : va_P D vwCl (wC cI cL a ((dI, dO, dG, dN, dT), (aN, aB), (nS, nP, nR, nG, nO, vp_updL nU k1 ((nU k1) &&& ((bL k5) ^^^ (-1))), upd nT ((k1 * 64) + k5) dT), (tP, tR, tO, tN, tF, tZ), (upd (upd (upd (upd (upd (upd mP 0 3) 1 (nP k1)) 2 (nR k1)) 3 (nI k5)) 4 (aN k5)) 5 (aB k5), 0))) H := hP
      refine lv_iconst (v := bi true) hx hb dDB_makeAdvert_92 (by decide) ?_
      have e1 : fDB_makeAdvert dT aN aB nP nR nO nU nT mP mN = (true, vp_updL nU k1 ((nU k1) &&& ((bL k5) ^^^ (-1))), upd nT ((k1 * 64) + k5) dT, upd (upd (upd (upd (upd (upd mP 0 3) 1 (nP k1)) 2 (nR k1)) 3 (nI k5)) 4 (aN k5)) 5 (aB k5), 0) := by first | (simp only [fDB_makeAdvert, ho2, ho6, cond_true, cond_false]; done) | (simp only [fDB_makeAdvert, ho2, cond_true, cond_false]; simp only [ho6, cond_true, cond_false])
      exact g_zret (v := ((dI, dO, dG, dN, dT), (aN, aB), (nS, nP, nR, nG, nO, vp_updL nU k1 ((nU k1) &&& ((bL k5) ^^^ (-1))), upd nT ((k1 * 64) + k5) dT), (tP, tR, tO, tN, tF, tZ), (upd (upd (upd (upd (upd (upd mP 0 3) 1 (nP k1)) 2 (nR k1)) 3 (nI k5)) 4 (aN k5)) 5 (aB k5), 0))) hx hb hr hK hP hS ⟨by first | rfl | (rw [e1] <;> rfl), by first | rfl | (rw [e1] <;> rfl)⟩ hlocks dDB_makeAdvert_93
def fDB_next (dG : Int32) (dT : Int32) (aN : Nat → Int32) (aB : Nat → Int32) (nS : Nat → Int32) (nP : Nat → Int32) (nR : Nat → Int32) (nO : Nat → Int64) (nU : Nat → Int64) (nT : Nat → Int32) (tP : Nat → Int32) (tR : Nat → Int32) (tO : Nat → Int32) (tN : Nat → Int32) (tF : Nat) (tZ : Nat) (mP : Nat → Int32) (mN : Int64) : Bool × (Nat → Int64) × (Nat → Int32) × Nat × Nat × (Nat → Int32) × Int64 := (cond ((LDB_makeGreeting dG nS nP nR mP mN 8 0 ).1) (true, nU, nT, tF, tZ, (LDB_makeGreeting dG nS nP nR mP mN 8 0 ).2.2.1, (LDB_makeGreeting dG nS nP nR mP mN 8 0 ).2.2.2) (cond ((fDB_makeThanks tP tR tO tN tF tZ ((LDB_makeGreeting dG nS nP nR mP mN 8 0 ).2.2.1) ((LDB_makeGreeting dG nS nP nR mP mN 8 0 ).2.2.2)).1) (true, nU, nT, (fDB_makeThanks tP tR tO tN tF tZ ((LDB_makeGreeting dG nS nP nR mP mN 8 0 ).2.2.1) ((LDB_makeGreeting dG nS nP nR mP mN 8 0 ).2.2.2)).2.1, (fDB_makeThanks tP tR tO tN tF tZ ((LDB_makeGreeting dG nS nP nR mP mN 8 0 ).2.2.1) ((LDB_makeGreeting dG nS nP nR mP mN 8 0 ).2.2.2)).2.2.1, (fDB_makeThanks tP tR tO tN tF tZ ((LDB_makeGreeting dG nS nP nR mP mN 8 0 ).2.2.1) ((LDB_makeGreeting dG nS nP nR mP mN 8 0 ).2.2.2)).2.2.2.1, (fDB_makeThanks tP tR tO tN tF tZ ((LDB_makeGreeting dG nS nP nR mP mN 8 0 ).2.2.1) ((LDB_makeGreeting dG nS nP nR mP mN 8 0 ).2.2.2)).2.2.2.2) (cond ((fDB_makeAdvert dT aN aB nP nR nO nU nT ((fDB_makeThanks tP tR tO tN tF tZ ((LDB_makeGreeting dG nS nP nR mP mN 8 0 ).2.2.1) ((LDB_makeGreeting dG nS nP nR mP mN 8 0 ).2.2.2)).2.2.2.1) ((fDB_makeThanks tP tR tO tN tF tZ ((LDB_makeGreeting dG nS nP nR mP mN 8 0 ).2.2.1) ((LDB_makeGreeting dG nS nP nR mP mN 8 0 ).2.2.2)).2.2.2.2)).1) (true, (fDB_makeAdvert dT aN aB nP nR nO nU nT ((fDB_makeThanks tP tR tO tN tF tZ ((LDB_makeGreeting dG nS nP nR mP mN 8 0 ).2.2.1) ((LDB_makeGreeting dG nS nP nR mP mN 8 0 ).2.2.2)).2.2.2.1) ((fDB_makeThanks tP tR tO tN tF tZ ((LDB_makeGreeting dG nS nP nR mP mN 8 0 ).2.2.1) ((LDB_makeGreeting dG nS nP nR mP mN 8 0 ).2.2.2)).2.2.2.2)).2.1, (fDB_makeAdvert dT aN aB nP nR nO nU nT ((fDB_makeThanks tP tR tO tN tF tZ ((LDB_makeGreeting dG nS nP nR mP mN 8 0 ).2.2.1) ((LDB_makeGreeting dG nS nP nR mP mN 8 0 ).2.2.2)).2.2.2.1) ((fDB_makeThanks tP tR tO tN tF tZ ((LDB_makeGreeting dG nS nP nR mP mN 8 0 ).2.2.1) ((LDB_makeGreeting dG nS nP nR mP mN 8 0 ).2.2.2)).2.2.2.2)).2.2.1, (fDB_makeThanks tP tR tO tN tF tZ ((LDB_makeGreeting dG nS nP nR mP mN 8 0 ).2.2.1) ((LDB_makeGreeting dG nS nP nR mP mN 8 0 ).2.2.2)).2.1, (fDB_makeThanks tP tR tO tN tF tZ ((LDB_makeGreeting dG nS nP nR mP mN 8 0 ).2.2.1) ((LDB_makeGreeting dG nS nP nR mP mN 8 0 ).2.2.2)).2.2.1, (fDB_makeAdvert dT aN aB nP nR nO nU nT ((fDB_makeThanks tP tR tO tN tF tZ ((LDB_makeGreeting dG nS nP nR mP mN 8 0 ).2.2.1) ((LDB_makeGreeting dG nS nP nR mP mN 8 0 ).2.2.2)).2.2.2.1) ((fDB_makeThanks tP tR tO tN tF tZ ((LDB_makeGreeting dG nS nP nR mP mN 8 0 ).2.2.1) ((LDB_makeGreeting dG nS nP nR mP mN 8 0 ).2.2.2)).2.2.2.2)).2.2.2.1, (fDB_makeAdvert dT aN aB nP nR nO nU nT ((fDB_makeThanks tP tR tO tN tF tZ ((LDB_makeGreeting dG nS nP nR mP mN 8 0 ).2.2.1) ((LDB_makeGreeting dG nS nP nR mP mN 8 0 ).2.2.2)).2.2.2.1) ((fDB_makeThanks tP tR tO tN tF tZ ((LDB_makeGreeting dG nS nP nR mP mN 8 0 ).2.2.1) ((LDB_makeGreeting dG nS nP nR mP mN 8 0 ).2.2.2)).2.2.2.2)).2.2.2.2) (false, (fDB_makeAdvert dT aN aB nP nR nO nU nT ((fDB_makeThanks tP tR tO tN tF tZ ((LDB_makeGreeting dG nS nP nR mP mN 8 0 ).2.2.1) ((LDB_makeGreeting dG nS nP nR mP mN 8 0 ).2.2.2)).2.2.2.1) ((fDB_makeThanks tP tR tO tN tF tZ ((LDB_makeGreeting dG nS nP nR mP mN 8 0 ).2.2.1) ((LDB_makeGreeting dG nS nP nR mP mN 8 0 ).2.2.2)).2.2.2.2)).2.1, (fDB_makeAdvert dT aN aB nP nR nO nU nT ((fDB_makeThanks tP tR tO tN tF tZ ((LDB_makeGreeting dG nS nP nR mP mN 8 0 ).2.2.1) ((LDB_makeGreeting dG nS nP nR mP mN 8 0 ).2.2.2)).2.2.2.1) ((fDB_makeThanks tP tR tO tN tF tZ ((LDB_makeGreeting dG nS nP nR mP mN 8 0 ).2.2.1) ((LDB_makeGreeting dG nS nP nR mP mN 8 0 ).2.2.2)).2.2.2.2)).2.2.1, (fDB_makeThanks tP tR tO tN tF tZ ((LDB_makeGreeting dG nS nP nR mP mN 8 0 ).2.2.1) ((LDB_makeGreeting dG nS nP nR mP mN 8 0 ).2.2.2)).2.1, (fDB_makeThanks tP tR tO tN tF tZ ((LDB_makeGreeting dG nS nP nR mP mN 8 0 ).2.2.1) ((LDB_makeGreeting dG nS nP nR mP mN 8 0 ).2.2.2)).2.2.1, (fDB_makeAdvert dT aN aB nP nR nO nU nT ((fDB_makeThanks tP tR tO tN tF tZ ((LDB_makeGreeting dG nS nP nR mP mN 8 0 ).2.2.1) ((LDB_makeGreeting dG nS nP nR mP mN 8 0 ).2.2.2)).2.2.2.1) ((fDB_makeThanks tP tR tO tN tF tZ ((LDB_makeGreeting dG nS nP nR mP mN 8 0 ).2.2.1) ((LDB_makeGreeting dG nS nP nR mP mN 8 0 ).2.2.2)).2.2.2.2)).2.2.2.1, (fDB_makeAdvert dT aN aB nP nR nO nU nT ((fDB_makeThanks tP tR tO tN tF tZ ((LDB_makeGreeting dG nS nP nR mP mN 8 0 ).2.2.1) ((LDB_makeGreeting dG nS nP nR mP mN 8 0 ).2.2.2)).2.2.2.1) ((fDB_makeThanks tP tR tO tN tF tZ ((LDB_makeGreeting dG nS nP nR mP mN 8 0 ).2.2.1) ((LDB_makeGreeting dG nS nP nR mP mN 8 0 ).2.2.2)).2.2.2.2)).2.2.2.2))))
set_option maxHeartbeats 4000000 in
set_option maxRecDepth 100000 in
theorem c_DB_next (l : Launch) {D : va_G} {cI cL : ClassId} {a : Nat → Nat} {A : Nat → Prop} (hA : ∀ v : CS, va_D A (wC cI cL a v)) (dI : Nat) (dO dG dN dT : Int32) (aN aB : Nat → Int32) (nS nP nR nG : Nat → Int32) (nO nU : Nat → Int64) (nT : Nat → Int32) (tP tR tO tN : Nat → Int32) (tF tZ : Nat) (mP : Nat → Int32) (mN : Int64)  (hF : tF < 64) (hZ : tZ ≤ 64) : Met l yDB_next wsDB_next ({ frames := 4, cells := 0, slots := 0, locals := 95 }) (va_Pc [.ref (a 0)] (gG D (tyC cI cL) (wC cI cL a) ((dI, dO, dG, dN, dT), (aN, aB), (nS, nP, nR, nG, nO, nU, nT), (tP, tR, tO, tN, tF, tZ), (mP, mN)))) (va_Qi (fun (r : Int32) (u : CS) => r = bi ((fDB_next dG dT aN aB nS nP nR nO nU nT tP tR tO tN tF tZ mP mN).1) ∧ u = ((dI, dO, (LDB_makeGreeting dG nS nP nR mP mN 8 0 ).2.1, dN, dT), (aN, aB), (nS, nP, nR, nG, nO, (fDB_next dG dT aN aB nS nP nR nO nU nT tP tR tO tN tF tZ mP mN).2.1, (fDB_next dG dT aN aB nS nP nR nO nU nT tP tR tO tN tF tZ mP mN).2.2.1), (tP, tR, tO, tN, (fDB_next dG dT aN aB nS nP nR nO nU nT tP tR tO tN tF tZ mP mN).2.2.2.1, (fDB_next dG dT aN aB nS nP nR nO nU nT tP tR tO tN tF tZ mP mN).2.2.2.2.1), ((fDB_next dG dT aN aB nS nP nR nO nU nT tP tR tO tN tF tZ mP mN).2.2.2.2.2.1, (fDB_next dG dT aN aB nS nP nR nO nU nT tP tR tO tN tF tZ mP mN).2.2.2.2.2.2))) (gG D (tyC cI cL) (wC cI cL a)) A) 0 0 A := by
  refine g_enter (by decide) rfl (Nat.le_of_ble_eq_true rfl) ?_
  intro p e s m below meth c ls F hK hP hl
  obtain ⟨hx, hb, hr, hml, hown, hts, hlocks⟩ := id F
  have hS : va_S A s.heap s.heap [] := va_S.rf
  have hl : lv_has ls 1 [(0, .ref (a 0))] := hl
  refine lv_aload_n hx hb dDB_next_0 rfl (lv_at hl 0 rfl) ?_
  refine g_callVi (As := []) (rest := []) ⟨hx, hb, hml, hown, hts⟩ (c_DB_makeGreeting l hA dI dO dG dN dT aN aB nS nP nR nG nO nU nT tP tR tO tN tF tZ mP mN) (cwV 0 hts (gw_V k176 k178 k0 k27 k179) rfl rfl rfl (by decide +kernel) ⟨Nat.le_of_ble_eq_true rfl, Nat.le_of_ble_eq_true rfl⟩) hK hP (va_recv hK hP (ci := 4) (q0 := 0) rfl rfl) rfl hl.1 rfl (Nat.le_of_ble_eq_true rfl) dDB_next_1 ⟨Nat.zero_le _, Nat.zero_le _⟩ (fun q h => h) hS (fun H locs hP hS => ?_)
  have hP : va_P D vwCl (wC cI cL a ((dI, dO, (LDB_makeGreeting dG nS nP nR mP mN 8 0 ).2.1, dN, dT), (aN, aB), (nS, nP, nR, nG, nO, nU, nT), (tP, tR, tO, tN, tF, tZ), ((LDB_makeGreeting dG nS nP nR mP mN 8 0 ).2.2.1, (LDB_makeGreeting dG nS nP nR mP mN 8 0 ).2.2.2))) H := hP
  refine lv_if_neb (tgt := 21) hx hb dDB_next_4 (by decide) (fun c1 => ?_) (fun c1 => ?_)
  · refine lv_iconst (v := bi true) hx hb dDB_next_21 (by decide) ?_
    refine lv_goto (tgt := 26) hx hb dDB_next_22 (by decide) ?_
    have e1 : fDB_next dG dT aN aB nS nP nR nO nU nT tP tR tO tN tF tZ mP mN = (true, nU, nT, tF, tZ, (LDB_makeGreeting dG nS nP nR mP mN 8 0 ).2.2.1, (LDB_makeGreeting dG nS nP nR mP mN 8 0 ).2.2.2) := by simp only [fDB_next, c1, cond_true, cond_false]
    exact g_zret (v := ((dI, dO, (LDB_makeGreeting dG nS nP nR mP mN 8 0 ).2.1, dN, dT), (aN, aB), (nS, nP, nR, nG, nO, nU, nT), (tP, tR, tO, tN, tF, tZ), ((LDB_makeGreeting dG nS nP nR mP mN 8 0 ).2.2.1, (LDB_makeGreeting dG nS nP nR mP mN 8 0 ).2.2.2))) hx hb hr hK hP hS ⟨by first | rfl | (rw [e1] <;> rfl), by first | rfl | (rw [e1] <;> rfl)⟩ hlocks dDB_next_26
  · refine lv_aload_n hx hb dDB_next_7 rfl (lv_at hl 0 rfl) ?_
    refine g_callVi (As := []) (rest := []) ⟨hx, hb, hml, hown, hts⟩ (c_DB_makeThanks l hA dI dO ((LDB_makeGreeting dG nS nP nR mP mN 8 0 ).2.1) dN dT aN aB nS nP nR nG nO nU nT tP tR tO tN tF tZ ((LDB_makeGreeting dG nS nP nR mP mN 8 0 ).2.2.1) ((LDB_makeGreeting dG nS nP nR mP mN 8 0 ).2.2.2) (by first | omega | assumption) (by first | omega | assumption)) (cwV 0 hts (gw_V k196 k198 k3 k27 k199) rfl rfl rfl (by decide +kernel) ⟨Nat.le_of_ble_eq_true rfl, Nat.le_of_ble_eq_true rfl⟩) hK hP (va_recv hK hP (ci := 4) (q0 := 0) rfl rfl) rfl hl.1 rfl (Nat.le_of_ble_eq_true rfl) dDB_next_8 ⟨Nat.zero_le _, Nat.zero_le _⟩ (fun q h => h) hS (fun H locs hP hS => ?_)
    have hP : va_P D vwCl (wC cI cL a ((dI, dO, (LDB_makeGreeting dG nS nP nR mP mN 8 0 ).2.1, dN, dT), (aN, aB), (nS, nP, nR, nG, nO, nU, nT), (tP, tR, tO, tN, (fDB_makeThanks tP tR tO tN tF tZ ((LDB_makeGreeting dG nS nP nR mP mN 8 0 ).2.2.1) ((LDB_makeGreeting dG nS nP nR mP mN 8 0 ).2.2.2)).2.1, (fDB_makeThanks tP tR tO tN tF tZ ((LDB_makeGreeting dG nS nP nR mP mN 8 0 ).2.2.1) ((LDB_makeGreeting dG nS nP nR mP mN 8 0 ).2.2.2)).2.2.1), ((fDB_makeThanks tP tR tO tN tF tZ ((LDB_makeGreeting dG nS nP nR mP mN 8 0 ).2.2.1) ((LDB_makeGreeting dG nS nP nR mP mN 8 0 ).2.2.2)).2.2.2.1, (fDB_makeThanks tP tR tO tN tF tZ ((LDB_makeGreeting dG nS nP nR mP mN 8 0 ).2.2.1) ((LDB_makeGreeting dG nS nP nR mP mN 8 0 ).2.2.2)).2.2.2.2))) H := hP
    refine lv_if_neb (tgt := 21) hx hb dDB_next_11 (by decide) (fun c2 => ?_) (fun c2 => ?_)
    · refine lv_iconst (v := bi true) hx hb dDB_next_21 (by decide) ?_
      refine lv_goto (tgt := 26) hx hb dDB_next_22 (by decide) ?_
      have e1 : fDB_next dG dT aN aB nS nP nR nO nU nT tP tR tO tN tF tZ mP mN = (true, nU, nT, (fDB_makeThanks tP tR tO tN tF tZ ((LDB_makeGreeting dG nS nP nR mP mN 8 0 ).2.2.1) ((LDB_makeGreeting dG nS nP nR mP mN 8 0 ).2.2.2)).2.1, (fDB_makeThanks tP tR tO tN tF tZ ((LDB_makeGreeting dG nS nP nR mP mN 8 0 ).2.2.1) ((LDB_makeGreeting dG nS nP nR mP mN 8 0 ).2.2.2)).2.2.1, (fDB_makeThanks tP tR tO tN tF tZ ((LDB_makeGreeting dG nS nP nR mP mN 8 0 ).2.2.1) ((LDB_makeGreeting dG nS nP nR mP mN 8 0 ).2.2.2)).2.2.2.1, (fDB_makeThanks tP tR tO tN tF tZ ((LDB_makeGreeting dG nS nP nR mP mN 8 0 ).2.2.1) ((LDB_makeGreeting dG nS nP nR mP mN 8 0 ).2.2.2)).2.2.2.2) := by first | (simp only [fDB_next, c1, c2, cond_true, cond_false]; done) | (simp only [fDB_next, c1, cond_true, cond_false]; simp only [c2, cond_true, cond_false])
      exact g_zret (v := ((dI, dO, (LDB_makeGreeting dG nS nP nR mP mN 8 0 ).2.1, dN, dT), (aN, aB), (nS, nP, nR, nG, nO, nU, nT), (tP, tR, tO, tN, (fDB_makeThanks tP tR tO tN tF tZ ((LDB_makeGreeting dG nS nP nR mP mN 8 0 ).2.2.1) ((LDB_makeGreeting dG nS nP nR mP mN 8 0 ).2.2.2)).2.1, (fDB_makeThanks tP tR tO tN tF tZ ((LDB_makeGreeting dG nS nP nR mP mN 8 0 ).2.2.1) ((LDB_makeGreeting dG nS nP nR mP mN 8 0 ).2.2.2)).2.2.1), ((fDB_makeThanks tP tR tO tN tF tZ ((LDB_makeGreeting dG nS nP nR mP mN 8 0 ).2.2.1) ((LDB_makeGreeting dG nS nP nR mP mN 8 0 ).2.2.2)).2.2.2.1, (fDB_makeThanks tP tR tO tN tF tZ ((LDB_makeGreeting dG nS nP nR mP mN 8 0 ).2.2.1) ((LDB_makeGreeting dG nS nP nR mP mN 8 0 ).2.2.2)).2.2.2.2))) hx hb hr hK hP hS ⟨by first | rfl | (rw [e1] <;> rfl), by first | rfl | (rw [e1] <;> rfl)⟩ hlocks dDB_next_26
    · refine lv_aload_n hx hb dDB_next_14 rfl (lv_at hl 0 rfl) ?_
      refine g_callVi (As := []) (rest := []) ⟨hx, hb, hml, hown, hts⟩ (c_DB_makeAdvert l hA dI dO ((LDB_makeGreeting dG nS nP nR mP mN 8 0 ).2.1) dN dT aN aB nS nP nR nG nO nU nT tP tR tO tN ((fDB_makeThanks tP tR tO tN tF tZ ((LDB_makeGreeting dG nS nP nR mP mN 8 0 ).2.2.1) ((LDB_makeGreeting dG nS nP nR mP mN 8 0 ).2.2.2)).2.1) ((fDB_makeThanks tP tR tO tN tF tZ ((LDB_makeGreeting dG nS nP nR mP mN 8 0 ).2.2.1) ((LDB_makeGreeting dG nS nP nR mP mN 8 0 ).2.2.2)).2.2.1) ((fDB_makeThanks tP tR tO tN tF tZ ((LDB_makeGreeting dG nS nP nR mP mN 8 0 ).2.2.1) ((LDB_makeGreeting dG nS nP nR mP mN 8 0 ).2.2.2)).2.2.2.1) ((fDB_makeThanks tP tR tO tN tF tZ ((LDB_makeGreeting dG nS nP nR mP mN 8 0 ).2.2.1) ((LDB_makeGreeting dG nS nP nR mP mN 8 0 ).2.2.2)).2.2.2.2)) (cwV 0 hts (gw_V k212 k214 k4 k27 k215) rfl rfl rfl (by decide +kernel) ⟨Nat.le_of_ble_eq_true rfl, Nat.le_of_ble_eq_true rfl⟩) hK hP (va_recv hK hP (ci := 4) (q0 := 0) rfl rfl) rfl hl.1 rfl (Nat.le_of_ble_eq_true rfl) dDB_next_15 ⟨Nat.zero_le _, Nat.zero_le _⟩ (fun q h => h) hS (fun H locs hP hS => ?_)
      have hP : va_P D vwCl (wC cI cL a ((dI, dO, (LDB_makeGreeting dG nS nP nR mP mN 8 0 ).2.1, dN, dT), (aN, aB), (nS, nP, nR, nG, nO, (fDB_makeAdvert dT aN aB nP nR nO nU nT ((fDB_makeThanks tP tR tO tN tF tZ ((LDB_makeGreeting dG nS nP nR mP mN 8 0 ).2.2.1) ((LDB_makeGreeting dG nS nP nR mP mN 8 0 ).2.2.2)).2.2.2.1) ((fDB_makeThanks tP tR tO tN tF tZ ((LDB_makeGreeting dG nS nP nR mP mN 8 0 ).2.2.1) ((LDB_makeGreeting dG nS nP nR mP mN 8 0 ).2.2.2)).2.2.2.2)).2.1, (fDB_makeAdvert dT aN aB nP nR nO nU nT ((fDB_makeThanks tP tR tO tN tF tZ ((LDB_makeGreeting dG nS nP nR mP mN 8 0 ).2.2.1) ((LDB_makeGreeting dG nS nP nR mP mN 8 0 ).2.2.2)).2.2.2.1) ((fDB_makeThanks tP tR tO tN tF tZ ((LDB_makeGreeting dG nS nP nR mP mN 8 0 ).2.2.1) ((LDB_makeGreeting dG nS nP nR mP mN 8 0 ).2.2.2)).2.2.2.2)).2.2.1), (tP, tR, tO, tN, (fDB_makeThanks tP tR tO tN tF tZ ((LDB_makeGreeting dG nS nP nR mP mN 8 0 ).2.2.1) ((LDB_makeGreeting dG nS nP nR mP mN 8 0 ).2.2.2)).2.1, (fDB_makeThanks tP tR tO tN tF tZ ((LDB_makeGreeting dG nS nP nR mP mN 8 0 ).2.2.1) ((LDB_makeGreeting dG nS nP nR mP mN 8 0 ).2.2.2)).2.2.1), ((fDB_makeAdvert dT aN aB nP nR nO nU nT ((fDB_makeThanks tP tR tO tN tF tZ ((LDB_makeGreeting dG nS nP nR mP mN 8 0 ).2.2.1) ((LDB_makeGreeting dG nS nP nR mP mN 8 0 ).2.2.2)).2.2.2.1) ((fDB_makeThanks tP tR tO tN tF tZ ((LDB_makeGreeting dG nS nP nR mP mN 8 0 ).2.2.1) ((LDB_makeGreeting dG nS nP nR mP mN 8 0 ).2.2.2)).2.2.2.2)).2.2.2.1, (fDB_makeAdvert dT aN aB nP nR nO nU nT ((fDB_makeThanks tP tR tO tN tF tZ ((LDB_makeGreeting dG nS nP nR mP mN 8 0 ).2.2.1) ((LDB_makeGreeting dG nS nP nR mP mN 8 0 ).2.2.2)).2.2.2.1) ((fDB_makeThanks tP tR tO tN tF tZ ((LDB_makeGreeting dG nS nP nR mP mN 8 0 ).2.2.1) ((LDB_makeGreeting dG nS nP nR mP mN 8 0 ).2.2.2)).2.2.2.2)).2.2.2.2))) H := hP
      refine lv_if_eqb (tgt := 25) hx hb dDB_next_18 (by decide) (fun c3 => ?_) (fun c3 => ?_)
      · refine lv_iconst (v := bi false) hx hb dDB_next_25 (by decide) ?_
        have e1 : fDB_next dG dT aN aB nS nP nR nO nU nT tP tR tO tN tF tZ mP mN = (false, (fDB_makeAdvert dT aN aB nP nR nO nU nT ((fDB_makeThanks tP tR tO tN tF tZ ((LDB_makeGreeting dG nS nP nR mP mN 8 0 ).2.2.1) ((LDB_makeGreeting dG nS nP nR mP mN 8 0 ).2.2.2)).2.2.2.1) ((fDB_makeThanks tP tR tO tN tF tZ ((LDB_makeGreeting dG nS nP nR mP mN 8 0 ).2.2.1) ((LDB_makeGreeting dG nS nP nR mP mN 8 0 ).2.2.2)).2.2.2.2)).2.1, (fDB_makeAdvert dT aN aB nP nR nO nU nT ((fDB_makeThanks tP tR tO tN tF tZ ((LDB_makeGreeting dG nS nP nR mP mN 8 0 ).2.2.1) ((LDB_makeGreeting dG nS nP nR mP mN 8 0 ).2.2.2)).2.2.2.1) ((fDB_makeThanks tP tR tO tN tF tZ ((LDB_makeGreeting dG nS nP nR mP mN 8 0 ).2.2.1) ((LDB_makeGreeting dG nS nP nR mP mN 8 0 ).2.2.2)).2.2.2.2)).2.2.1, (fDB_makeThanks tP tR tO tN tF tZ ((LDB_makeGreeting dG nS nP nR mP mN 8 0 ).2.2.1) ((LDB_makeGreeting dG nS nP nR mP mN 8 0 ).2.2.2)).2.1, (fDB_makeThanks tP tR tO tN tF tZ ((LDB_makeGreeting dG nS nP nR mP mN 8 0 ).2.2.1) ((LDB_makeGreeting dG nS nP nR mP mN 8 0 ).2.2.2)).2.2.1, (fDB_makeAdvert dT aN aB nP nR nO nU nT ((fDB_makeThanks tP tR tO tN tF tZ ((LDB_makeGreeting dG nS nP nR mP mN 8 0 ).2.2.1) ((LDB_makeGreeting dG nS nP nR mP mN 8 0 ).2.2.2)).2.2.2.1) ((fDB_makeThanks tP tR tO tN tF tZ ((LDB_makeGreeting dG nS nP nR mP mN 8 0 ).2.2.1) ((LDB_makeGreeting dG nS nP nR mP mN 8 0 ).2.2.2)).2.2.2.2)).2.2.2.1, (fDB_makeAdvert dT aN aB nP nR nO nU nT ((fDB_makeThanks tP tR tO tN tF tZ ((LDB_makeGreeting dG nS nP nR mP mN 8 0 ).2.2.1) ((LDB_makeGreeting dG nS nP nR mP mN 8 0 ).2.2.2)).2.2.2.1) ((fDB_makeThanks tP tR tO tN tF tZ ((LDB_makeGreeting dG nS nP nR mP mN 8 0 ).2.2.1) ((LDB_makeGreeting dG nS nP nR mP mN 8 0 ).2.2.2)).2.2.2.2)).2.2.2.2) := by first | (simp only [fDB_next, c1, c2, c3, cond_true, cond_false]; done) | (simp only [fDB_next, c1, cond_true, cond_false]; simp only [c2, cond_true, cond_false]; simp only [c3, cond_true, cond_false])
        exact g_zret (v := ((dI, dO, (LDB_makeGreeting dG nS nP nR mP mN 8 0 ).2.1, dN, dT), (aN, aB), (nS, nP, nR, nG, nO, (fDB_makeAdvert dT aN aB nP nR nO nU nT ((fDB_makeThanks tP tR tO tN tF tZ ((LDB_makeGreeting dG nS nP nR mP mN 8 0 ).2.2.1) ((LDB_makeGreeting dG nS nP nR mP mN 8 0 ).2.2.2)).2.2.2.1) ((fDB_makeThanks tP tR tO tN tF tZ ((LDB_makeGreeting dG nS nP nR mP mN 8 0 ).2.2.1) ((LDB_makeGreeting dG nS nP nR mP mN 8 0 ).2.2.2)).2.2.2.2)).2.1, (fDB_makeAdvert dT aN aB nP nR nO nU nT ((fDB_makeThanks tP tR tO tN tF tZ ((LDB_makeGreeting dG nS nP nR mP mN 8 0 ).2.2.1) ((LDB_makeGreeting dG nS nP nR mP mN 8 0 ).2.2.2)).2.2.2.1) ((fDB_makeThanks tP tR tO tN tF tZ ((LDB_makeGreeting dG nS nP nR mP mN 8 0 ).2.2.1) ((LDB_makeGreeting dG nS nP nR mP mN 8 0 ).2.2.2)).2.2.2.2)).2.2.1), (tP, tR, tO, tN, (fDB_makeThanks tP tR tO tN tF tZ ((LDB_makeGreeting dG nS nP nR mP mN 8 0 ).2.2.1) ((LDB_makeGreeting dG nS nP nR mP mN 8 0 ).2.2.2)).2.1, (fDB_makeThanks tP tR tO tN tF tZ ((LDB_makeGreeting dG nS nP nR mP mN 8 0 ).2.2.1) ((LDB_makeGreeting dG nS nP nR mP mN 8 0 ).2.2.2)).2.2.1), ((fDB_makeAdvert dT aN aB nP nR nO nU nT ((fDB_makeThanks tP tR tO tN tF tZ ((LDB_makeGreeting dG nS nP nR mP mN 8 0 ).2.2.1) ((LDB_makeGreeting dG nS nP nR mP mN 8 0 ).2.2.2)).2.2.2.1) ((fDB_makeThanks tP tR tO tN tF tZ ((LDB_makeGreeting dG nS nP nR mP mN 8 0 ).2.2.1) ((LDB_makeGreeting dG nS nP nR mP mN 8 0 ).2.2.2)).2.2.2.2)).2.2.2.1, (fDB_makeAdvert dT aN aB nP nR nO nU nT ((fDB_makeThanks tP tR tO tN tF tZ ((LDB_makeGreeting dG nS nP nR mP mN 8 0 ).2.2.1) ((LDB_makeGreeting dG nS nP nR mP mN 8 0 ).2.2.2)).2.2.2.1) ((fDB_makeThanks tP tR tO tN tF tZ ((LDB_makeGreeting dG nS nP nR mP mN 8 0 ).2.2.1) ((LDB_makeGreeting dG nS nP nR mP mN 8 0 ).2.2.2)).2.2.2.2)).2.2.2.2))) hx hb hr hK hP hS ⟨by first | rfl | (rw [e1] <;> rfl), by first | rfl | (rw [e1] <;> rfl)⟩ hlocks dDB_next_26
      · refine lv_iconst (v := bi true) hx hb dDB_next_21 (by decide) ?_
        refine lv_goto (tgt := 26) hx hb dDB_next_22 (by decide) ?_
        have e1 : fDB_next dG dT aN aB nS nP nR nO nU nT tP tR tO tN tF tZ mP mN = (true, (fDB_makeAdvert dT aN aB nP nR nO nU nT ((fDB_makeThanks tP tR tO tN tF tZ ((LDB_makeGreeting dG nS nP nR mP mN 8 0 ).2.2.1) ((LDB_makeGreeting dG nS nP nR mP mN 8 0 ).2.2.2)).2.2.2.1) ((fDB_makeThanks tP tR tO tN tF tZ ((LDB_makeGreeting dG nS nP nR mP mN 8 0 ).2.2.1) ((LDB_makeGreeting dG nS nP nR mP mN 8 0 ).2.2.2)).2.2.2.2)).2.1, (fDB_makeAdvert dT aN aB nP nR nO nU nT ((fDB_makeThanks tP tR tO tN tF tZ ((LDB_makeGreeting dG nS nP nR mP mN 8 0 ).2.2.1) ((LDB_makeGreeting dG nS nP nR mP mN 8 0 ).2.2.2)).2.2.2.1) ((fDB_makeThanks tP tR tO tN tF tZ ((LDB_makeGreeting dG nS nP nR mP mN 8 0 ).2.2.1) ((LDB_makeGreeting dG nS nP nR mP mN 8 0 ).2.2.2)).2.2.2.2)).2.2.1, (fDB_makeThanks tP tR tO tN tF tZ ((LDB_makeGreeting dG nS nP nR mP mN 8 0 ).2.2.1) ((LDB_makeGreeting dG nS nP nR mP mN 8 0 ).2.2.2)).2.1, (fDB_makeThanks tP tR tO tN tF tZ ((LDB_makeGreeting dG nS nP nR mP mN 8 0 ).2.2.1) ((LDB_makeGreeting dG nS nP nR mP mN 8 0 ).2.2.2)).2.2.1, (fDB_makeAdvert dT aN aB nP nR nO nU nT ((fDB_makeThanks tP tR tO tN tF tZ ((LDB_makeGreeting dG nS nP nR mP mN 8 0 ).2.2.1) ((LDB_makeGreeting dG nS nP nR mP mN 8 0 ).2.2.2)).2.2.2.1) ((fDB_makeThanks tP tR tO tN tF tZ ((LDB_makeGreeting dG nS nP nR mP mN 8 0 ).2.2.1) ((LDB_makeGreeting dG nS nP nR mP mN 8 0 ).2.2.2)).2.2.2.2)).2.2.2.1, (fDB_makeAdvert dT aN aB nP nR nO nU nT ((fDB_makeThanks tP tR tO tN tF tZ ((LDB_makeGreeting dG nS nP nR mP mN 8 0 ).2.2.1) ((LDB_makeGreeting dG nS nP nR mP mN 8 0 ).2.2.2)).2.2.2.1) ((fDB_makeThanks tP tR tO tN tF tZ ((LDB_makeGreeting dG nS nP nR mP mN 8 0 ).2.2.1) ((LDB_makeGreeting dG nS nP nR mP mN 8 0 ).2.2.2)).2.2.2.2)).2.2.2.2) := by first | (simp only [fDB_next, c1, c2, c3, cond_true, cond_false]; done) | (simp only [fDB_next, c1, cond_true, cond_false]; simp only [c2, cond_true, cond_false]; simp only [c3, cond_true, cond_false])
        exact g_zret (v := ((dI, dO, (LDB_makeGreeting dG nS nP nR mP mN 8 0 ).2.1, dN, dT), (aN, aB), (nS, nP, nR, nG, nO, (fDB_makeAdvert dT aN aB nP nR nO nU nT ((fDB_makeThanks tP tR tO tN tF tZ ((LDB_makeGreeting dG nS nP nR mP mN 8 0 ).2.2.1) ((LDB_makeGreeting dG nS nP nR mP mN 8 0 ).2.2.2)).2.2.2.1) ((fDB_makeThanks tP tR tO tN tF tZ ((LDB_makeGreeting dG nS nP nR mP mN 8 0 ).2.2.1) ((LDB_makeGreeting dG nS nP nR mP mN 8 0 ).2.2.2)).2.2.2.2)).2.1, (fDB_makeAdvert dT aN aB nP nR nO nU nT ((fDB_makeThanks tP tR tO tN tF tZ ((LDB_makeGreeting dG nS nP nR mP mN 8 0 ).2.2.1) ((LDB_makeGreeting dG nS nP nR mP mN 8 0 ).2.2.2)).2.2.2.1) ((fDB_makeThanks tP tR tO tN tF tZ ((LDB_makeGreeting dG nS nP nR mP mN 8 0 ).2.2.1) ((LDB_makeGreeting dG nS nP nR mP mN 8 0 ).2.2.2)).2.2.2.2)).2.2.1), (tP, tR, tO, tN, (fDB_makeThanks tP tR tO tN tF tZ ((LDB_makeGreeting dG nS nP nR mP mN 8 0 ).2.2.1) ((LDB_makeGreeting dG nS nP nR mP mN 8 0 ).2.2.2)).2.1, (fDB_makeThanks tP tR tO tN tF tZ ((LDB_makeGreeting dG nS nP nR mP mN 8 0 ).2.2.1) ((LDB_makeGreeting dG nS nP nR mP mN 8 0 ).2.2.2)).2.2.1), ((fDB_makeAdvert dT aN aB nP nR nO nU nT ((fDB_makeThanks tP tR tO tN tF tZ ((LDB_makeGreeting dG nS nP nR mP mN 8 0 ).2.2.1) ((LDB_makeGreeting dG nS nP nR mP mN 8 0 ).2.2.2)).2.2.2.1) ((fDB_makeThanks tP tR tO tN tF tZ ((LDB_makeGreeting dG nS nP nR mP mN 8 0 ).2.2.1) ((LDB_makeGreeting dG nS nP nR mP mN 8 0 ).2.2.2)).2.2.2.2)).2.2.2.1, (fDB_makeAdvert dT aN aB nP nR nO nU nT ((fDB_makeThanks tP tR tO tN tF tZ ((LDB_makeGreeting dG nS nP nR mP mN 8 0 ).2.2.1) ((LDB_makeGreeting dG nS nP nR mP mN 8 0 ).2.2.2)).2.2.2.1) ((fDB_makeThanks tP tR tO tN tF tZ ((LDB_makeGreeting dG nS nP nR mP mN 8 0 ).2.2.1) ((LDB_makeGreeting dG nS nP nR mP mN 8 0 ).2.2.2)).2.2.2.2)).2.2.2.2))) hx hb hr hK hP hS ⟨by first | rfl | (rw [e1] <;> rfl), by first | rfl | (rw [e1] <;> rfl)⟩ hlocks dDB_next_26
set_option maxHeartbeats 4000000 in
set_option maxRecDepth 100000 in
theorem c_DB_message (l : Launch) {D : va_G} {cI cL : ClassId} {a : Nat → Nat}  (dI : Nat) (dO dG dN dT : Int32) (aN aB : Nat → Int32) (nS nP nR nG : Nat → Int32) (nO nU : Nat → Int64) (nT : Nat → Int32) (tP tR tO tN : Nat → Int32) (tF tZ : Nat) (mP : Nat → Int32) (mN : Int64) (i : Nat) (hi : i < 6) (hm : fMS_isMade mP = true) : Met l yDB_message wsDB_message ({ frames := 1, cells := 0, slots := 0, locals := 21 }) (va_Pc [.ref (a 0), .int (nI i)] (gG D (tyC cI cL) (wC cI cL a) ((dI, dO, dG, dN, dT), (aN, aB), (nS, nP, nR, nG, nO, nU, nT), (tP, tR, tO, tN, tF, tZ), (mP, mN)))) (vp_Si (fun r : Int32 => r = mP i)) 0 0 (fun _ => False) := by
  refine g_enter (by decide) rfl (Nat.le_of_ble_eq_true rfl) ?_
  intro p e s m below meth c ls F hK hP hl
  obtain ⟨hx, hb, hr, hml, hown, hts, hlocks⟩ := id F
  have hl : lv_has ls 2 [(0, .ref (a 0)), (1, .int (nI i))] := hl
  refine lv_iload_n hx hb dDB_message_0 rfl (lv_at hl 1 rfl) ?_
  refine lv_if_lt (tgt := 10) hx hb dDB_message_1 (by decide) (fun c1 => absurd c1 (nI_pos (by omega))) (fun c1 => ?_)
  refine lv_iload_n hx hb dDB_message_4 rfl (lv_at hl 1 rfl) ?_
  refine lv_bipush (v := nI 6) hx hb dDB_message_5 (by decide) ?_
  refine lv_icmp_lt (tgt := 20) hx hb dDB_message_7 (by decide) (fun c2 => ?_) (fun c2 => absurd ((nI_ltI (by omega) (by omega)).mpr (by omega)) c2)
  refine lv_aload_n hx hb dDB_message_20 rfl (lv_at hl 0 rfl) ?_
  refine va_get (D := D) (ci := 4) (v := .ref (a 17)) (C := RDB) (T := TDB) (N := 9) hx hb hts inDB hown hK hP 0 rfl rfl 4 (by decide) (hts _ k132) (fun _ h9 => h9) rfl dDB_message_21 ?_
  refine g_roVi (As := []) (rest := []) ⟨hx, hb, hml, hown, hts⟩ (c_MS_isMade l dI dO dG dN dT aN aB nS nP nR nG nO nU nT tP tR tO tN tF tZ mP mN) (cwV 0 hts (gw_V k518 k519 k520 k31 k521) rfl rfl rfl (by decide +kernel) ⟨Nat.le_of_ble_eq_true rfl, Nat.le_of_ble_eq_true rfl⟩) hK hP (va_recv hK hP (ci := 1) (q0 := 17) rfl rfl) rfl hl.1 rfl (Nat.le_of_ble_eq_true rfl) dDB_message_24 ⟨Nat.zero_le _, Nat.zero_le _⟩ ?_
  refine lv_if_neb (tgt := 40) hx hb dDB_message_27 (by decide) (fun c3 => ?_) (fun c3 => absurd (c3.symm.trans hm) (by decide))
  refine lv_aload_n hx hb dDB_message_40 rfl (lv_at hl 0 rfl) ?_
  refine va_get (D := D) (ci := 4) (v := .ref (a 17)) (C := RDB) (T := TDB) (N := 9) hx hb hts inDB hown hK hP 0 rfl rfl 4 (by decide) (hts _ k132) (fun _ h9 => h9) rfl dDB_message_41 ?_
  refine lv_iload_n hx hb dDB_message_44 rfl (lv_at hl 1 rfl) ?_
  refine g_roVi (As := [.int (nI i)]) (rest := []) ⟨hx, hb, hml, hown, hts⟩ (c_MS_part l dI dO dG dN dT aN aB nS nP nR nG nO nU nT tP tR tO tN tF tZ mP mN i (by first | omega | assumption)) (cwV 1 hts (gw_V k523 k524 k525 k31 k526) rfl rfl rfl (by decide +kernel) ⟨Nat.le_of_ble_eq_true rfl, Nat.le_of_ble_eq_true rfl⟩) hK hP (va_recv hK hP (ci := 1) (q0 := 17) rfl rfl) rfl hl.1 rfl (Nat.le_of_ble_eq_true rfl) dDB_message_45 ⟨Nat.zero_le _, Nat.zero_le _⟩ ?_
  exact r_iret hx hb hr (rfl) hlocks dDB_message_48
set_option maxHeartbeats 4000000 in
set_option maxRecDepth 100000 in
theorem c_DB_named (l : Launch) {D : va_G} {cI cL : ClassId} {a : Nat → Nat}  (dI : Nat) (dO dG dN dT : Int32) (aN aB : Nat → Int32) (nS nP nR nG : Nat → Int32) (nO nU : Nat → Int64) (nT : Nat → Int32) (tP tR tO tN : Nat → Int32) (tF tZ : Nat) (mP : Nat → Int32) (mN : Int64)   : Met l yDB_named wsDB_named ({ frames := 1, cells := 0, slots := 0, locals := 20 }) (va_Pc [.ref (a 0)] (gG D (tyC cI cL) (wC cI cL a) ((dI, dO, dG, dN, dT), (aN, aB), (nS, nP, nR, nG, nO, nU, nT), (tP, tR, tO, tN, tF, tZ), (mP, mN)))) (vp_Sl (fun r : Int64 => r = mN)) 0 0 (fun _ => False) := by
  refine g_enter (by decide) rfl (Nat.le_of_ble_eq_true rfl) ?_
  intro p e s m below meth c ls F hK hP hl
  obtain ⟨hx, hb, hr, hml, hown, hts, hlocks⟩ := id F
  have hl : lv_has ls 1 [(0, .ref (a 0))] := hl
  refine lv_aload_n hx hb dDB_named_0 rfl (lv_at hl 0 rfl) ?_
  refine va_get (D := D) (ci := 4) (v := .ref (a 17)) (C := RDB) (T := TDB) (N := 9) hx hb hts inDB hown hK hP 0 rfl rfl 4 (by decide) (hts _ k132) (fun _ h9 => h9) rfl dDB_named_1 ?_
  refine g_roVl (As := []) (rest := []) ⟨hx, hb, hml, hown, hts⟩ (c_MS_namedRouters l dI dO dG dN dT aN aB nS nP nR nG nO nU nT tP tR tO tN tF tZ mP mN) (cwV 0 hts (gw_V k258 k259 k260 k31 k261) rfl rfl rfl (by decide +kernel) ⟨Nat.le_of_ble_eq_true rfl, Nat.le_of_ble_eq_true rfl⟩) hK hP (va_recv hK hP (ci := 1) (q0 := 17) rfl rfl) rfl hl.1 rfl (Nat.le_of_ble_eq_true rfl) dDB_named_4 ⟨Nat.zero_le _, Nat.zero_le _⟩ ?_
  exact r_lret hx hb hr (rfl) hlocks dDB_named_7
set_option maxHeartbeats 4000000 in
set_option maxRecDepth 100000 in
theorem c_DB_state (l : Launch) {D : va_G} {cI cL : ClassId} {a : Nat → Nat}  (dI : Nat) (dO dG dN dT : Int32) (aN aB : Nat → Int32) (nS nP nR nG : Nat → Int32) (nO nU : Nat → Int64) (nT : Nat → Int32) (tP tR tO tN : Nat → Int32) (tF tZ : Nat) (mP : Nat → Int32) (mN : Int64) (q : Nat) (o : Nat) (hq : q < 8) (ho : o < 64) : Met l yDB_state wsDB_state ({ frames := 2, cells := 0, slots := 0, locals := 46 }) (va_Pc [.ref (a 0), .int (nI q), .int (nI o)] (gG D (tyC cI cL) (wC cI cL a) ((dI, dO, dG, dN, dT), (aN, aB), (nS, nP, nR, nG, nO, nU, nT), (tP, tR, tO, tN, tF, tZ), (mP, mN)))) (vp_Si (fun r : Int32 => r = fNB_standingOf nS nP nR (nI q) (nI o))) 0 0 (fun _ => False) := by
  refine g_enter (by decide) rfl (Nat.le_of_ble_eq_true rfl) ?_
  intro p e s m below meth c ls F hK hP hl
  obtain ⟨hx, hb, hr, hml, hown, hts, hlocks⟩ := id F
  have hl : lv_has ls 3 [(0, .ref (a 0)), (1, .int (nI q)), (2, .int (nI o))] := hl
  refine lv_iload_n hx hb dDB_state_0 rfl (lv_at hl 1 rfl) ?_
  refine g_roSv (As := [.int (nI q)]) (rest := []) ⟨hx, hb, hml, hown, hts⟩ (c_DB_requirePort l dI dO dG dN dT aN aB nS nP nR nG nO nU nT tP tR tO tN tF tZ mP mN q (by first | omega | assumption)) (cw_S 1 hts k285 k286 k27 k287 rfl rfl rfl (by decide +kernel) ⟨Nat.le_of_ble_eq_true rfl, Nat.le_of_ble_eq_true rfl⟩) hK hP rfl hl.1 rfl (Nat.le_of_ble_eq_true rfl) dDB_state_1 ⟨Nat.zero_le _, Nat.zero_le _⟩ ?_
  refine lv_iload_n hx hb dDB_state_4 rfl (lv_at hl 2 rfl) ?_
  refine g_roSv (As := [.int (nI o)]) (rest := []) ⟨hx, hb, hml, hown, hts⟩ (c_DB_requireRouter l dI dO dG dN dT aN aB nS nP nR nG nO nU nT tP tR tO tN tF tZ mP mN o (by first | omega | assumption)) (cw_S 1 hts k438 k439 k27 k440 rfl rfl rfl (by decide +kernel) ⟨Nat.le_of_ble_eq_true rfl, Nat.le_of_ble_eq_true rfl⟩) hK hP rfl hl.1 rfl (Nat.le_of_ble_eq_true rfl) dDB_state_5 ⟨Nat.zero_le _, Nat.zero_le _⟩ ?_
  refine lv_aload_n hx hb dDB_state_8 rfl (lv_at hl 0 rfl) ?_
  refine va_get (D := D) (ci := 4) (v := .ref (a 4)) (C := RDB) (T := TDB) (N := 9) hx hb hts inDB hown hK hP 0 rfl rfl 2 (by decide) (hts _ k130) (fun _ h9 => h9) rfl dDB_state_9 ?_
  refine lv_iload_n hx hb dDB_state_12 rfl (lv_at hl 1 rfl) ?_
  refine lv_iload_n hx hb dDB_state_13 rfl (lv_at hl 2 rfl) ?_
  refine g_roVi (As := [.int (nI q), .int (nI o)]) (rest := []) ⟨hx, hb, hml, hown, hts⟩ (c_NB_standingOf l dI dO dG dN dT aN aB nS nP nR nG nO nU nT tP tR tO tN tF tZ mP mN (nI q) (nI o)) (cwV 2 hts (gw_V k534 k535 k536 k29 k537) rfl rfl rfl (by decide +kernel) ⟨Nat.le_of_ble_eq_true rfl, Nat.le_of_ble_eq_true rfl⟩) hK hP (va_recv hK hP (ci := 2) (q0 := 4) rfl rfl) rfl hl.1 rfl (Nat.le_of_ble_eq_true rfl) dDB_state_14 ⟨Nat.zero_le _, Nat.zero_le _⟩ ?_
  exact r_iret hx hb hr (rfl) hlocks dDB_state_17
def fDB_known (aN : Nat → Int32) (g : Nat) : Int32 := (cond (fAD_has aN g) (aN g) (-1))
set_option maxHeartbeats 4000000 in
set_option maxRecDepth 100000 in
theorem c_DB_known (l : Launch) {D : va_G} {cI cL : ClassId} {a : Nat → Nat}  (dI : Nat) (dO dG dN dT : Int32) (aN aB : Nat → Int32) (nS nP nR nG : Nat → Int32) (nO nU : Nat → Int64) (nT : Nat → Int32) (tP tR tO tN : Nat → Int32) (tF tZ : Nat) (mP : Nat → Int32) (mN : Int64) (g : Nat) (hg : g < 64) : Met l yDB_known wsDB_known ({ frames := 2, cells := 0, slots := 0, locals := 40 }) (va_Pc [.ref (a 0), .int (nI g)] (gG D (tyC cI cL) (wC cI cL a) ((dI, dO, dG, dN, dT), (aN, aB), (nS, nP, nR, nG, nO, nU, nT), (tP, tR, tO, tN, tF, tZ), (mP, mN)))) (vp_Si (fun r : Int32 => r = fDB_known aN g)) 0 0 (fun _ => False) := by
  refine g_enter (by decide) rfl (Nat.le_of_ble_eq_true rfl) ?_
  intro p e s m below meth c ls F hK hP hl
  obtain ⟨hx, hb, hr, hml, hown, hts, hlocks⟩ := id F
  have hl : lv_has ls 2 [(0, .ref (a 0)), (1, .int (nI g))] := hl
  refine lv_iload_n hx hb dDB_known_0 rfl (lv_at hl 1 rfl) ?_
  refine g_roSv (As := [.int (nI g)]) (rest := []) ⟨hx, hb, hml, hown, hts⟩ (c_DB_requireRouter l dI dO dG dN dT aN aB nS nP nR nG nO nU nT tP tR tO tN tF tZ mP mN g (by first | omega | assumption)) (cw_S 1 hts k438 k439 k27 k440 rfl rfl rfl (by decide +kernel) ⟨Nat.le_of_ble_eq_true rfl, Nat.le_of_ble_eq_true rfl⟩) hK hP rfl hl.1 rfl (Nat.le_of_ble_eq_true rfl) dDB_known_1 ⟨Nat.zero_le _, Nat.zero_le _⟩ ?_
  refine lv_aload_n hx hb dDB_known_4 rfl (lv_at hl 0 rfl) ?_
  refine va_get (D := D) (ci := 4) (v := .ref (a 1)) (C := RDB) (T := TDB) (N := 9) hx hb hts inDB hown hK hP 0 rfl rfl 1 (by decide) (hts _ k129) (fun _ h9 => h9) rfl dDB_known_5 ?_
  refine lv_iload_n hx hb dDB_known_8 rfl (lv_at hl 1 rfl) ?_
  refine g_roVi (As := [.int (nI g)]) (rest := []) ⟨hx, hb, hml, hown, hts⟩ (c_AD_has l dI dO dG dN dT aN aB nS nP nR nG nO nU nT tP tR tO tN tF tZ mP mN g (by first | omega | assumption)) (cwV 1 hts (gw_V k482 k483 k484 k28 k485) rfl rfl rfl (by decide +kernel) ⟨Nat.le_of_ble_eq_true rfl, Nat.le_of_ble_eq_true rfl⟩) hK hP (va_recv hK hP (ci := 0) (q0 := 1) rfl rfl) rfl hl.1 rfl (Nat.le_of_ble_eq_true rfl) dDB_known_9 ⟨Nat.zero_le _, Nat.zero_le _⟩ ?_
  refine lv_if_eqb (tgt := 26) hx hb dDB_known_12 (by decide) (fun c1 => ?_) (fun c1 => ?_)
  · refine lv_iconst (v := (-1)) hx hb dDB_known_26 (by decide) ?_
    have e1 : fDB_known aN g = (-1) := by simp only [fDB_known, c1, cond_true, cond_false]
    exact r_iret hx hb hr (by first | rfl | (rw [e1] <;> rfl)) hlocks dDB_known_27
  · refine lv_aload_n hx hb dDB_known_15 rfl (lv_at hl 0 rfl) ?_
    refine va_get (D := D) (ci := 4) (v := .ref (a 1)) (C := RDB) (T := TDB) (N := 9) hx hb hts inDB hown hK hP 0 rfl rfl 1 (by decide) (hts _ k129) (fun _ h9 => h9) rfl dDB_known_16 ?_
    refine lv_iload_n hx hb dDB_known_19 rfl (lv_at hl 1 rfl) ?_
    refine g_roVi (As := [.int (nI g)]) (rest := []) ⟨hx, hb, hml, hown, hts⟩ (c_AD_numberOf l dI dO dG dN dT aN aB nS nP nR nG nO nU nT tP tR tO tN tF tZ mP mN g (by first | omega | assumption)) (cwV 1 hts (gw_V k242 k243 k244 k28 k245) rfl rfl rfl (by decide +kernel) ⟨Nat.le_of_ble_eq_true rfl, Nat.le_of_ble_eq_true rfl⟩) hK hP (va_recv hK hP (ci := 0) (q0 := 1) rfl rfl) rfl hl.1 rfl (Nat.le_of_ble_eq_true rfl) dDB_known_20 ⟨Nat.zero_le _, Nat.zero_le _⟩ ?_
    refine lv_goto (tgt := 27) hx hb dDB_known_23 (by decide) ?_
    have e1 : fDB_known aN g = aN g := by simp only [fDB_known, c1, cond_true, cond_false]
    exact r_iret hx hb hr (by first | rfl | (rw [e1] <;> rfl)) hlocks dDB_known_27
set_option maxHeartbeats 4000000 in
set_option maxRecDepth 100000 in
theorem c_DB_body (l : Launch) {D : va_G} {cI cL : ClassId} {a : Nat → Nat}  (dI : Nat) (dO dG dN dT : Int32) (aN aB : Nat → Int32) (nS nP nR nG : Nat → Int32) (nO nU : Nat → Int64) (nT : Nat → Int32) (tP tR tO tN : Nat → Int32) (tF tZ : Nat) (mP : Nat → Int32) (mN : Int64) (g : Nat) (hg : g < 64) : Met l yDB_body wsDB_body ({ frames := 2, cells := 0, slots := 0, locals := 40 }) (va_Pc [.ref (a 0), .int (nI g)] (gG D (tyC cI cL) (wC cI cL a) ((dI, dO, dG, dN, dT), (aN, aB), (nS, nP, nR, nG, nO, nU, nT), (tP, tR, tO, tN, tF, tZ), (mP, mN)))) (vp_Si (fun r : Int32 => r = aB g)) 0 0 (fun _ => False) := by
  refine g_enter (by decide) rfl (Nat.le_of_ble_eq_true rfl) ?_
  intro p e s m below meth c ls F hK hP hl
  obtain ⟨hx, hb, hr, hml, hown, hts, hlocks⟩ := id F
  have hl : lv_has ls 2 [(0, .ref (a 0)), (1, .int (nI g))] := hl
  refine lv_iload_n hx hb dDB_body_0 rfl (lv_at hl 1 rfl) ?_
  refine g_roSv (As := [.int (nI g)]) (rest := []) ⟨hx, hb, hml, hown, hts⟩ (c_DB_requireRouter l dI dO dG dN dT aN aB nS nP nR nG nO nU nT tP tR tO tN tF tZ mP mN g (by first | omega | assumption)) (cw_S 1 hts k438 k439 k27 k440 rfl rfl rfl (by decide +kernel) ⟨Nat.le_of_ble_eq_true rfl, Nat.le_of_ble_eq_true rfl⟩) hK hP rfl hl.1 rfl (Nat.le_of_ble_eq_true rfl) dDB_body_1 ⟨Nat.zero_le _, Nat.zero_le _⟩ ?_
  refine lv_aload_n hx hb dDB_body_4 rfl (lv_at hl 0 rfl) ?_
  refine va_get (D := D) (ci := 4) (v := .ref (a 1)) (C := RDB) (T := TDB) (N := 9) hx hb hts inDB hown hK hP 0 rfl rfl 1 (by decide) (hts _ k129) (fun _ h9 => h9) rfl dDB_body_5 ?_
  refine lv_iload_n hx hb dDB_body_8 rfl (lv_at hl 1 rfl) ?_
  refine g_roVi (As := [.int (nI g)]) (rest := []) ⟨hx, hb, hml, hown, hts⟩ (c_AD_bodyOf l dI dO dG dN dT aN aB nS nP nR nG nO nU nT tP tR tO tN tF tZ mP mN g (by first | omega | assumption)) (cwV 1 hts (gw_V k246 k247 k248 k28 k249) rfl rfl rfl (by decide +kernel) ⟨Nat.le_of_ble_eq_true rfl, Nat.le_of_ble_eq_true rfl⟩) hK hP (va_recv hK hP (ci := 0) (q0 := 1) rfl rfl) rfl hl.1 rfl (Nat.le_of_ble_eq_true rfl) dDB_body_9 ⟨Nat.zero_le _, Nat.zero_le _⟩ ?_
  exact r_iret hx hb hr (rfl) hlocks dDB_body_12
def fDB_count (nS : Nat → Int32) (b : Bool) : Int32 := (cond b (LNB_atLeast nS 2 16 0 0) (LNB_atLeast nS 1 16 0 0))
set_option maxHeartbeats 4000000 in
set_option maxRecDepth 100000 in
theorem c_DB_count (l : Launch) {D : va_G} {cI cL : ClassId} {a : Nat → Nat}  (dI : Nat) (dO dG dN dT : Int32) (aN aB : Nat → Int32) (nS nP nR nG : Nat → Int32) (nO nU : Nat → Int64) (nT : Nat → Int32) (tP tR tO tN : Nat → Int32) (tF tZ : Nat) (mP : Nat → Int32) (mN : Int64) (b : Bool)  : Met l yDB_count wsDB_count ({ frames := 1, cells := 0, slots := 0, locals := 23 }) (va_Pc [.ref (a 0), .int (bi b)] (gG D (tyC cI cL) (wC cI cL a) ((dI, dO, dG, dN, dT), (aN, aB), (nS, nP, nR, nG, nO, nU, nT), (tP, tR, tO, tN, tF, tZ), (mP, mN)))) (vp_Si (fun r : Int32 => r = fDB_count nS b)) 0 0 (fun _ => False) := by
  refine g_enter (by decide) rfl (Nat.le_of_ble_eq_true rfl) ?_
  intro p e s m below meth c ls F hK hP hl
  obtain ⟨hx, hb, hr, hml, hown, hts, hlocks⟩ := id F
  have hl : lv_has ls 2 [(0, .ref (a 0)), (1, .int (bi b))] := hl
  refine lv_aload_n hx hb dDB_count_0 rfl (lv_at hl 0 rfl) ?_
  refine va_get (D := D) (ci := 4) (v := .ref (a 4)) (C := RDB) (T := TDB) (N := 9) hx hb hts inDB hown hK hP 0 rfl rfl 2 (by decide) (hts _ k130) (fun _ h9 => h9) rfl dDB_count_1 ?_
  refine lv_iload_n hx hb dDB_count_4 rfl (lv_at hl 1 rfl) ?_
  refine lv_if_eqb (tgt := 12) hx hb dDB_count_5 (by decide) (fun c1 => ?_) (fun c1 => ?_)
  · refine lv_iconst (v := 1) hx hb dDB_count_12 (by decide) ?_
    refine g_roVi (As := [.int 1]) (rest := []) ⟨hx, hb, hml, hown, hts⟩ (c_NB_atLeast l dI dO dG dN dT aN aB nS nP nR nG nO nU nT tP tR tO tN tF tZ mP mN 1) (cwV 1 hts (gw_V k266 k267 k268 k29 k269) rfl rfl rfl (by decide +kernel) ⟨Nat.le_of_ble_eq_true rfl, Nat.le_of_ble_eq_true rfl⟩) hK hP (va_recv hK hP (ci := 2) (q0 := 4) rfl rfl) rfl hl.1 rfl (Nat.le_of_ble_eq_true rfl) dDB_count_13 ⟨Nat.zero_le _, Nat.zero_le _⟩ ?_
    have e1 : fDB_count nS b = LNB_atLeast nS 1 16 0 0 := by simp only [fDB_count, c1, cond_true, cond_false]
    exact r_iret hx hb hr (by first | rfl | (rw [e1] <;> rfl)) hlocks dDB_count_16
  · refine lv_iconst (v := 2) hx hb dDB_count_8 (by decide) ?_
    refine lv_goto (tgt := 13) hx hb dDB_count_9 (by decide) ?_
    refine g_roVi (As := [.int 2]) (rest := []) ⟨hx, hb, hml, hown, hts⟩ (c_NB_atLeast l dI dO dG dN dT aN aB nS nP nR nG nO nU nT tP tR tO tN tF tZ mP mN 2) (cwV 1 hts (gw_V k266 k267 k268 k29 k269) rfl rfl rfl (by decide +kernel) ⟨Nat.le_of_ble_eq_true rfl, Nat.le_of_ble_eq_true rfl⟩) hK hP (va_recv hK hP (ci := 2) (q0 := 4) rfl rfl) rfl hl.1 rfl (Nat.le_of_ble_eq_true rfl) dDB_count_13 ⟨Nat.zero_le _, Nat.zero_le _⟩ ?_
    have e1 : fDB_count nS b = LNB_atLeast nS 2 16 0 0 := by simp only [fDB_count, c1, cond_true, cond_false]
    exact r_iret hx hb hr (by first | rfl | (rw [e1] <;> rfl)) hlocks dDB_count_16
set_option maxHeartbeats 4000000 in
set_option maxRecDepth 100000 in
theorem c_DB_time (l : Launch) {D : va_G} {cI cL : ClassId} {a : Nat → Nat}  (dI : Nat) (dO dG dN dT : Int32) (aN aB : Nat → Int32) (nS nP nR nG : Nat → Int32) (nO nU : Nat → Int64) (nT : Nat → Int32) (tP tR tO tN : Nat → Int32) (tF tZ : Nat) (mP : Nat → Int32) (mN : Int64)   : Met l yDB_time wsDB_time ({ frames := 0, cells := 0, slots := 0, locals := 0 }) (va_Pc [.ref (a 0)] (gG D (tyC cI cL) (wC cI cL a) ((dI, dO, dG, dN, dT), (aN, aB), (nS, nP, nR, nG, nO, nU, nT), (tP, tR, tO, tN, tF, tZ), (mP, mN)))) (vp_Si (fun r : Int32 => r = dT)) 0 0 (fun _ => False) := by
  refine g_enter (by decide) rfl (Nat.le_of_ble_eq_true rfl) ?_
  intro p e s m below meth c ls F hK hP hl
  obtain ⟨hx, hb, hr, hml, hown, hts, hlocks⟩ := id F
  have hl : lv_has ls 1 [(0, .ref (a 0))] := hl
  refine lv_aload_n hx hb dDB_time_0 rfl (lv_at hl 0 rfl) ?_
  refine va_get (D := D) (ci := 4) (v := .int dT) (C := RDB) (T := TDB) (N := 9) hx hb hts inDB hown hK hP 0 rfl rfl 8 (by decide) (hts _ k136) (fun _ h9 => h9) rfl dDB_time_1 ?_
  exact r_iret hx hb hr (rfl) hlocks dDB_time_4
end
