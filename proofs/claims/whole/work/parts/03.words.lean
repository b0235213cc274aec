/-! words: each by its place in the tables -/
set_option maxRecDepth 20000 in
theorem k0 : Cond.selects "DeskBench" ({ cls := "DeskBench", name := "makeGreeting", desc := "()Z" } : MethodName) ({ cls := "DeskBench", name := "makeGreeting", desc := "()Z" } : MethodName) ∈ bigW := bw 0 (by decide +kernel) (by decide +kernel)
set_option maxRecDepth 20000 in
theorem k1 : Cond.selects "DeskBench$Message" ({ cls := "DeskBench$Message", name := "address", desc := "(III)V" } : MethodName) ({ cls := "DeskBench$Message", name := "address", desc := "(III)V" } : MethodName) ∈ bigW := bw 1 (by decide +kernel) (by decide +kernel)
set_option maxRecDepth 20000 in
theorem k2 : Cond.selects "DeskBench$Message" ({ cls := "DeskBench$Message", name := "fill", desc := "(III)V" } : MethodName) ({ cls := "DeskBench$Message", name := "fill", desc := "(III)V" } : MethodName) ∈ bigW := bw 2 (by decide +kernel) (by decide +kernel)
set_option maxRecDepth 20000 in
theorem k3 : Cond.selects "DeskBench" ({ cls := "DeskBench", name := "makeThanks", desc := "()Z" } : MethodName) ({ cls := "DeskBench", name := "makeThanks", desc := "()Z" } : MethodName) ∈ bigW := bw 3 (by decide +kernel) (by decide +kernel)
set_option maxRecDepth 20000 in
theorem k4 : Cond.selects "DeskBench" ({ cls := "DeskBench", name := "makeAdvert", desc := "()Z" } : MethodName) ({ cls := "DeskBench", name := "makeAdvert", desc := "()Z" } : MethodName) ∈ bigW := bw 4 (by decide +kernel) (by decide +kernel)
set_option maxRecDepth 20000 in
theorem k5 : Cond.selects "DeskBench$Neighbours" ({ cls := "DeskBench$Neighbours", name := "isToBeSent", desc := "(III)Z" } : MethodName) ({ cls := "DeskBench$Neighbours", name := "isToBeSent", desc := "(III)Z" } : MethodName) ∈ bigW := bw 5 (by decide +kernel) (by decide +kernel)
set_option maxRecDepth 20000 in
theorem k7 : Cond.selects "DeskBench" ({ cls := "DeskBench", name := "isOn", desc := "(I)Z" } : MethodName) ({ cls := "DeskBench", name := "isOn", desc := "(I)Z" } : MethodName) ∈ bigW := bw 7 (by decide +kernel) (by decide +kernel)
set_option maxRecDepth 20000 in
theorem k8 : Cond.selects "DeskBench$Neighbours" ({ cls := "DeskBench$Neighbours", name := "drop", desc := "(I)V" } : MethodName) ({ cls := "DeskBench$Neighbours", name := "drop", desc := "(I)V" } : MethodName) ∈ bigW := bw 8 (by decide +kernel) (by decide +kernel)
set_option maxRecDepth 20000 in
theorem k9 : Cond.selects "DeskBench$Neighbours" ({ cls := "DeskBench$Neighbours", name := "oweExactly", desc := "(IJ)V" } : MethodName) ({ cls := "DeskBench$Neighbours", name := "oweExactly", desc := "(IJ)V" } : MethodName) ∈ bigW := bw 9 (by decide +kernel) (by decide +kernel)
set_option maxRecDepth 20000 in
theorem k10 : Cond.selects "DeskBench" ({ cls := "DeskBench", name := "requireSender", desc := "(I)V" } : MethodName) ({ cls := "DeskBench", name := "requireSender", desc := "(I)V" } : MethodName) ∈ bigW := bw 10 (by decide +kernel) (by decide +kernel)
set_option maxRecDepth 20000 in
theorem k11 : Cond.selects "DeskBench" ({ cls := "DeskBench", name := "requireOn", desc := "(I)V" } : MethodName) ({ cls := "DeskBench", name := "requireOn", desc := "(I)V" } : MethodName) ∈ bigW := bw 11 (by decide +kernel) (by decide +kernel)
set_option maxRecDepth 20000 in
theorem k12 : Cond.selects "DeskBench$Neighbours" ({ cls := "DeskBench$Neighbours", name := "heardPlace", desc := "(II)I" } : MethodName) ({ cls := "DeskBench$Neighbours", name := "heardPlace", desc := "(II)I" } : MethodName) ∈ bigW := bw 12 (by decide +kernel) (by decide +kernel)
set_option maxRecDepth 20000 in
theorem k13 : Cond.selects "DeskBench$Neighbours" ({ cls := "DeskBench$Neighbours", name := "takeFreePlace", desc := "(II)I" } : MethodName) ({ cls := "DeskBench$Neighbours", name := "takeFreePlace", desc := "(II)I" } : MethodName) ∈ bigW := bw 13 (by decide +kernel) (by decide +kernel)
set_option maxRecDepth 20000 in
theorem k14 : Cond.selects "DeskBench" ({ cls := "DeskBench", name := "requireLegal", desc := "(IIII)V" } : MethodName) ({ cls := "DeskBench", name := "requireLegal", desc := "(IIII)V" } : MethodName) ∈ bigW := bw 14 (by decide +kernel) (by decide +kernel)
set_option maxRecDepth 20000 in
theorem k15 : Cond.selects "DeskBench" ({ cls := "DeskBench", name := "takeOwnBack", desc := "(II)I" } : MethodName) ({ cls := "DeskBench", name := "takeOwnBack", desc := "(II)I" } : MethodName) ∈ bigW := bw 15 (by decide +kernel) (by decide +kernel)
set_option maxRecDepth 20000 in
theorem k16 : Cond.selects "DeskBench" ({ cls := "DeskBench", name := "takeAdvert", desc := "(IIII)I" } : MethodName) ({ cls := "DeskBench", name := "takeAdvert", desc := "(IIII)I" } : MethodName) ∈ bigW := bw 16 (by decide +kernel) (by decide +kernel)
set_option maxRecDepth 20000 in
theorem k17 : Cond.selects "DeskBenchModel" ({ cls := "DeskBenchModel", name := "remove", desc := "(I)V" } : MethodName) ({ cls := "DeskBenchModel", name := "remove", desc := "(I)V" } : MethodName) ∈ bigW := bw 17 (by decide +kernel) (by decide +kernel)
set_option maxRecDepth 20000 in
theorem k18 : Cond.selects "DeskBenchModel" ({ cls := "DeskBenchModel", name := "settleAll", desc := "(I)V" } : MethodName) ({ cls := "DeskBenchModel", name := "settleAll", desc := "(I)V" } : MethodName) ∈ bigW := bw 18 (by decide +kernel) (by decide +kernel)
set_option maxRecDepth 20000 in
theorem k19 : Cond.selects "DeskBenchModel" ({ cls := "DeskBenchModel", name := "wrong", desc := "(II)I" } : MethodName) ({ cls := "DeskBenchModel", name := "wrong", desc := "(II)I" } : MethodName) ∈ bigW := bw 19 (by decide +kernel) (by decide +kernel)
set_option maxRecDepth 20000 in
theorem k20 : Cond.selects "DeskBenchModel" ({ cls := "DeskBenchModel", name := "find", desc := "(II)I" } : MethodName) ({ cls := "DeskBenchModel", name := "find", desc := "(II)I" } : MethodName) ∈ bigW := bw 20 (by decide +kernel) (by decide +kernel)
set_option maxRecDepth 20000 in
theorem k21 : Cond.selects "DeskBenchModel" ({ cls := "DeskBenchModel", name := "thank", desc := "(III)V" } : MethodName) ({ cls := "DeskBenchModel", name := "thank", desc := "(III)V" } : MethodName) ∈ bigW := bw 21 (by decide +kernel) (by decide +kernel)
set_option maxRecDepth 20000 in
theorem k22 : Cond.selects "DeskBenchModel" ({ cls := "DeskBenchModel", name := "learn", desc := "(IIII)V" } : MethodName) ({ cls := "DeskBenchModel", name := "learn", desc := "(IIII)V" } : MethodName) ∈ bigW := bw 22 (by decide +kernel) (by decide +kernel)
set_option maxRecDepth 20000 in
theorem k23 : Cond.selects "DeskBenchModel" ({ cls := "DeskBenchModel", name := "greet", desc := "(I)V" } : MethodName) ({ cls := "DeskBenchModel", name := "greet", desc := "(I)V" } : MethodName) ∈ bigW := bw 23 (by decide +kernel) (by decide +kernel)
set_option maxRecDepth 20000 in
theorem k24 : Cond.selects "DeskBenchModel" ({ cls := "DeskBenchModel", name := "make", desc := "(IIIIII)V" } : MethodName) ({ cls := "DeskBenchModel", name := "make", desc := "(IIIIII)V" } : MethodName) ∈ bigW := bw 24 (by decide +kernel) (by decide +kernel)
set_option maxRecDepth 20000 in
theorem k25 : Cond.selects "DeskBenchModel" ({ cls := "DeskBenchModel", name := "firstAdvert", desc := "()I" } : MethodName) ({ cls := "DeskBenchModel", name := "firstAdvert", desc := "()I" } : MethodName) ∈ bigW := bw 25 (by decide +kernel) (by decide +kernel)
set_option maxRecDepth 20000 in
theorem k27 : Cond.initialized "DeskBench" ∈ bigW := bw 27 (by decide +kernel) (by decide +kernel)
set_option maxRecDepth 20000 in
theorem k28 : Cond.initialized "DeskBench$Adverts" ∈ bigW := bw 28 (by decide +kernel) (by decide +kernel)
set_option maxRecDepth 20000 in
theorem k29 : Cond.initialized "DeskBench$Neighbours" ∈ bigW := bw 29 (by decide +kernel) (by decide +kernel)
set_option maxRecDepth 20000 in
theorem k30 : Cond.initialized "DeskBench$ThanksQueue" ∈ bigW := bw 30 (by decide +kernel) (by decide +kernel)
set_option maxRecDepth 20000 in
theorem k31 : Cond.initialized "DeskBench$Message" ∈ bigW := bw 31 (by decide +kernel) (by decide +kernel)
set_option maxRecDepth 20000 in
theorem k32 : Cond.initialized "DeskBenchModel" ∈ bigW := bw 32 (by decide +kernel) (by decide +kernel)
set_option maxRecDepth 20000 in
theorem k36 : Cond.initialized "java/lang/IllegalArgumentException" ∈ bigW := bw 36 (by decide +kernel) (by decide +kernel)
set_option maxRecDepth 20000 in
theorem k37 : Cond.initialized "java/lang/IllegalStateException" ∈ bigW := bw 37 (by decide +kernel) (by decide +kernel)
set_option maxRecDepth 20000 in
theorem k38 : Cond.initialized "java/lang/Long" ∈ bigW := bw 38 (by decide +kernel) (by decide +kernel)
set_option maxRecDepth 20000 in
theorem k44 : Cond.methodLink "DeskBench" (1 : Nat) ({ cls := "java/lang/Object", name := "<init>", desc := "()V" } : Jvm.MethodName) ∈ bigW := bw 44 (by decide +kernel) (by decide +kernel)
set_option maxRecDepth 20000 in
theorem k45 : Cond.instanceMethod ({ cls := "java/lang/Object", name := "<init>", desc := "()V" } : Jvm.MethodName) ∈ bigW := bw 45 (by decide +kernel) (by decide +kernel)
set_option maxRecDepth 20000 in
theorem k46 : Cond.code ({ cls := "java/lang/Object", name := "<init>", desc := "()V" } : Jvm.MethodName) object_method_1_code (1 : Nat) (Option.none : Option Jvm.ClassFile.FieldType) ∈ bigW := bw 46 (by decide +kernel) (by decide +kernel)
set_option maxRecDepth 20000 in
theorem k47 : Cond.classLink "DeskBench" (13 : Nat) "DeskBench$Adverts" ∈ bigW := bw 47 (by decide +kernel) (by decide +kernel)
set_option maxRecDepth 20000 in
theorem k48 : Cond.instantiable "DeskBench$Adverts" (2 : Nat) ∈ bigW := bw 48 (by decide +kernel) (by decide +kernel)
set_option maxRecDepth 20000 in
theorem k50 : Cond.instanceMethod ({ cls := "DeskBench$Adverts", name := "<init>", desc := "()V" } : Jvm.MethodName) ∈ bigW := bw 50 (by decide +kernel) (by decide +kernel)
set_option maxRecDepth 20000 in
theorem k51 : Cond.code ({ cls := "DeskBench$Adverts", name := "<init>", desc := "()V" } : Jvm.MethodName) prog_2_method_1_code (1 : Nat) (Option.none : Option Jvm.ClassFile.FieldType) ∈ bigW := bw 51 (by decide +kernel) (by decide +kernel)
set_option maxRecDepth 20000 in
theorem k52 : Cond.methodLink "DeskBench$Adverts" (3 : Nat) ({ cls := "java/lang/Object", name := "<init>", desc := "()V" } : Jvm.MethodName) ∈ bigW := bw 52 (by decide +kernel) (by decide +kernel)
set_option maxRecDepth 20000 in
theorem k53 : Cond.fieldLink "DeskBench$Adverts" (9 : Nat) "DeskBench$Adverts" "numbers" "[I" ∈ bigW := bw 53 (by decide +kernel) (by decide +kernel)
set_option maxRecDepth 20000 in
theorem k54 : Cond.fieldLink "DeskBench$Adverts" (15 : Nat) "DeskBench$Adverts" "bodies" "[I" ∈ bigW := bw 54 (by decide +kernel) (by decide +kernel)
set_option maxRecDepth 20000 in
theorem k60 : Cond.arrayClass Jvm.ClassFile.FieldType.int ∈ bigW := bw 60 (by decide +kernel) (by decide +kernel)
set_option maxRecDepth 20000 in
theorem k61 : Cond.classLink "DeskBench" (20 : Nat) "DeskBench$Neighbours" ∈ bigW := bw 61 (by decide +kernel) (by decide +kernel)
set_option maxRecDepth 20000 in
theorem k62 : Cond.instantiable "DeskBench$Neighbours" (7 : Nat) ∈ bigW := bw 62 (by decide +kernel) (by decide +kernel)
set_option maxRecDepth 20000 in
theorem k64 : Cond.instanceMethod ({ cls := "DeskBench$Neighbours", name := "<init>", desc := "()V" } : Jvm.MethodName) ∈ bigW := bw 64 (by decide +kernel) (by decide +kernel)
set_option maxRecDepth 20000 in
theorem k65 : Cond.code ({ cls := "DeskBench$Neighbours", name := "<init>", desc := "()V" } : Jvm.MethodName) prog_4_method_1_code (1 : Nat) (Option.none : Option Jvm.ClassFile.FieldType) ∈ bigW := bw 65 (by decide +kernel) (by decide +kernel)
set_option maxRecDepth 20000 in
theorem k66 : Cond.methodLink "DeskBench$Neighbours" (3 : Nat) ({ cls := "java/lang/Object", name := "<init>", desc := "()V" } : Jvm.MethodName) ∈ bigW := bw 66 (by decide +kernel) (by decide +kernel)
set_option maxRecDepth 20000 in
theorem k67 : Cond.fieldLink "DeskBench$Neighbours" (9 : Nat) "DeskBench$Neighbours" "standings" "[I" ∈ bigW := bw 67 (by decide +kernel) (by decide +kernel)
set_option maxRecDepth 20000 in
theorem k68 : Cond.fieldLink "DeskBench$Neighbours" (15 : Nat) "DeskBench$Neighbours" "ports" "[I" ∈ bigW := bw 68 (by decide +kernel) (by decide +kernel)
set_option maxRecDepth 20000 in
theorem k69 : Cond.fieldLink "DeskBench$Neighbours" (18 : Nat) "DeskBench$Neighbours" "routers" "[I" ∈ bigW := bw 69 (by decide +kernel) (by decide +kernel)
set_option maxRecDepth 20000 in
theorem k70 : Cond.fieldLink "DeskBench$Neighbours" (21 : Nat) "DeskBench$Neighbours" "greetedAt" "[I" ∈ bigW := bw 70 (by decide +kernel) (by decide +kernel)
set_option maxRecDepth 20000 in
theorem k71 : Cond.fieldLink "DeskBench$Neighbours" (24 : Nat) "DeskBench$Neighbours" "owed" "[J" ∈ bigW := bw 71 (by decide +kernel) (by decide +kernel)
set_option maxRecDepth 20000 in
theorem k72 : Cond.fieldLink "DeskBench$Neighbours" (28 : Nat) "DeskBench$Neighbours" "unsent" "[J" ∈ bigW := bw 72 (by decide +kernel) (by decide +kernel)
set_option maxRecDepth 20000 in
theorem k73 : Cond.fieldLink "DeskBench$Neighbours" (31 : Nat) "DeskBench$Neighbours" "sentAt" "[I" ∈ bigW := bw 73 (by decide +kernel) (by decide +kernel)
set_option maxRecDepth 20000 in
theorem k89 : Cond.arrayClass Jvm.ClassFile.FieldType.long ∈ bigW := bw 89 (by decide +kernel) (by decide +kernel)
set_option maxRecDepth 20000 in
theorem k90 : Cond.classLink "DeskBench" (27 : Nat) "DeskBench$ThanksQueue" ∈ bigW := bw 90 (by decide +kernel) (by decide +kernel)
set_option maxRecDepth 20000 in
theorem k91 : Cond.instantiable "DeskBench$ThanksQueue" (6 : Nat) ∈ bigW := bw 91 (by decide +kernel) (by decide +kernel)
set_option maxRecDepth 20000 in
theorem k93 : Cond.instanceMethod ({ cls := "DeskBench$ThanksQueue", name := "<init>", desc := "()V" } : Jvm.MethodName) ∈ bigW := bw 93 (by decide +kernel) (by decide +kernel)
set_option maxRecDepth 20000 in
theorem k94 : Cond.code ({ cls := "DeskBench$ThanksQueue", name := "<init>", desc := "()V" } : Jvm.MethodName) prog_5_method_1_code (1 : Nat) (Option.none : Option Jvm.ClassFile.FieldType) ∈ bigW := bw 94 (by decide +kernel) (by decide +kernel)
set_option maxRecDepth 20000 in
theorem k95 : Cond.methodLink "DeskBench$ThanksQueue" (3 : Nat) ({ cls := "java/lang/Object", name := "<init>", desc := "()V" } : Jvm.MethodName) ∈ bigW := bw 95 (by decide +kernel) (by decide +kernel)
set_option maxRecDepth 20000 in
theorem k96 : Cond.fieldLink "DeskBench$ThanksQueue" (9 : Nat) "DeskBench$ThanksQueue" "ports" "[I" ∈ bigW := bw 96 (by decide +kernel) (by decide +kernel)
set_option maxRecDepth 20000 in
theorem k97 : Cond.fieldLink "DeskBench$ThanksQueue" (15 : Nat) "DeskBench$ThanksQueue" "routers" "[I" ∈ bigW := bw 97 (by decide +kernel) (by decide +kernel)
set_option maxRecDepth 20000 in
theorem k98 : Cond.fieldLink "DeskBench$ThanksQueue" (18 : Nat) "DeskBench$ThanksQueue" "origins" "[I" ∈ bigW := bw 98 (by decide +kernel) (by decide +kernel)
set_option maxRecDepth 20000 in
theorem k99 : Cond.fieldLink "DeskBench$ThanksQueue" (21 : Nat) "DeskBench$ThanksQueue" "numbers" "[I" ∈ bigW := bw 99 (by decide +kernel) (by decide +kernel)
set_option maxRecDepth 20000 in
theorem k100 : Cond.fieldLink "DeskBench$ThanksQueue" (28 : Nat) "DeskBench$ThanksQueue" "first" "I" ∈ bigW := bw 100 (by decide +kernel) (by decide +kernel)
set_option maxRecDepth 20000 in
theorem k101 : Cond.fieldLink "DeskBench$ThanksQueue" (24 : Nat) "DeskBench$ThanksQueue" "size" "I" ∈ bigW := bw 101 (by decide +kernel) (by decide +kernel)
set_option maxRecDepth 20000 in
theorem k115 : Cond.classLink "DeskBench" (34 : Nat) "DeskBench$Message" ∈ bigW := bw 115 (by decide +kernel) (by decide +kernel)
set_option maxRecDepth 20000 in
theorem k116 : Cond.instantiable "DeskBench$Message" (2 : Nat) ∈ bigW := bw 116 (by decide +kernel) (by decide +kernel)
set_option maxRecDepth 20000 in
theorem k118 : Cond.instanceMethod ({ cls := "DeskBench$Message", name := "<init>", desc := "()V" } : Jvm.MethodName) ∈ bigW := bw 118 (by decide +kernel) (by decide +kernel)
set_option maxRecDepth 20000 in
theorem k119 : Cond.code ({ cls := "DeskBench$Message", name := "<init>", desc := "()V" } : Jvm.MethodName) prog_3_method_1_code (1 : Nat) (Option.none : Option Jvm.ClassFile.FieldType) ∈ bigW := bw 119 (by decide +kernel) (by decide +kernel)
set_option maxRecDepth 20000 in
theorem k120 : Cond.methodLink "DeskBench$Message" (3 : Nat) ({ cls := "java/lang/Object", name := "<init>", desc := "()V" } : Jvm.MethodName) ∈ bigW := bw 120 (by decide +kernel) (by decide +kernel)
set_option maxRecDepth 20000 in
theorem k121 : Cond.fieldLink "DeskBench$Message" (11 : Nat) "DeskBench$Message" "parts" "[I" ∈ bigW := bw 121 (by decide +kernel) (by decide +kernel)
set_option maxRecDepth 20000 in
theorem k122 : Cond.fieldLink "DeskBench$Message" (15 : Nat) "DeskBench$Message" "names" "J" ∈ bigW := bw 122 (by decide +kernel) (by decide +kernel)
set_option maxRecDepth 20000 in
theorem k128 : Cond.fieldLink "DeskBench" (9 : Nat) "DeskBench" "itself" "I" ∈ bigW := bw 128 (by decide +kernel) (by decide +kernel)
set_option maxRecDepth 20000 in
theorem k129 : Cond.fieldLink "DeskBench" (16 : Nat) "DeskBench" "adverts" "LDeskBench$Adverts;" ∈ bigW := bw 129 (by decide +kernel) (by decide +kernel)
set_option maxRecDepth 20000 in
theorem k130 : Cond.fieldLink "DeskBench" (23 : Nat) "DeskBench" "neighbours" "LDeskBench$Neighbours;" ∈ bigW := bw 130 (by decide +kernel) (by decide +kernel)
set_option maxRecDepth 20000 in
theorem k131 : Cond.fieldLink "DeskBench" (30 : Nat) "DeskBench" "thanksQueue" "LDeskBench$ThanksQueue;" ∈ bigW := bw 131 (by decide +kernel) (by decide +kernel)
set_option maxRecDepth 20000 in
theorem k132 : Cond.fieldLink "DeskBench" (37 : Nat) "DeskBench" "last" "LDeskBench$Message;" ∈ bigW := bw 132 (by decide +kernel) (by decide +kernel)
set_option maxRecDepth 20000 in
theorem k133 : Cond.fieldLink "DeskBench" (49 : Nat) "DeskBench" "portsOn" "I" ∈ bigW := bw 133 (by decide +kernel) (by decide +kernel)
set_option maxRecDepth 20000 in
theorem k134 : Cond.fieldLink "DeskBench" (52 : Nat) "DeskBench" "greetingsToSend" "I" ∈ bigW := bw 134 (by decide +kernel) (by decide +kernel)
set_option maxRecDepth 20000 in
theorem k135 : Cond.fieldLink "DeskBench" (104 : Nat) "DeskBench" "greatestOwnNumber" "I" ∈ bigW := bw 135 (by decide +kernel) (by decide +kernel)
set_option maxRecDepth 20000 in
theorem k136 : Cond.fieldLink "DeskBench" (68 : Nat) "DeskBench" "time" "I" ∈ bigW := bw 136 (by decide +kernel) (by decide +kernel)
set_option maxRecDepth 20000 in
theorem k160 : Cond.methodLink "DeskBench" (107 : Nat) ({ cls := "DeskBench$Adverts", name := "put", desc := "(III)V" } : Jvm.MethodName) ∈ bigW := bw 160 (by decide +kernel) (by decide +kernel)
set_option maxRecDepth 20000 in
theorem k161 : Cond.instanceMethod ({ cls := "DeskBench$Adverts", name := "put", desc := "(III)V" } : Jvm.MethodName) ∈ bigW := bw 161 (by decide +kernel) (by decide +kernel)
set_option maxRecDepth 20000 in
theorem k162 : Cond.selects "DeskBench$Adverts" ({ cls := "DeskBench$Adverts", name := "put", desc := "(III)V" } : Jvm.MethodName) ({ cls := "DeskBench$Adverts", name := "put", desc := "(III)V" } : Jvm.MethodName) ∈ bigW := bw 162 (by decide +kernel) (by decide +kernel)
set_option maxRecDepth 20000 in
theorem k163 : Cond.code ({ cls := "DeskBench$Adverts", name := "put", desc := "(III)V" } : Jvm.MethodName) prog_2_method_5_code (4 : Nat) (Option.none : Option Jvm.ClassFile.FieldType) ∈ bigW := bw 163 (by decide +kernel) (by decide +kernel)
set_option maxRecDepth 20000 in
theorem k164 : Cond.methodLink "DeskBench" (111 : Nat) ({ cls := "DeskBench$Neighbours", name := "oweToFriendsBut", desc := "(II)V" } : Jvm.MethodName) ∈ bigW := bw 164 (by decide +kernel) (by decide +kernel)
set_option maxRecDepth 20000 in
theorem k165 : Cond.instanceMethod ({ cls := "DeskBench$Neighbours", name := "oweToFriendsBut", desc := "(II)V" } : Jvm.MethodName) ∈ bigW := bw 165 (by decide +kernel) (by decide +kernel)
set_option maxRecDepth 20000 in
theorem k166 : Cond.selects "DeskBench$Neighbours" ({ cls := "DeskBench$Neighbours", name := "oweToFriendsBut", desc := "(II)V" } : Jvm.MethodName) ({ cls := "DeskBench$Neighbours", name := "oweToFriendsBut", desc := "(II)V" } : Jvm.MethodName) ∈ bigW := bw 166 (by decide +kernel) (by decide +kernel)
set_option maxRecDepth 20000 in
theorem k167 : Cond.code ({ cls := "DeskBench$Neighbours", name := "oweToFriendsBut", desc := "(II)V" } : Jvm.MethodName) prog_4_method_12_code (4 : Nat) (Option.none : Option Jvm.ClassFile.FieldType) ∈ bigW := bw 167 (by decide +kernel) (by decide +kernel)
set_option maxRecDepth 20000 in
theorem k168 : Cond.methodLink "DeskBench$Neighbours" (49 : Nat) ({ cls := "DeskBench$Neighbours", name := "owe", desc := "(II)V" } : Jvm.MethodName) ∈ bigW := bw 168 (by decide +kernel) (by decide +kernel)
set_option maxRecDepth 20000 in
theorem k169 : Cond.instanceMethod ({ cls := "DeskBench$Neighbours", name := "owe", desc := "(II)V" } : Jvm.MethodName) ∈ bigW := bw 169 (by decide +kernel) (by decide +kernel)
set_option maxRecDepth 20000 in
theorem k170 : Cond.selects "DeskBench$Neighbours" ({ cls := "DeskBench$Neighbours", name := "owe", desc := "(II)V" } : Jvm.MethodName) ({ cls := "DeskBench$Neighbours", name := "owe", desc := "(II)V" } : Jvm.MethodName) ∈ bigW := bw 170 (by decide +kernel) (by decide +kernel)
set_option maxRecDepth 20000 in
theorem k171 : Cond.code ({ cls := "DeskBench$Neighbours", name := "owe", desc := "(II)V" } : Jvm.MethodName) prog_4_method_11_code (3 : Nat) (Option.none : Option Jvm.ClassFile.FieldType) ∈ bigW := bw 171 (by decide +kernel) (by decide +kernel)
set_option maxRecDepth 20000 in
theorem k176 : Cond.methodLink "DeskBench" (143 : Nat) ({ cls := "DeskBench", name := "makeGreeting", desc := "()Z" } : Jvm.MethodName) ∈ bigW := bw 176 (by decide +kernel) (by decide +kernel)
set_option maxRecDepth 20000 in
theorem k178 : Cond.instanceMethod ({ cls := "DeskBench", name := "makeGreeting", desc := "()Z" } : Jvm.MethodName) ∈ bigW := bw 178 (by decide +kernel) (by decide +kernel)
set_option maxRecDepth 20000 in
theorem k179 : Cond.code ({ cls := "DeskBench", name := "makeGreeting", desc := "()Z" } : Jvm.MethodName) prog_1_method_28_code (3 : Nat) (Option.some Jvm.ClassFile.FieldType.boolean) ∈ bigW := bw 179 (by decide +kernel) (by decide +kernel)
set_option maxRecDepth 20000 in
theorem k180 : Cond.methodLink "DeskBench" (198 : Nat) ({ cls := "DeskBench$Neighbours", name := "heardOn", desc := "(I)J" } : Jvm.MethodName) ∈ bigW := bw 180 (by decide +kernel) (by decide +kernel)
set_option maxRecDepth 20000 in
theorem k181 : Cond.instanceMethod ({ cls := "DeskBench$Neighbours", name := "heardOn", desc := "(I)J" } : Jvm.MethodName) ∈ bigW := bw 181 (by decide +kernel) (by decide +kernel)
set_option maxRecDepth 20000 in
theorem k182 : Cond.selects "DeskBench$Neighbours" ({ cls := "DeskBench$Neighbours", name := "heardOn", desc := "(I)J" } : Jvm.MethodName) ({ cls := "DeskBench$Neighbours", name := "heardOn", desc := "(I)J" } : Jvm.MethodName) ∈ bigW := bw 182 (by decide +kernel) (by decide +kernel)
set_option maxRecDepth 20000 in
theorem k183 : Cond.code ({ cls := "DeskBench$Neighbours", name := "heardOn", desc := "(I)J" } : Jvm.MethodName) prog_4_method_21_code (5 : Nat) (Option.some Jvm.ClassFile.FieldType.long) ∈ bigW := bw 183 (by decide +kernel) (by decide +kernel)
set_option maxRecDepth 20000 in
theorem k184 : Cond.methodLink "DeskBench" (202 : Nat) ({ cls := "DeskBench$Message", name := "makeGreeting", desc := "(IJ)V" } : Jvm.MethodName) ∈ bigW := bw 184 (by decide +kernel) (by decide +kernel)
set_option maxRecDepth 20000 in
theorem k185 : Cond.instanceMethod ({ cls := "DeskBench$Message", name := "makeGreeting", desc := "(IJ)V" } : Jvm.MethodName) ∈ bigW := bw 185 (by decide +kernel) (by decide +kernel)
set_option maxRecDepth 20000 in
theorem k186 : Cond.selects "DeskBench$Message" ({ cls := "DeskBench$Message", name := "makeGreeting", desc := "(IJ)V" } : Jvm.MethodName) ({ cls := "DeskBench$Message", name := "makeGreeting", desc := "(IJ)V" } : Jvm.MethodName) ∈ bigW := bw 186 (by decide +kernel) (by decide +kernel)
set_option maxRecDepth 20000 in
theorem k187 : Cond.code ({ cls := "DeskBench$Message", name := "makeGreeting", desc := "(IJ)V" } : Jvm.MethodName) prog_3_method_5_code (4 : Nat) (Option.none : Option Jvm.ClassFile.FieldType) ∈ bigW := bw 187 (by decide +kernel) (by decide +kernel)
set_option maxRecDepth 20000 in
theorem k188 : Cond.methodLink "DeskBench$Message" (19 : Nat) ({ cls := "DeskBench$Message", name := "address", desc := "(III)V" } : Jvm.MethodName) ∈ bigW := bw 188 (by decide +kernel) (by decide +kernel)
set_option maxRecDepth 20000 in
theorem k190 : Cond.instanceMethod ({ cls := "DeskBench$Message", name := "address", desc := "(III)V" } : Jvm.MethodName) ∈ bigW := bw 190 (by decide +kernel) (by decide +kernel)
set_option maxRecDepth 20000 in
theorem k191 : Cond.code ({ cls := "DeskBench$Message", name := "address", desc := "(III)V" } : Jvm.MethodName) prog_3_method_8_code (4 : Nat) (Option.none : Option Jvm.ClassFile.FieldType) ∈ bigW := bw 191 (by decide +kernel) (by decide +kernel)
set_option maxRecDepth 20000 in
theorem k192 : Cond.methodLink "DeskBench$Message" (23 : Nat) ({ cls := "DeskBench$Message", name := "fill", desc := "(III)V" } : Jvm.MethodName) ∈ bigW := bw 192 (by decide +kernel) (by decide +kernel)
set_option maxRecDepth 20000 in
theorem k194 : Cond.instanceMethod ({ cls := "DeskBench$Message", name := "fill", desc := "(III)V" } : Jvm.MethodName) ∈ bigW := bw 194 (by decide +kernel) (by decide +kernel)
set_option maxRecDepth 20000 in
theorem k195 : Cond.code ({ cls := "DeskBench$Message", name := "fill", desc := "(III)V" } : Jvm.MethodName) prog_3_method_9_code (4 : Nat) (Option.none : Option Jvm.ClassFile.FieldType) ∈ bigW := bw 195 (by decide +kernel) (by decide +kernel)
set_option maxRecDepth 20000 in
theorem k196 : Cond.methodLink "DeskBench" (147 : Nat) ({ cls := "DeskBench", name := "makeThanks", desc := "()Z" } : Jvm.MethodName) ∈ bigW := bw 196 (by decide +kernel) (by decide +kernel)
set_option maxRecDepth 20000 in
theorem k198 : Cond.instanceMethod ({ cls := "DeskBench", name := "makeThanks", desc := "()Z" } : Jvm.MethodName) ∈ bigW := bw 198 (by decide +kernel) (by decide +kernel)
set_option maxRecDepth 20000 in
theorem k199 : Cond.code ({ cls := "DeskBench", name := "makeThanks", desc := "()Z" } : Jvm.MethodName) prog_1_method_29_code (1 : Nat) (Option.some Jvm.ClassFile.FieldType.boolean) ∈ bigW := bw 199 (by decide +kernel) (by decide +kernel)
set_option maxRecDepth 20000 in
theorem k200 : Cond.methodLink "DeskBench" (205 : Nat) ({ cls := "DeskBench$ThanksQueue", name := "isEmpty", desc := "()Z" } : Jvm.MethodName) ∈ bigW := bw 200 (by decide +kernel) (by decide +kernel)
set_option maxRecDepth 20000 in
theorem k201 : Cond.instanceMethod ({ cls := "DeskBench$ThanksQueue", name := "isEmpty", desc := "()Z" } : Jvm.MethodName) ∈ bigW := bw 201 (by decide +kernel) (by decide +kernel)
set_option maxRecDepth 20000 in
theorem k202 : Cond.selects "DeskBench$ThanksQueue" ({ cls := "DeskBench$ThanksQueue", name := "isEmpty", desc := "()Z" } : Jvm.MethodName) ({ cls := "DeskBench$ThanksQueue", name := "isEmpty", desc := "()Z" } : Jvm.MethodName) ∈ bigW := bw 202 (by decide +kernel) (by decide +kernel)
set_option maxRecDepth 20000 in
theorem k203 : Cond.code ({ cls := "DeskBench$ThanksQueue", name := "isEmpty", desc := "()Z" } : Jvm.MethodName) prog_5_method_2_code (1 : Nat) (Option.some Jvm.ClassFile.FieldType.boolean) ∈ bigW := bw 203 (by decide +kernel) (by decide +kernel)
set_option maxRecDepth 20000 in
theorem k204 : Cond.methodLink "DeskBench" (208 : Nat) ({ cls := "DeskBench$ThanksQueue", name := "moveFirstTo", desc := "(LDeskBench$Message;)V" } : Jvm.MethodName) ∈ bigW := bw 204 (by decide +kernel) (by decide +kernel)
set_option maxRecDepth 20000 in
theorem k205 : Cond.instanceMethod ({ cls := "DeskBench$ThanksQueue", name := "moveFirstTo", desc := "(LDeskBench$Message;)V" } : Jvm.MethodName) ∈ bigW := bw 205 (by decide +kernel) (by decide +kernel)
set_option maxRecDepth 20000 in
theorem k206 : Cond.selects "DeskBench$ThanksQueue" ({ cls := "DeskBench$ThanksQueue", name := "moveFirstTo", desc := "(LDeskBench$Message;)V" } : Jvm.MethodName) ({ cls := "DeskBench$ThanksQueue", name := "moveFirstTo", desc := "(LDeskBench$Message;)V" } : Jvm.MethodName) ∈ bigW := bw 206 (by decide +kernel) (by decide +kernel)
set_option maxRecDepth 20000 in
theorem k207 : Cond.code ({ cls := "DeskBench$ThanksQueue", name := "moveFirstTo", desc := "(LDeskBench$Message;)V" } : Jvm.MethodName) prog_5_method_4_code (2 : Nat) (Option.none : Option Jvm.ClassFile.FieldType) ∈ bigW := bw 207 (by decide +kernel) (by decide +kernel)
set_option maxRecDepth 20000 in
theorem k208 : Cond.methodLink "DeskBench$ThanksQueue" (31 : Nat) ({ cls := "DeskBench$Message", name := "makeThanks", desc := "(IIII)V" } : Jvm.MethodName) ∈ bigW := bw 208 (by decide +kernel) (by decide +kernel)
set_option maxRecDepth 20000 in
theorem k209 : Cond.instanceMethod ({ cls := "DeskBench$Message", name := "makeThanks", desc := "(IIII)V" } : Jvm.MethodName) ∈ bigW := bw 209 (by decide +kernel) (by decide +kernel)
set_option maxRecDepth 20000 in
theorem k210 : Cond.selects "DeskBench$Message" ({ cls := "DeskBench$Message", name := "makeThanks", desc := "(IIII)V" } : Jvm.MethodName) ({ cls := "DeskBench$Message", name := "makeThanks", desc := "(IIII)V" } : Jvm.MethodName) ∈ bigW := bw 210 (by decide +kernel) (by decide +kernel)
set_option maxRecDepth 20000 in
theorem k211 : Cond.code ({ cls := "DeskBench$Message", name := "makeThanks", desc := "(IIII)V" } : Jvm.MethodName) prog_3_method_6_code (5 : Nat) (Option.none : Option Jvm.ClassFile.FieldType) ∈ bigW := bw 211 (by decide +kernel) (by decide +kernel)
set_option maxRecDepth 20000 in
theorem k212 : Cond.methodLink "DeskBench" (150 : Nat) ({ cls := "DeskBench", name := "makeAdvert", desc := "()Z" } : Jvm.MethodName) ∈ bigW := bw 212 (by decide +kernel) (by decide +kernel)
set_option maxRecDepth 20000 in
theorem k214 : Cond.instanceMethod ({ cls := "DeskBench", name := "makeAdvert", desc := "()Z" } : Jvm.MethodName) ∈ bigW := bw 214 (by decide +kernel) (by decide +kernel)
set_option maxRecDepth 20000 in
theorem k215 : Cond.code ({ cls := "DeskBench", name := "makeAdvert", desc := "()Z" } : Jvm.MethodName) prog_1_method_30_code (3 : Nat) (Option.some Jvm.ClassFile.FieldType.boolean) ∈ bigW := bw 215 (by decide +kernel) (by decide +kernel)
set_option maxRecDepth 20000 in
theorem k216 : Cond.methodLink "DeskBench" (212 : Nat) ({ cls := "DeskBench$Neighbours", name := "firstToServe", desc := "(I)I" } : Jvm.MethodName) ∈ bigW := bw 216 (by decide +kernel) (by decide +kernel)
set_option maxRecDepth 20000 in
theorem k217 : Cond.instanceMethod ({ cls := "DeskBench$Neighbours", name := "firstToServe", desc := "(I)I" } : Jvm.MethodName) ∈ bigW := bw 217 (by decide +kernel) (by decide +kernel)
set_option maxRecDepth 20000 in
theorem k218 : Cond.selects "DeskBench$Neighbours" ({ cls := "DeskBench$Neighbours", name := "firstToServe", desc := "(I)I" } : Jvm.MethodName) ({ cls := "DeskBench$Neighbours", name := "firstToServe", desc := "(I)I" } : Jvm.MethodName) ∈ bigW := bw 218 (by decide +kernel) (by decide +kernel)
set_option maxRecDepth 20000 in
theorem k219 : Cond.code ({ cls := "DeskBench$Neighbours", name := "firstToServe", desc := "(I)I" } : Jvm.MethodName) prog_4_method_18_code (6 : Nat) (Option.some Jvm.ClassFile.FieldType.int) ∈ bigW := bw 219 (by decide +kernel) (by decide +kernel)
set_option maxRecDepth 20000 in
theorem k220 : Cond.methodLink "DeskBench$Neighbours" (63 : Nat) ({ cls := "DeskBench$Neighbours", name := "firstToSend", desc := "(II)I" } : Jvm.MethodName) ∈ bigW := bw 220 (by decide +kernel) (by decide +kernel)
set_option maxRecDepth 20000 in
theorem k221 : Cond.instanceMethod ({ cls := "DeskBench$Neighbours", name := "firstToSend", desc := "(II)I" } : Jvm.MethodName) ∈ bigW := bw 221 (by decide +kernel) (by decide +kernel)
set_option maxRecDepth 20000 in
theorem k222 : Cond.selects "DeskBench$Neighbours" ({ cls := "DeskBench$Neighbours", name := "firstToSend", desc := "(II)I" } : Jvm.MethodName) ({ cls := "DeskBench$Neighbours", name := "firstToSend", desc := "(II)I" } : Jvm.MethodName) ∈ bigW := bw 222 (by decide +kernel) (by decide +kernel)
set_option maxRecDepth 20000 in
theorem k223 : Cond.code ({ cls := "DeskBench$Neighbours", name := "firstToSend", desc := "(II)I" } : Jvm.MethodName) prog_4_method_17_code (4 : Nat) (Option.some Jvm.ClassFile.FieldType.int) ∈ bigW := bw 223 (by decide +kernel) (by decide +kernel)
set_option maxRecDepth 20000 in
theorem k224 : Cond.methodLink "DeskBench$Neighbours" (59 : Nat) ({ cls := "DeskBench$Neighbours", name := "isToBeSent", desc := "(III)Z" } : Jvm.MethodName) ∈ bigW := bw 224 (by decide +kernel) (by decide +kernel)
set_option maxRecDepth 20000 in
theorem k226 : Cond.instanceMethod ({ cls := "DeskBench$Neighbours", name := "isToBeSent", desc := "(III)Z" } : Jvm.MethodName) ∈ bigW := bw 226 (by decide +kernel) (by decide +kernel)
set_option maxRecDepth 20000 in
theorem k227 : Cond.code ({ cls := "DeskBench$Neighbours", name := "isToBeSent", desc := "(III)Z" } : Jvm.MethodName) prog_4_method_16_code (6 : Nat) (Option.some Jvm.ClassFile.FieldType.boolean) ∈ bigW := bw 227 (by decide +kernel) (by decide +kernel)
set_option maxRecDepth 20000 in
theorem k228 : Cond.methodLink "DeskBench" (215 : Nat) ({ cls := "DeskBench$Neighbours", name := "firstToSend", desc := "(II)I" } : Jvm.MethodName) ∈ bigW := bw 228 (by decide +kernel) (by decide +kernel)
set_option maxRecDepth 20000 in
theorem k229 : Cond.methodLink "DeskBench" (218 : Nat) ({ cls := "DeskBench$Neighbours", name := "sent", desc := "(III)V" } : Jvm.MethodName) ∈ bigW := bw 229 (by decide +kernel) (by decide +kernel)
set_option maxRecDepth 20000 in
theorem k230 : Cond.instanceMethod ({ cls := "DeskBench$Neighbours", name := "sent", desc := "(III)V" } : Jvm.MethodName) ∈ bigW := bw 230 (by decide +kernel) (by decide +kernel)
set_option maxRecDepth 20000 in
theorem k231 : Cond.selects "DeskBench$Neighbours" ({ cls := "DeskBench$Neighbours", name := "sent", desc := "(III)V" } : Jvm.MethodName) ({ cls := "DeskBench$Neighbours", name := "sent", desc := "(III)V" } : Jvm.MethodName) ∈ bigW := bw 231 (by decide +kernel) (by decide +kernel)
set_option maxRecDepth 20000 in
theorem k232 : Cond.code ({ cls := "DeskBench$Neighbours", name := "sent", desc := "(III)V" } : Jvm.MethodName) prog_4_method_15_code (4 : Nat) (Option.none : Option Jvm.ClassFile.FieldType) ∈ bigW := bw 232 (by decide +kernel) (by decide +kernel)
set_option maxRecDepth 20000 in
theorem k233 : Cond.constantLong "DeskBench$Neighbours" (53 : Nat) (-1 : Int64) ∈ bigW := bw 233 (by decide +kernel) (by decide +kernel)
set_option maxRecDepth 20000 in
theorem k234 : Cond.methodLink "DeskBench" (221 : Nat) ({ cls := "DeskBench$Neighbours", name := "portAt", desc := "(I)I" } : Jvm.MethodName) ∈ bigW := bw 234 (by decide +kernel) (by decide +kernel)
set_option maxRecDepth 20000 in
theorem k235 : Cond.instanceMethod ({ cls := "DeskBench$Neighbours", name := "portAt", desc := "(I)I" } : Jvm.MethodName) ∈ bigW := bw 235 (by decide +kernel) (by decide +kernel)
set_option maxRecDepth 20000 in
theorem k236 : Cond.selects "DeskBench$Neighbours" ({ cls := "DeskBench$Neighbours", name := "portAt", desc := "(I)I" } : Jvm.MethodName) ({ cls := "DeskBench$Neighbours", name := "portAt", desc := "(I)I" } : Jvm.MethodName) ∈ bigW := bw 236 (by decide +kernel) (by decide +kernel)
set_option maxRecDepth 20000 in
theorem k237 : Cond.code ({ cls := "DeskBench$Neighbours", name := "portAt", desc := "(I)I" } : Jvm.MethodName) prog_4_method_19_code (2 : Nat) (Option.some Jvm.ClassFile.FieldType.int) ∈ bigW := bw 237 (by decide +kernel) (by decide +kernel)
set_option maxRecDepth 20000 in
theorem k238 : Cond.methodLink "DeskBench" (224 : Nat) ({ cls := "DeskBench$Neighbours", name := "routerAt", desc := "(I)I" } : Jvm.MethodName) ∈ bigW := bw 238 (by decide +kernel) (by decide +kernel)
set_option maxRecDepth 20000 in
theorem k239 : Cond.instanceMethod ({ cls := "DeskBench$Neighbours", name := "routerAt", desc := "(I)I" } : Jvm.MethodName) ∈ bigW := bw 239 (by decide +kernel) (by decide +kernel)
set_option maxRecDepth 20000 in
theorem k240 : Cond.selects "DeskBench$Neighbours" ({ cls := "DeskBench$Neighbours", name := "routerAt", desc := "(I)I" } : Jvm.MethodName) ({ cls := "DeskBench$Neighbours", name := "routerAt", desc := "(I)I" } : Jvm.MethodName) ∈ bigW := bw 240 (by decide +kernel) (by decide +kernel)
set_option maxRecDepth 20000 in
theorem k241 : Cond.code ({ cls := "DeskBench$Neighbours", name := "routerAt", desc := "(I)I" } : Jvm.MethodName) prog_4_method_20_code (2 : Nat) (Option.some Jvm.ClassFile.FieldType.int) ∈ bigW := bw 241 (by decide +kernel) (by decide +kernel)
set_option maxRecDepth 20000 in
theorem k242 : Cond.methodLink "DeskBench" (89 : Nat) ({ cls := "DeskBench$Adverts", name := "numberOf", desc := "(I)I" } : Jvm.MethodName) ∈ bigW := bw 242 (by decide +kernel) (by decide +kernel)
set_option maxRecDepth 20000 in
theorem k243 : Cond.instanceMethod ({ cls := "DeskBench$Adverts", name := "numberOf", desc := "(I)I" } : Jvm.MethodName) ∈ bigW := bw 243 (by decide +kernel) (by decide +kernel)
set_option maxRecDepth 20000 in
theorem k244 : Cond.selects "DeskBench$Adverts" ({ cls := "DeskBench$Adverts", name := "numberOf", desc := "(I)I" } : Jvm.MethodName) ({ cls := "DeskBench$Adverts", name := "numberOf", desc := "(I)I" } : Jvm.MethodName) ∈ bigW := bw 244 (by decide +kernel) (by decide +kernel)
set_option maxRecDepth 20000 in
theorem k245 : Cond.code ({ cls := "DeskBench$Adverts", name := "numberOf", desc := "(I)I" } : Jvm.MethodName) prog_2_method_3_code (2 : Nat) (Option.some Jvm.ClassFile.FieldType.int) ∈ bigW := bw 245 (by decide +kernel) (by decide +kernel)
set_option maxRecDepth 20000 in
theorem k246 : Cond.methodLink "DeskBench" (169 : Nat) ({ cls := "DeskBench$Adverts", name := "bodyOf", desc := "(I)I" } : Jvm.MethodName) ∈ bigW := bw 246 (by decide +kernel) (by decide +kernel)
set_option maxRecDepth 20000 in
theorem k247 : Cond.instanceMethod ({ cls := "DeskBench$Adverts", name := "bodyOf", desc := "(I)I" } : Jvm.MethodName) ∈ bigW := bw 247 (by decide +kernel) (by decide +kernel)
set_option maxRecDepth 20000 in
theorem k248 : Cond.selects "DeskBench$Adverts" ({ cls := "DeskBench$Adverts", name := "bodyOf", desc := "(I)I" } : Jvm.MethodName) ({ cls := "DeskBench$Adverts", name := "bodyOf", desc := "(I)I" } : Jvm.MethodName) ∈ bigW := bw 248 (by decide +kernel) (by decide +kernel)
set_option maxRecDepth 20000 in
theorem k249 : Cond.code ({ cls := "DeskBench$Adverts", name := "bodyOf", desc := "(I)I" } : Jvm.MethodName) prog_2_method_4_code (2 : Nat) (Option.some Jvm.ClassFile.FieldType.int) ∈ bigW := bw 249 (by decide +kernel) (by decide +kernel)
set_option maxRecDepth 20000 in
theorem k250 : Cond.methodLink "DeskBench" (227 : Nat) ({ cls := "DeskBench$Message", name := "makeAdvert", desc := "(IIIII)V" } : Jvm.MethodName) ∈ bigW := bw 250 (by decide +kernel) (by decide +kernel)
set_option maxRecDepth 20000 in
theorem k251 : Cond.instanceMethod ({ cls := "DeskBench$Message", name := "makeAdvert", desc := "(IIIII)V" } : Jvm.MethodName) ∈ bigW := bw 251 (by decide +kernel) (by decide +kernel)
set_option maxRecDepth 20000 in
theorem k252 : Cond.selects "DeskBench$Message" ({ cls := "DeskBench$Message", name := "makeAdvert", desc := "(IIIII)V" } : Jvm.MethodName) ({ cls := "DeskBench$Message", name := "makeAdvert", desc := "(IIIII)V" } : Jvm.MethodName) ∈ bigW := bw 252 (by decide +kernel) (by decide +kernel)
set_option maxRecDepth 20000 in
theorem k253 : Cond.code ({ cls := "DeskBench$Message", name := "makeAdvert", desc := "(IIIII)V" } : Jvm.MethodName) prog_3_method_7_code (6 : Nat) (Option.none : Option Jvm.ClassFile.FieldType) ∈ bigW := bw 253 (by decide +kernel) (by decide +kernel)
set_option maxRecDepth 20000 in
theorem k258 : Cond.methodLink "DeskBench" (163 : Nat) ({ cls := "DeskBench$Message", name := "namedRouters", desc := "()J" } : Jvm.MethodName) ∈ bigW := bw 258 (by decide +kernel) (by decide +kernel)
set_option maxRecDepth 20000 in
theorem k259 : Cond.instanceMethod ({ cls := "DeskBench$Message", name := "namedRouters", desc := "()J" } : Jvm.MethodName) ∈ bigW := bw 259 (by decide +kernel) (by decide +kernel)
set_option maxRecDepth 20000 in
theorem k260 : Cond.selects "DeskBench$Message" ({ cls := "DeskBench$Message", name := "namedRouters", desc := "()J" } : Jvm.MethodName) ({ cls := "DeskBench$Message", name := "namedRouters", desc := "()J" } : Jvm.MethodName) ∈ bigW := bw 260 (by decide +kernel) (by decide +kernel)
set_option maxRecDepth 20000 in
theorem k261 : Cond.code ({ cls := "DeskBench$Message", name := "namedRouters", desc := "()J" } : Jvm.MethodName) prog_3_method_4_code (1 : Nat) (Option.some Jvm.ClassFile.FieldType.long) ∈ bigW := bw 261 (by decide +kernel) (by decide +kernel)
set_option maxRecDepth 20000 in
theorem k266 : Cond.methodLink "DeskBench" (175 : Nat) ({ cls := "DeskBench$Neighbours", name := "atLeast", desc := "(I)I" } : Jvm.MethodName) ∈ bigW := bw 266 (by decide +kernel) (by decide +kernel)
set_option maxRecDepth 20000 in
theorem k267 : Cond.instanceMethod ({ cls := "DeskBench$Neighbours", name := "atLeast", desc := "(I)I" } : Jvm.MethodName) ∈ bigW := bw 267 (by decide +kernel) (by decide +kernel)
set_option maxRecDepth 20000 in
theorem k268 : Cond.selects "DeskBench$Neighbours" ({ cls := "DeskBench$Neighbours", name := "atLeast", desc := "(I)I" } : Jvm.MethodName) ({ cls := "DeskBench$Neighbours", name := "atLeast", desc := "(I)I" } : Jvm.MethodName) ∈ bigW := bw 268 (by decide +kernel) (by decide +kernel)
set_option maxRecDepth 20000 in
theorem k269 : Cond.code ({ cls := "DeskBench$Neighbours", name := "atLeast", desc := "(I)I" } : Jvm.MethodName) prog_4_method_24_code (4 : Nat) (Option.some Jvm.ClassFile.FieldType.int) ∈ bigW := bw 269 (by decide +kernel) (by decide +kernel)
set_option maxRecDepth 20000 in
theorem k280 : Cond.classLink "DeskBenchLaw" (13 : Nat) "java/lang/IllegalArgumentException" ∈ bigW := bw 280 (by decide +kernel) (by decide +kernel)
set_option maxRecDepth 20000 in
theorem k281 : Cond.methodLink "DeskBenchLaw" (7 : Nat) ({ cls := "DeskBench", name := "port", desc := "(IZ)Z" } : Jvm.MethodName) ∈ bigW := bw 281 (by decide +kernel) (by decide +kernel)
set_option maxRecDepth 20000 in
theorem k282 : Cond.instanceMethod ({ cls := "DeskBench", name := "port", desc := "(IZ)Z" } : Jvm.MethodName) ∈ bigW := bw 282 (by decide +kernel) (by decide +kernel)
set_option maxRecDepth 20000 in
theorem k283 : Cond.selects "DeskBench" ({ cls := "DeskBench", name := "port", desc := "(IZ)Z" } : Jvm.MethodName) ({ cls := "DeskBench", name := "port", desc := "(IZ)Z" } : Jvm.MethodName) ∈ bigW := bw 283 (by decide +kernel) (by decide +kernel)
set_option maxRecDepth 20000 in
theorem k284 : Cond.code ({ cls := "DeskBench", name := "port", desc := "(IZ)Z" } : Jvm.MethodName) prog_1_method_2_code (3 : Nat) (Option.some Jvm.ClassFile.FieldType.boolean) ∈ bigW := bw 284 (by decide +kernel) (by decide +kernel)
set_option maxRecDepth 20000 in
theorem k285 : Cond.methodLink "DeskBench" (41 : Nat) ({ cls := "DeskBench", name := "requirePort", desc := "(I)V" } : Jvm.MethodName) ∈ bigW := bw 285 (by decide +kernel) (by decide +kernel)
set_option maxRecDepth 20000 in
theorem k286 : Cond.static ({ cls := "DeskBench", name := "requirePort", desc := "(I)V" } : Jvm.MethodName) ∈ bigW := bw 286 (by decide +kernel) (by decide +kernel)
set_option maxRecDepth 20000 in
theorem k287 : Cond.code ({ cls := "DeskBench", name := "requirePort", desc := "(I)V" } : Jvm.MethodName) prog_1_method_20_code (1 : Nat) (Option.none : Option Jvm.ClassFile.FieldType) ∈ bigW := bw 287 (by decide +kernel) (by decide +kernel)
set_option maxRecDepth 20000 in
theorem k288 : Cond.classLink "DeskBench" (127 : Nat) "java/lang/IllegalArgumentException" ∈ bigW := bw 288 (by decide +kernel) (by decide +kernel)
set_option maxRecDepth 20000 in
theorem k355 : Cond.methodLink "DeskBench" (45 : Nat) ({ cls := "DeskBench", name := "isOn", desc := "(I)Z" } : Jvm.MethodName) ∈ bigW := bw 355 (by decide +kernel) (by decide +kernel)
set_option maxRecDepth 20000 in
theorem k357 : Cond.instanceMethod ({ cls := "DeskBench", name := "isOn", desc := "(I)Z" } : Jvm.MethodName) ∈ bigW := bw 357 (by decide +kernel) (by decide +kernel)
set_option maxRecDepth 20000 in
theorem k358 : Cond.code ({ cls := "DeskBench", name := "isOn", desc := "(I)Z" } : Jvm.MethodName) prog_1_method_25_code (2 : Nat) (Option.some Jvm.ClassFile.FieldType.boolean) ∈ bigW := bw 358 (by decide +kernel) (by decide +kernel)
set_option maxRecDepth 20000 in
theorem k359 : Cond.methodLink "DeskBench" (55 : Nat) ({ cls := "DeskBench$Neighbours", name := "dropPort", desc := "(I)V" } : Jvm.MethodName) ∈ bigW := bw 359 (by decide +kernel) (by decide +kernel)
set_option maxRecDepth 20000 in
theorem k360 : Cond.instanceMethod ({ cls := "DeskBench$Neighbours", name := "dropPort", desc := "(I)V" } : Jvm.MethodName) ∈ bigW := bw 360 (by decide +kernel) (by decide +kernel)
set_option maxRecDepth 20000 in
theorem k361 : Cond.selects "DeskBench$Neighbours" ({ cls := "DeskBench$Neighbours", name := "dropPort", desc := "(I)V" } : Jvm.MethodName) ({ cls := "DeskBench$Neighbours", name := "dropPort", desc := "(I)V" } : Jvm.MethodName) ∈ bigW := bw 361 (by decide +kernel) (by decide +kernel)
set_option maxRecDepth 20000 in
theorem k362 : Cond.code ({ cls := "DeskBench$Neighbours", name := "dropPort", desc := "(I)V" } : Jvm.MethodName) prog_4_method_9_code (3 : Nat) (Option.none : Option Jvm.ClassFile.FieldType) ∈ bigW := bw 362 (by decide +kernel) (by decide +kernel)
set_option maxRecDepth 20000 in
theorem k363 : Cond.methodLink "DeskBench$Neighbours" (45 : Nat) ({ cls := "DeskBench$Neighbours", name := "drop", desc := "(I)V" } : Jvm.MethodName) ∈ bigW := bw 363 (by decide +kernel) (by decide +kernel)
set_option maxRecDepth 20000 in
theorem k365 : Cond.instanceMethod ({ cls := "DeskBench$Neighbours", name := "drop", desc := "(I)V" } : Jvm.MethodName) ∈ bigW := bw 365 (by decide +kernel) (by decide +kernel)
set_option maxRecDepth 20000 in
theorem k366 : Cond.code ({ cls := "DeskBench$Neighbours", name := "drop", desc := "(I)V" } : Jvm.MethodName) prog_4_method_8_code (2 : Nat) (Option.none : Option Jvm.ClassFile.FieldType) ∈ bigW := bw 366 (by decide +kernel) (by decide +kernel)
set_option maxRecDepth 20000 in
theorem k367 : Cond.methodLink "DeskBench$Neighbours" (41 : Nat) ({ cls := "DeskBench$Neighbours", name := "oweExactly", desc := "(IJ)V" } : Jvm.MethodName) ∈ bigW := bw 367 (by decide +kernel) (by decide +kernel)
set_option maxRecDepth 20000 in
theorem k369 : Cond.instanceMethod ({ cls := "DeskBench$Neighbours", name := "oweExactly", desc := "(IJ)V" } : Jvm.MethodName) ∈ bigW := bw 369 (by decide +kernel) (by decide +kernel)
set_option maxRecDepth 20000 in
theorem k370 : Cond.code ({ cls := "DeskBench$Neighbours", name := "oweExactly", desc := "(IJ)V" } : Jvm.MethodName) prog_4_method_7_code (4 : Nat) (Option.none : Option Jvm.ClassFile.FieldType) ∈ bigW := bw 370 (by decide +kernel) (by decide +kernel)
set_option maxRecDepth 20000 in
theorem k374 : Cond.classLink "DeskBenchLaw" (19 : Nat) "java/lang/IllegalStateException" ∈ bigW := bw 374 (by decide +kernel) (by decide +kernel)
set_option maxRecDepth 20000 in
theorem k375 : Cond.methodLink "DeskBenchLaw" (15 : Nat) ({ cls := "DeskBench", name := "greeting", desc := "(IIZ)I" } : Jvm.MethodName) ∈ bigW := bw 375 (by decide +kernel) (by decide +kernel)
set_option maxRecDepth 20000 in
theorem k376 : Cond.instanceMethod ({ cls := "DeskBench", name := "greeting", desc := "(IIZ)I" } : Jvm.MethodName) ∈ bigW := bw 376 (by decide +kernel) (by decide +kernel)
set_option maxRecDepth 20000 in
theorem k377 : Cond.selects "DeskBench" ({ cls := "DeskBench", name := "greeting", desc := "(IIZ)I" } : Jvm.MethodName) ({ cls := "DeskBench", name := "greeting", desc := "(IIZ)I" } : Jvm.MethodName) ∈ bigW := bw 377 (by decide +kernel) (by decide +kernel)
set_option maxRecDepth 20000 in
theorem k378 : Cond.code ({ cls := "DeskBench", name := "greeting", desc := "(IIZ)I" } : Jvm.MethodName) prog_1_method_3_code (5 : Nat) (Option.some Jvm.ClassFile.FieldType.int) ∈ bigW := bw 378 (by decide +kernel) (by decide +kernel)
set_option maxRecDepth 20000 in
theorem k379 : Cond.methodLink "DeskBench" (58 : Nat) ({ cls := "DeskBench", name := "requireSender", desc := "(I)V" } : Jvm.MethodName) ∈ bigW := bw 379 (by decide +kernel) (by decide +kernel)
set_option maxRecDepth 20000 in
theorem k381 : Cond.instanceMethod ({ cls := "DeskBench", name := "requireSender", desc := "(I)V" } : Jvm.MethodName) ∈ bigW := bw 381 (by decide +kernel) (by decide +kernel)
set_option maxRecDepth 20000 in
theorem k382 : Cond.code ({ cls := "DeskBench", name := "requireSender", desc := "(I)V" } : Jvm.MethodName) prog_1_method_22_code (2 : Nat) (Option.none : Option Jvm.ClassFile.FieldType) ∈ bigW := bw 382 (by decide +kernel) (by decide +kernel)
set_option maxRecDepth 20000 in
theorem k383 : Cond.methodLink "DeskBench" (178 : Nat) ({ cls := "DeskBench", name := "isRouter", desc := "(I)Z" } : Jvm.MethodName) ∈ bigW := bw 383 (by decide +kernel) (by decide +kernel)
set_option maxRecDepth 20000 in
theorem k384 : Cond.static ({ cls := "DeskBench", name := "isRouter", desc := "(I)Z" } : Jvm.MethodName) ∈ bigW := bw 384 (by decide +kernel) (by decide +kernel)
set_option maxRecDepth 20000 in
theorem k385 : Cond.code ({ cls := "DeskBench", name := "isRouter", desc := "(I)Z" } : Jvm.MethodName) prog_1_method_18_code (1 : Nat) (Option.some Jvm.ClassFile.FieldType.boolean) ∈ bigW := bw 385 (by decide +kernel) (by decide +kernel)
set_option maxRecDepth 20000 in
theorem k387 : Cond.methodLink "DeskBench" (61 : Nat) ({ cls := "DeskBench", name := "requireOn", desc := "(I)V" } : Jvm.MethodName) ∈ bigW := bw 387 (by decide +kernel) (by decide +kernel)
set_option maxRecDepth 20000 in
theorem k389 : Cond.instanceMethod ({ cls := "DeskBench", name := "requireOn", desc := "(I)V" } : Jvm.MethodName) ∈ bigW := bw 389 (by decide +kernel) (by decide +kernel)
set_option maxRecDepth 20000 in
theorem k390 : Cond.code ({ cls := "DeskBench", name := "requireOn", desc := "(I)V" } : Jvm.MethodName) prog_1_method_23_code (2 : Nat) (Option.none : Option Jvm.ClassFile.FieldType) ∈ bigW := bw 390 (by decide +kernel) (by decide +kernel)
set_option maxRecDepth 20000 in
theorem k391 : Cond.classLink "DeskBench" (135 : Nat) "java/lang/IllegalStateException" ∈ bigW := bw 391 (by decide +kernel) (by decide +kernel)
set_option maxRecDepth 20000 in
theorem k407 : Cond.methodLink "DeskBench" (64 : Nat) ({ cls := "DeskBench$Neighbours", name := "placeFor", desc := "(II)I" } : Jvm.MethodName) ∈ bigW := bw 407 (by decide +kernel) (by decide +kernel)
set_option maxRecDepth 20000 in
theorem k408 : Cond.instanceMethod ({ cls := "DeskBench$Neighbours", name := "placeFor", desc := "(II)I" } : Jvm.MethodName) ∈ bigW := bw 408 (by decide +kernel) (by decide +kernel)
set_option maxRecDepth 20000 in
theorem k409 : Cond.selects "DeskBench$Neighbours" ({ cls := "DeskBench$Neighbours", name := "placeFor", desc := "(II)I" } : Jvm.MethodName) ({ cls := "DeskBench$Neighbours", name := "placeFor", desc := "(II)I" } : Jvm.MethodName) ∈ bigW := bw 409 (by decide +kernel) (by decide +kernel)
set_option maxRecDepth 20000 in
theorem k410 : Cond.code ({ cls := "DeskBench$Neighbours", name := "placeFor", desc := "(II)I" } : Jvm.MethodName) prog_4_method_4_code (4 : Nat) (Option.some Jvm.ClassFile.FieldType.int) ∈ bigW := bw 410 (by decide +kernel) (by decide +kernel)
set_option maxRecDepth 20000 in
theorem k411 : Cond.methodLink "DeskBench$Neighbours" (34 : Nat) ({ cls := "DeskBench$Neighbours", name := "heardPlace", desc := "(II)I" } : Jvm.MethodName) ∈ bigW := bw 411 (by decide +kernel) (by decide +kernel)
set_option maxRecDepth 20000 in
theorem k413 : Cond.instanceMethod ({ cls := "DeskBench$Neighbours", name := "heardPlace", desc := "(II)I" } : Jvm.MethodName) ∈ bigW := bw 413 (by decide +kernel) (by decide +kernel)
set_option maxRecDepth 20000 in
theorem k414 : Cond.code ({ cls := "DeskBench$Neighbours", name := "heardPlace", desc := "(II)I" } : Jvm.MethodName) prog_4_method_2_code (4 : Nat) (Option.some Jvm.ClassFile.FieldType.int) ∈ bigW := bw 414 (by decide +kernel) (by decide +kernel)
set_option maxRecDepth 20000 in
theorem k415 : Cond.methodLink "DeskBench$Neighbours" (38 : Nat) ({ cls := "DeskBench$Neighbours", name := "takeFreePlace", desc := "(II)I" } : Jvm.MethodName) ∈ bigW := bw 415 (by decide +kernel) (by decide +kernel)
set_option maxRecDepth 20000 in
theorem k417 : Cond.instanceMethod ({ cls := "DeskBench$Neighbours", name := "takeFreePlace", desc := "(II)I" } : Jvm.MethodName) ∈ bigW := bw 417 (by decide +kernel) (by decide +kernel)
set_option maxRecDepth 20000 in
theorem k418 : Cond.code ({ cls := "DeskBench$Neighbours", name := "takeFreePlace", desc := "(II)I" } : Jvm.MethodName) prog_4_method_5_code (4 : Nat) (Option.some Jvm.ClassFile.FieldType.int) ∈ bigW := bw 418 (by decide +kernel) (by decide +kernel)
set_option maxRecDepth 20000 in
theorem k419 : Cond.methodLink "DeskBench" (71 : Nat) ({ cls := "DeskBench$Adverts", name := "allOrigins", desc := "()J" } : Jvm.MethodName) ∈ bigW := bw 419 (by decide +kernel) (by decide +kernel)
set_option maxRecDepth 20000 in
theorem k420 : Cond.instanceMethod ({ cls := "DeskBench$Adverts", name := "allOrigins", desc := "()J" } : Jvm.MethodName) ∈ bigW := bw 420 (by decide +kernel) (by decide +kernel)
set_option maxRecDepth 20000 in
theorem k421 : Cond.selects "DeskBench$Adverts" ({ cls := "DeskBench$Adverts", name := "allOrigins", desc := "()J" } : Jvm.MethodName) ({ cls := "DeskBench$Adverts", name := "allOrigins", desc := "()J" } : Jvm.MethodName) ∈ bigW := bw 421 (by decide +kernel) (by decide +kernel)
set_option maxRecDepth 20000 in
theorem k422 : Cond.code ({ cls := "DeskBench$Adverts", name := "allOrigins", desc := "()J" } : Jvm.MethodName) prog_2_method_7_code (4 : Nat) (Option.some Jvm.ClassFile.FieldType.long) ∈ bigW := bw 422 (by decide +kernel) (by decide +kernel)
set_option maxRecDepth 20000 in
theorem k423 : Cond.methodLink "DeskBench" (75 : Nat) ({ cls := "DeskBench$Neighbours", name := "greeted", desc := "(IIZJ)I" } : Jvm.MethodName) ∈ bigW := bw 423 (by decide +kernel) (by decide +kernel)
set_option maxRecDepth 20000 in
theorem k424 : Cond.instanceMethod ({ cls := "DeskBench$Neighbours", name := "greeted", desc := "(IIZJ)I" } : Jvm.MethodName) ∈ bigW := bw 424 (by decide +kernel) (by decide +kernel)
set_option maxRecDepth 20000 in
theorem k425 : Cond.selects "DeskBench$Neighbours" ({ cls := "DeskBench$Neighbours", name := "greeted", desc := "(IIZJ)I" } : Jvm.MethodName) ({ cls := "DeskBench$Neighbours", name := "greeted", desc := "(IIZJ)I" } : Jvm.MethodName) ∈ bigW := bw 425 (by decide +kernel) (by decide +kernel)
set_option maxRecDepth 20000 in
theorem k426 : Cond.code ({ cls := "DeskBench$Neighbours", name := "greeted", desc := "(IIZJ)I" } : Jvm.MethodName) prog_4_method_6_code (6 : Nat) (Option.some Jvm.ClassFile.FieldType.int) ∈ bigW := bw 426 (by decide +kernel) (by decide +kernel)
set_option maxRecDepth 20000 in
theorem k430 : Cond.methodLink "DeskBenchLaw" (21 : Nat) ({ cls := "DeskBench", name := "advert", desc := "(IIIII)I" } : Jvm.MethodName) ∈ bigW := bw 430 (by decide +kernel) (by decide +kernel)
set_option maxRecDepth 20000 in
theorem k431 : Cond.instanceMethod ({ cls := "DeskBench", name := "advert", desc := "(IIIII)I" } : Jvm.MethodName) ∈ bigW := bw 431 (by decide +kernel) (by decide +kernel)
set_option maxRecDepth 20000 in
theorem k432 : Cond.selects "DeskBench" ({ cls := "DeskBench", name := "advert", desc := "(IIIII)I" } : Jvm.MethodName) ({ cls := "DeskBench", name := "advert", desc := "(IIIII)I" } : Jvm.MethodName) ∈ bigW := bw 432 (by decide +kernel) (by decide +kernel)
set_option maxRecDepth 20000 in
theorem k433 : Cond.code ({ cls := "DeskBench", name := "advert", desc := "(IIIII)I" } : Jvm.MethodName) prog_1_method_4_code (7 : Nat) (Option.some Jvm.ClassFile.FieldType.int) ∈ bigW := bw 433 (by decide +kernel) (by decide +kernel)
set_option maxRecDepth 20000 in
theorem k434 : Cond.methodLink "DeskBench" (79 : Nat) ({ cls := "DeskBench", name := "requireLegal", desc := "(IIII)V" } : Jvm.MethodName) ∈ bigW := bw 434 (by decide +kernel) (by decide +kernel)
set_option maxRecDepth 20000 in
theorem k436 : Cond.instanceMethod ({ cls := "DeskBench", name := "requireLegal", desc := "(IIII)V" } : Jvm.MethodName) ∈ bigW := bw 436 (by decide +kernel) (by decide +kernel)
set_option maxRecDepth 20000 in
theorem k437 : Cond.code ({ cls := "DeskBench", name := "requireLegal", desc := "(IIII)V" } : Jvm.MethodName) prog_1_method_24_code (5 : Nat) (Option.none : Option Jvm.ClassFile.FieldType) ∈ bigW := bw 437 (by decide +kernel) (by decide +kernel)
set_option maxRecDepth 20000 in
theorem k438 : Cond.methodLink "DeskBench" (115 : Nat) ({ cls := "DeskBench", name := "requireRouter", desc := "(I)V" } : Jvm.MethodName) ∈ bigW := bw 438 (by decide +kernel) (by decide +kernel)
set_option maxRecDepth 20000 in
theorem k439 : Cond.static ({ cls := "DeskBench", name := "requireRouter", desc := "(I)V" } : Jvm.MethodName) ∈ bigW := bw 439 (by decide +kernel) (by decide +kernel)
set_option maxRecDepth 20000 in
theorem k440 : Cond.code ({ cls := "DeskBench", name := "requireRouter", desc := "(I)V" } : Jvm.MethodName) prog_1_method_19_code (1 : Nat) (Option.none : Option Jvm.ClassFile.FieldType) ∈ bigW := bw 440 (by decide +kernel) (by decide +kernel)
set_option maxRecDepth 20000 in
theorem k442 : Cond.methodLink "DeskBench" (192 : Nat) ({ cls := "DeskBench", name := "requireNumber", desc := "(I)V" } : Jvm.MethodName) ∈ bigW := bw 442 (by decide +kernel) (by decide +kernel)
set_option maxRecDepth 20000 in
theorem k443 : Cond.static ({ cls := "DeskBench", name := "requireNumber", desc := "(I)V" } : Jvm.MethodName) ∈ bigW := bw 443 (by decide +kernel) (by decide +kernel)
set_option maxRecDepth 20000 in
theorem k444 : Cond.code ({ cls := "DeskBench", name := "requireNumber", desc := "(I)V" } : Jvm.MethodName) prog_1_method_21_code (1 : Nat) (Option.none : Option Jvm.ClassFile.FieldType) ∈ bigW := bw 444 (by decide +kernel) (by decide +kernel)
set_option maxRecDepth 20000 in
theorem k445 : Cond.constant "DeskBench" (185 : Nat) (1000000000 : Int32) ∈ bigW := bw 445 (by decide +kernel) (by decide +kernel)
set_option maxRecDepth 20000 in
theorem k447 : Cond.methodLink "DeskBench" (83 : Nat) ({ cls := "DeskBench$Neighbours", name := "friendPlace", desc := "(II)I" } : Jvm.MethodName) ∈ bigW := bw 447 (by decide +kernel) (by decide +kernel)
set_option maxRecDepth 20000 in
theorem k448 : Cond.instanceMethod ({ cls := "DeskBench$Neighbours", name := "friendPlace", desc := "(II)I" } : Jvm.MethodName) ∈ bigW := bw 448 (by decide +kernel) (by decide +kernel)
set_option maxRecDepth 20000 in
theorem k449 : Cond.selects "DeskBench$Neighbours" ({ cls := "DeskBench$Neighbours", name := "friendPlace", desc := "(II)I" } : Jvm.MethodName) ({ cls := "DeskBench$Neighbours", name := "friendPlace", desc := "(II)I" } : Jvm.MethodName) ∈ bigW := bw 449 (by decide +kernel) (by decide +kernel)
set_option maxRecDepth 20000 in
theorem k450 : Cond.code ({ cls := "DeskBench$Neighbours", name := "friendPlace", desc := "(II)I" } : Jvm.MethodName) prog_4_method_3_code (4 : Nat) (Option.some Jvm.ClassFile.FieldType.int) ∈ bigW := bw 450 (by decide +kernel) (by decide +kernel)
set_option maxRecDepth 20000 in
theorem k451 : Cond.methodLink "DeskBench" (86 : Nat) ({ cls := "DeskBench$ThanksQueue", name := "add", desc := "(IIII)V" } : Jvm.MethodName) ∈ bigW := bw 451 (by decide +kernel) (by decide +kernel)
set_option maxRecDepth 20000 in
theorem k452 : Cond.instanceMethod ({ cls := "DeskBench$ThanksQueue", name := "add", desc := "(IIII)V" } : Jvm.MethodName) ∈ bigW := bw 452 (by decide +kernel) (by decide +kernel)
set_option maxRecDepth 20000 in
theorem k453 : Cond.selects "DeskBench$ThanksQueue" ({ cls := "DeskBench$ThanksQueue", name := "add", desc := "(IIII)V" } : Jvm.MethodName) ({ cls := "DeskBench$ThanksQueue", name := "add", desc := "(IIII)V" } : Jvm.MethodName) ∈ bigW := bw 453 (by decide +kernel) (by decide +kernel)
set_option maxRecDepth 20000 in
theorem k454 : Cond.code ({ cls := "DeskBench$ThanksQueue", name := "add", desc := "(IIII)V" } : Jvm.MethodName) prog_5_method_3_code (6 : Nat) (Option.none : Option Jvm.ClassFile.FieldType) ∈ bigW := bw 454 (by decide +kernel) (by decide +kernel)
set_option maxRecDepth 20000 in
theorem k455 : Cond.methodLink "DeskBench" (93 : Nat) ({ cls := "DeskBench$Neighbours", name := "settle", desc := "(II)Z" } : Jvm.MethodName) ∈ bigW := bw 455 (by decide +kernel) (by decide +kernel)
set_option maxRecDepth 20000 in
theorem k456 : Cond.instanceMethod ({ cls := "DeskBench$Neighbours", name := "settle", desc := "(II)Z" } : Jvm.MethodName) ∈ bigW := bw 456 (by decide +kernel) (by decide +kernel)
set_option maxRecDepth 20000 in
theorem k457 : Cond.selects "DeskBench$Neighbours" ({ cls := "DeskBench$Neighbours", name := "settle", desc := "(II)Z" } : Jvm.MethodName) ({ cls := "DeskBench$Neighbours", name := "settle", desc := "(II)Z" } : Jvm.MethodName) ∈ bigW := bw 457 (by decide +kernel) (by decide +kernel)
set_option maxRecDepth 20000 in
theorem k458 : Cond.code ({ cls := "DeskBench$Neighbours", name := "settle", desc := "(II)Z" } : Jvm.MethodName) prog_4_method_13_code (6 : Nat) (Option.some Jvm.ClassFile.FieldType.boolean) ∈ bigW := bw 458 (by decide +kernel) (by decide +kernel)
set_option maxRecDepth 20000 in
theorem k459 : Cond.methodLink "DeskBench" (97 : Nat) ({ cls := "DeskBench", name := "takeOwnBack", desc := "(II)I" } : Jvm.MethodName) ∈ bigW := bw 459 (by decide +kernel) (by decide +kernel)
set_option maxRecDepth 20000 in
theorem k461 : Cond.instanceMethod ({ cls := "DeskBench", name := "takeOwnBack", desc := "(II)I" } : Jvm.MethodName) ∈ bigW := bw 461 (by decide +kernel) (by decide +kernel)
set_option maxRecDepth 20000 in
theorem k462 : Cond.code ({ cls := "DeskBench", name := "takeOwnBack", desc := "(II)I" } : Jvm.MethodName) prog_1_method_26_code (3 : Nat) (Option.some Jvm.ClassFile.FieldType.int) ∈ bigW := bw 462 (by decide +kernel) (by decide +kernel)
set_option maxRecDepth 20000 in
theorem k463 : Cond.methodLink "DeskBench" (195 : Nat) ({ cls := "DeskBench$Neighbours", name := "owe", desc := "(II)V" } : Jvm.MethodName) ∈ bigW := bw 463 (by decide +kernel) (by decide +kernel)
set_option maxRecDepth 20000 in
theorem k464 : Cond.methodLink "DeskBench" (100 : Nat) ({ cls := "DeskBench", name := "takeAdvert", desc := "(IIII)I" } : Jvm.MethodName) ∈ bigW := bw 464 (by decide +kernel) (by decide +kernel)
set_option maxRecDepth 20000 in
theorem k466 : Cond.instanceMethod ({ cls := "DeskBench", name := "takeAdvert", desc := "(IIII)I" } : Jvm.MethodName) ∈ bigW := bw 466 (by decide +kernel) (by decide +kernel)
set_option maxRecDepth 20000 in
theorem k467 : Cond.code ({ cls := "DeskBench", name := "takeAdvert", desc := "(IIII)I" } : Jvm.MethodName) prog_1_method_27_code (6 : Nat) (Option.some Jvm.ClassFile.FieldType.int) ∈ bigW := bw 467 (by decide +kernel) (by decide +kernel)
set_option maxRecDepth 20000 in
theorem k471 : Cond.methodLink "DeskBenchLaw" (25 : Nat) ({ cls := "DeskBench", name := "thanks", desc := "(IIII)Z" } : Jvm.MethodName) ∈ bigW := bw 471 (by decide +kernel) (by decide +kernel)
set_option maxRecDepth 20000 in
theorem k472 : Cond.instanceMethod ({ cls := "DeskBench", name := "thanks", desc := "(IIII)Z" } : Jvm.MethodName) ∈ bigW := bw 472 (by decide +kernel) (by decide +kernel)
set_option maxRecDepth 20000 in
theorem k473 : Cond.selects "DeskBench" ({ cls := "DeskBench", name := "thanks", desc := "(IIII)Z" } : Jvm.MethodName) ({ cls := "DeskBench", name := "thanks", desc := "(IIII)Z" } : Jvm.MethodName) ∈ bigW := bw 473 (by decide +kernel) (by decide +kernel)
set_option maxRecDepth 20000 in
theorem k474 : Cond.code ({ cls := "DeskBench", name := "thanks", desc := "(IIII)Z" } : Jvm.MethodName) prog_1_method_5_code (6 : Nat) (Option.some Jvm.ClassFile.FieldType.boolean) ∈ bigW := bw 474 (by decide +kernel) (by decide +kernel)
set_option maxRecDepth 20000 in
theorem k478 : Cond.methodLink "DeskBenchLaw" (29 : Nat) ({ cls := "DeskBench", name := "forget", desc := "(I)Z" } : Jvm.MethodName) ∈ bigW := bw 478 (by decide +kernel) (by decide +kernel)
set_option maxRecDepth 20000 in
theorem k479 : Cond.instanceMethod ({ cls := "DeskBench", name := "forget", desc := "(I)Z" } : Jvm.MethodName) ∈ bigW := bw 479 (by decide +kernel) (by decide +kernel)
set_option maxRecDepth 20000 in
theorem k480 : Cond.selects "DeskBench" ({ cls := "DeskBench", name := "forget", desc := "(I)Z" } : Jvm.MethodName) ({ cls := "DeskBench", name := "forget", desc := "(I)Z" } : Jvm.MethodName) ∈ bigW := bw 480 (by decide +kernel) (by decide +kernel)
set_option maxRecDepth 20000 in
theorem k481 : Cond.code ({ cls := "DeskBench", name := "forget", desc := "(I)Z" } : Jvm.MethodName) prog_1_method_7_code (2 : Nat) (Option.some Jvm.ClassFile.FieldType.boolean) ∈ bigW := bw 481 (by decide +kernel) (by decide +kernel)
set_option maxRecDepth 20000 in
theorem k482 : Cond.methodLink "DeskBench" (118 : Nat) ({ cls := "DeskBench$Adverts", name := "has", desc := "(I)Z" } : Jvm.MethodName) ∈ bigW := bw 482 (by decide +kernel) (by decide +kernel)
set_option maxRecDepth 20000 in
theorem k483 : Cond.instanceMethod ({ cls := "DeskBench$Adverts", name := "has", desc := "(I)Z" } : Jvm.MethodName) ∈ bigW := bw 483 (by decide +kernel) (by decide +kernel)
set_option maxRecDepth 20000 in
theorem k484 : Cond.selects "DeskBench$Adverts" ({ cls := "DeskBench$Adverts", name := "has", desc := "(I)Z" } : Jvm.MethodName) ({ cls := "DeskBench$Adverts", name := "has", desc := "(I)Z" } : Jvm.MethodName) ∈ bigW := bw 484 (by decide +kernel) (by decide +kernel)
set_option maxRecDepth 20000 in
theorem k485 : Cond.code ({ cls := "DeskBench$Adverts", name := "has", desc := "(I)Z" } : Jvm.MethodName) prog_2_method_2_code (2 : Nat) (Option.some Jvm.ClassFile.FieldType.boolean) ∈ bigW := bw 485 (by decide +kernel) (by decide +kernel)
set_option maxRecDepth 20000 in
theorem k486 : Cond.methodLink "DeskBench" (121 : Nat) ({ cls := "DeskBench$Adverts", name := "remove", desc := "(I)V" } : Jvm.MethodName) ∈ bigW := bw 486 (by decide +kernel) (by decide +kernel)
set_option maxRecDepth 20000 in
theorem k487 : Cond.instanceMethod ({ cls := "DeskBench$Adverts", name := "remove", desc := "(I)V" } : Jvm.MethodName) ∈ bigW := bw 487 (by decide +kernel) (by decide +kernel)
set_option maxRecDepth 20000 in
theorem k488 : Cond.selects "DeskBench$Adverts" ({ cls := "DeskBench$Adverts", name := "remove", desc := "(I)V" } : Jvm.MethodName) ({ cls := "DeskBench$Adverts", name := "remove", desc := "(I)V" } : Jvm.MethodName) ∈ bigW := bw 488 (by decide +kernel) (by decide +kernel)
set_option maxRecDepth 20000 in
theorem k489 : Cond.code ({ cls := "DeskBench$Adverts", name := "remove", desc := "(I)V" } : Jvm.MethodName) prog_2_method_6_code (2 : Nat) (Option.none : Option Jvm.ClassFile.FieldType) ∈ bigW := bw 489 (by decide +kernel) (by decide +kernel)
set_option maxRecDepth 20000 in
theorem k490 : Cond.methodLink "DeskBench$Adverts" (18 : Nat) ({ cls := "DeskBench$Adverts", name := "put", desc := "(III)V" } : Jvm.MethodName) ∈ bigW := bw 490 (by decide +kernel) (by decide +kernel)
set_option maxRecDepth 20000 in
theorem k491 : Cond.methodLink "DeskBench" (124 : Nat) ({ cls := "DeskBench$Neighbours", name := "settleAll", desc := "(I)V" } : Jvm.MethodName) ∈ bigW := bw 491 (by decide +kernel) (by decide +kernel)
set_option maxRecDepth 20000 in
theorem k492 : Cond.instanceMethod ({ cls := "DeskBench$Neighbours", name := "settleAll", desc := "(I)V" } : Jvm.MethodName) ∈ bigW := bw 492 (by decide +kernel) (by decide +kernel)
set_option maxRecDepth 20000 in
theorem k493 : Cond.selects "DeskBench$Neighbours" ({ cls := "DeskBench$Neighbours", name := "settleAll", desc := "(I)V" } : Jvm.MethodName) ({ cls := "DeskBench$Neighbours", name := "settleAll", desc := "(I)V" } : Jvm.MethodName) ∈ bigW := bw 493 (by decide +kernel) (by decide +kernel)
set_option maxRecDepth 20000 in
theorem k494 : Cond.code ({ cls := "DeskBench$Neighbours", name := "settleAll", desc := "(I)V" } : Jvm.MethodName) prog_4_method_14_code (3 : Nat) (Option.none : Option Jvm.ClassFile.FieldType) ∈ bigW := bw 494 (by decide +kernel) (by decide +kernel)
set_option maxRecDepth 20000 in
theorem k495 : Cond.methodLink "DeskBench$Neighbours" (55 : Nat) ({ cls := "DeskBench$Neighbours", name := "settle", desc := "(II)Z" } : Jvm.MethodName) ∈ bigW := bw 495 (by decide +kernel) (by decide +kernel)
set_option maxRecDepth 20000 in
theorem k499 : Cond.methodLink "DeskBenchLaw" (33 : Nat) ({ cls := "DeskBench", name := "run", desc := "(I)I" } : Jvm.MethodName) ∈ bigW := bw 499 (by decide +kernel) (by decide +kernel)
set_option maxRecDepth 20000 in
theorem k500 : Cond.instanceMethod ({ cls := "DeskBench", name := "run", desc := "(I)I" } : Jvm.MethodName) ∈ bigW := bw 500 (by decide +kernel) (by decide +kernel)
set_option maxRecDepth 20000 in
theorem k501 : Cond.selects "DeskBench" ({ cls := "DeskBench", name := "run", desc := "(I)I" } : Jvm.MethodName) ({ cls := "DeskBench", name := "run", desc := "(I)I" } : Jvm.MethodName) ∈ bigW := bw 501 (by decide +kernel) (by decide +kernel)
set_option maxRecDepth 20000 in
theorem k502 : Cond.code ({ cls := "DeskBench", name := "run", desc := "(I)I" } : Jvm.MethodName) prog_1_method_8_code (3 : Nat) (Option.some Jvm.ClassFile.FieldType.int) ∈ bigW := bw 502 (by decide +kernel) (by decide +kernel)
set_option maxRecDepth 20000 in
theorem k504 : Cond.constant "DeskBench" (134 : Nat) (1000000 : Int32) ∈ bigW := bw 504 (by decide +kernel) (by decide +kernel)
set_option maxRecDepth 20000 in
theorem k506 : Cond.methodLink "DeskBench" (140 : Nat) ({ cls := "DeskBench$Neighbours", name := "dropSilent", desc := "(I)V" } : Jvm.MethodName) ∈ bigW := bw 506 (by decide +kernel) (by decide +kernel)
set_option maxRecDepth 20000 in
theorem k507 : Cond.instanceMethod ({ cls := "DeskBench$Neighbours", name := "dropSilent", desc := "(I)V" } : Jvm.MethodName) ∈ bigW := bw 507 (by decide +kernel) (by decide +kernel)
set_option maxRecDepth 20000 in
theorem k508 : Cond.selects "DeskBench$Neighbours" ({ cls := "DeskBench$Neighbours", name := "dropSilent", desc := "(I)V" } : Jvm.MethodName) ({ cls := "DeskBench$Neighbours", name := "dropSilent", desc := "(I)V" } : Jvm.MethodName) ∈ bigW := bw 508 (by decide +kernel) (by decide +kernel)
set_option maxRecDepth 20000 in
theorem k509 : Cond.code ({ cls := "DeskBench$Neighbours", name := "dropSilent", desc := "(I)V" } : Jvm.MethodName) prog_4_method_10_code (3 : Nat) (Option.none : Option Jvm.ClassFile.FieldType) ∈ bigW := bw 509 (by decide +kernel) (by decide +kernel)
set_option maxRecDepth 20000 in
theorem k513 : Cond.methodLink "DeskBenchLaw" (37 : Nat) ({ cls := "DeskBench", name := "message", desc := "(I)I" } : Jvm.MethodName) ∈ bigW := bw 513 (by decide +kernel) (by decide +kernel)
set_option maxRecDepth 20000 in
theorem k514 : Cond.instanceMethod ({ cls := "DeskBench", name := "message", desc := "(I)I" } : Jvm.MethodName) ∈ bigW := bw 514 (by decide +kernel) (by decide +kernel)
set_option maxRecDepth 20000 in
theorem k515 : Cond.selects "DeskBench" ({ cls := "DeskBench", name := "message", desc := "(I)I" } : Jvm.MethodName) ({ cls := "DeskBench", name := "message", desc := "(I)I" } : Jvm.MethodName) ∈ bigW := bw 515 (by decide +kernel) (by decide +kernel)
set_option maxRecDepth 20000 in
theorem k516 : Cond.code ({ cls := "DeskBench", name := "message", desc := "(I)I" } : Jvm.MethodName) prog_1_method_10_code (2 : Nat) (Option.some Jvm.ClassFile.FieldType.int) ∈ bigW := bw 516 (by decide +kernel) (by decide +kernel)
set_option maxRecDepth 20000 in
theorem k518 : Cond.methodLink "DeskBench" (155 : Nat) ({ cls := "DeskBench$Message", name := "isMade", desc := "()Z" } : Jvm.MethodName) ∈ bigW := bw 518 (by decide +kernel) (by decide +kernel)
set_option maxRecDepth 20000 in
theorem k519 : Cond.instanceMethod ({ cls := "DeskBench$Message", name := "isMade", desc := "()Z" } : Jvm.MethodName) ∈ bigW := bw 519 (by decide +kernel) (by decide +kernel)
set_option maxRecDepth 20000 in
theorem k520 : Cond.selects "DeskBench$Message" ({ cls := "DeskBench$Message", name := "isMade", desc := "()Z" } : Jvm.MethodName) ({ cls := "DeskBench$Message", name := "isMade", desc := "()Z" } : Jvm.MethodName) ∈ bigW := bw 520 (by decide +kernel) (by decide +kernel)
set_option maxRecDepth 20000 in
theorem k521 : Cond.code ({ cls := "DeskBench$Message", name := "isMade", desc := "()Z" } : Jvm.MethodName) prog_3_method_2_code (1 : Nat) (Option.some Jvm.ClassFile.FieldType.boolean) ∈ bigW := bw 521 (by decide +kernel) (by decide +kernel)
set_option maxRecDepth 20000 in
theorem k523 : Cond.methodLink "DeskBench" (160 : Nat) ({ cls := "DeskBench$Message", name := "part", desc := "(I)I" } : Jvm.MethodName) ∈ bigW := bw 523 (by decide +kernel) (by decide +kernel)
set_option maxRecDepth 20000 in
theorem k524 : Cond.instanceMethod ({ cls := "DeskBench$Message", name := "part", desc := "(I)I" } : Jvm.MethodName) ∈ bigW := bw 524 (by decide +kernel) (by decide +kernel)
set_option maxRecDepth 20000 in
theorem k525 : Cond.selects "DeskBench$Message" ({ cls := "DeskBench$Message", name := "part", desc := "(I)I" } : Jvm.MethodName) ({ cls := "DeskBench$Message", name := "part", desc := "(I)I" } : Jvm.MethodName) ∈ bigW := bw 525 (by decide +kernel) (by decide +kernel)
set_option maxRecDepth 20000 in
theorem k526 : Cond.code ({ cls := "DeskBench$Message", name := "part", desc := "(I)I" } : Jvm.MethodName) prog_3_method_3_code (2 : Nat) (Option.some Jvm.ClassFile.FieldType.int) ∈ bigW := bw 526 (by decide +kernel) (by decide +kernel)
set_option maxRecDepth 20000 in
theorem k530 : Cond.methodLink "DeskBenchLaw" (40 : Nat) ({ cls := "DeskBench", name := "state", desc := "(II)I" } : Jvm.MethodName) ∈ bigW := bw 530 (by decide +kernel) (by decide +kernel)
set_option maxRecDepth 20000 in
theorem k531 : Cond.instanceMethod ({ cls := "DeskBench", name := "state", desc := "(II)I" } : Jvm.MethodName) ∈ bigW := bw 531 (by decide +kernel) (by decide +kernel)
set_option maxRecDepth 20000 in
theorem k532 : Cond.selects "DeskBench" ({ cls := "DeskBench", name := "state", desc := "(II)I" } : Jvm.MethodName) ({ cls := "DeskBench", name := "state", desc := "(II)I" } : Jvm.MethodName) ∈ bigW := bw 532 (by decide +kernel) (by decide +kernel)
set_option maxRecDepth 20000 in
theorem k533 : Cond.code ({ cls := "DeskBench", name := "state", desc := "(II)I" } : Jvm.MethodName) prog_1_method_12_code (3 : Nat) (Option.some Jvm.ClassFile.FieldType.int) ∈ bigW := bw 533 (by decide +kernel) (by decide +kernel)
set_option maxRecDepth 20000 in
theorem k534 : Cond.methodLink "DeskBench" (166 : Nat) ({ cls := "DeskBench$Neighbours", name := "standingOf", desc := "(II)I" } : Jvm.MethodName) ∈ bigW := bw 534 (by decide +kernel) (by decide +kernel)
set_option maxRecDepth 20000 in
theorem k535 : Cond.instanceMethod ({ cls := "DeskBench$Neighbours", name := "standingOf", desc := "(II)I" } : Jvm.MethodName) ∈ bigW := bw 535 (by decide +kernel) (by decide +kernel)
set_option maxRecDepth 20000 in
theorem k536 : Cond.selects "DeskBench$Neighbours" ({ cls := "DeskBench$Neighbours", name := "standingOf", desc := "(II)I" } : Jvm.MethodName) ({ cls := "DeskBench$Neighbours", name := "standingOf", desc := "(II)I" } : Jvm.MethodName) ∈ bigW := bw 536 (by decide +kernel) (by decide +kernel)
set_option maxRecDepth 20000 in
theorem k537 : Cond.code ({ cls := "DeskBench$Neighbours", name := "standingOf", desc := "(II)I" } : Jvm.MethodName) prog_4_method_22_code (4 : Nat) (Option.some Jvm.ClassFile.FieldType.int) ∈ bigW := bw 537 (by decide +kernel) (by decide +kernel)
set_option maxRecDepth 20000 in
theorem k541 : Cond.methodLink "DeskBenchLaw" (44 : Nat) ({ cls := "DeskBench", name := "known", desc := "(I)I" } : Jvm.MethodName) ∈ bigW := bw 541 (by decide +kernel) (by decide +kernel)
set_option maxRecDepth 20000 in
theorem k542 : Cond.instanceMethod ({ cls := "DeskBench", name := "known", desc := "(I)I" } : Jvm.MethodName) ∈ bigW := bw 542 (by decide +kernel) (by decide +kernel)
set_option maxRecDepth 20000 in
theorem k543 : Cond.selects "DeskBench" ({ cls := "DeskBench", name := "known", desc := "(I)I" } : Jvm.MethodName) ({ cls := "DeskBench", name := "known", desc := "(I)I" } : Jvm.MethodName) ∈ bigW := bw 543 (by decide +kernel) (by decide +kernel)
set_option maxRecDepth 20000 in
theorem k544 : Cond.code ({ cls := "DeskBench", name := "known", desc := "(I)I" } : Jvm.MethodName) prog_1_method_13_code (2 : Nat) (Option.some Jvm.ClassFile.FieldType.int) ∈ bigW := bw 544 (by decide +kernel) (by decide +kernel)
set_option maxRecDepth 20000 in
theorem k548 : Cond.methodLink "DeskBenchLaw" (47 : Nat) ({ cls := "DeskBench", name := "body", desc := "(I)I" } : Jvm.MethodName) ∈ bigW := bw 548 (by decide +kernel) (by decide +kernel)
set_option maxRecDepth 20000 in
theorem k549 : Cond.instanceMethod ({ cls := "DeskBench", name := "body", desc := "(I)I" } : Jvm.MethodName) ∈ bigW := bw 549 (by decide +kernel) (by decide +kernel)
set_option maxRecDepth 20000 in
theorem k550 : Cond.selects "DeskBench" ({ cls := "DeskBench", name := "body", desc := "(I)I" } : Jvm.MethodName) ({ cls := "DeskBench", name := "body", desc := "(I)I" } : Jvm.MethodName) ∈ bigW := bw 550 (by decide +kernel) (by decide +kernel)
set_option maxRecDepth 20000 in
theorem k551 : Cond.code ({ cls := "DeskBench", name := "body", desc := "(I)I" } : Jvm.MethodName) prog_1_method_14_code (2 : Nat) (Option.some Jvm.ClassFile.FieldType.int) ∈ bigW := bw 551 (by decide +kernel) (by decide +kernel)
set_option maxRecDepth 20000 in
theorem k555 : Cond.methodLink "DeskBenchLaw" (50 : Nat) ({ cls := "DeskBench", name := "due", desc := "(II)I" } : Jvm.MethodName) ∈ bigW := bw 555 (by decide +kernel) (by decide +kernel)
set_option maxRecDepth 20000 in
theorem k556 : Cond.instanceMethod ({ cls := "DeskBench", name := "due", desc := "(II)I" } : Jvm.MethodName) ∈ bigW := bw 556 (by decide +kernel) (by decide +kernel)
set_option maxRecDepth 20000 in
theorem k557 : Cond.selects "DeskBench" ({ cls := "DeskBench", name := "due", desc := "(II)I" } : Jvm.MethodName) ({ cls := "DeskBench", name := "due", desc := "(II)I" } : Jvm.MethodName) ∈ bigW := bw 557 (by decide +kernel) (by decide +kernel)
set_option maxRecDepth 20000 in
theorem k558 : Cond.code ({ cls := "DeskBench", name := "due", desc := "(II)I" } : Jvm.MethodName) prog_1_method_15_code (3 : Nat) (Option.some Jvm.ClassFile.FieldType.int) ∈ bigW := bw 558 (by decide +kernel) (by decide +kernel)
set_option maxRecDepth 20000 in
theorem k559 : Cond.methodLink "DeskBench" (172 : Nat) ({ cls := "DeskBench$Neighbours", name := "owedTo", desc := "(II)I" } : Jvm.MethodName) ∈ bigW := bw 559 (by decide +kernel) (by decide +kernel)
set_option maxRecDepth 20000 in
theorem k560 : Cond.instanceMethod ({ cls := "DeskBench$Neighbours", name := "owedTo", desc := "(II)I" } : Jvm.MethodName) ∈ bigW := bw 560 (by decide +kernel) (by decide +kernel)
set_option maxRecDepth 20000 in
theorem k561 : Cond.selects "DeskBench$Neighbours" ({ cls := "DeskBench$Neighbours", name := "owedTo", desc := "(II)I" } : Jvm.MethodName) ({ cls := "DeskBench$Neighbours", name := "owedTo", desc := "(II)I" } : Jvm.MethodName) ∈ bigW := bw 561 (by decide +kernel) (by decide +kernel)
set_option maxRecDepth 20000 in
theorem k562 : Cond.code ({ cls := "DeskBench$Neighbours", name := "owedTo", desc := "(II)I" } : Jvm.MethodName) prog_4_method_23_code (4 : Nat) (Option.some Jvm.ClassFile.FieldType.int) ∈ bigW := bw 562 (by decide +kernel) (by decide +kernel)
set_option maxRecDepth 20000 in
theorem k563 : Cond.methodLink "DeskBench$Neighbours" (66 : Nat) ({ cls := "java/lang/Long", name := "bitCount", desc := "(J)I" } : Jvm.MethodName) ∈ bigW := bw 563 (by decide +kernel) (by decide +kernel)
set_option maxRecDepth 20000 in
theorem k564 : Cond.static ({ cls := "java/lang/Long", name := "bitCount", desc := "(J)I" } : Jvm.MethodName) ∈ bigW := bw 564 (by decide +kernel) (by decide +kernel)
set_option maxRecDepth 20000 in
theorem k565 : Cond.code ({ cls := "java/lang/Long", name := "bitCount", desc := "(J)I" } : Jvm.MethodName) prog_11_method_50_code (2 : Nat) (Option.some Jvm.ClassFile.FieldType.int) ∈ bigW := bw 565 (by decide +kernel) (by decide +kernel)
set_option maxRecDepth 20000 in
theorem k566 : Cond.constantLong "java/lang/Long" (314 : Nat) (6148914691236517205 : Int64) ∈ bigW := bw 566 (by decide +kernel) (by decide +kernel)
set_option maxRecDepth 20000 in
theorem k567 : Cond.constantLong "java/lang/Long" (316 : Nat) (3689348814741910323 : Int64) ∈ bigW := bw 567 (by decide +kernel) (by decide +kernel)
set_option maxRecDepth 20000 in
theorem k568 : Cond.constantLong "java/lang/Long" (318 : Nat) (1085102592571150095 : Int64) ∈ bigW := bw 568 (by decide +kernel) (by decide +kernel)
set_option maxRecDepth 20000 in
theorem k574 : Cond.methodLink "DeskBenchModel" (1 : Nat) ({ cls := "java/lang/Object", name := "<init>", desc := "()V" } : Jvm.MethodName) ∈ bigW := bw 574 (by decide +kernel) (by decide +kernel)
set_option maxRecDepth 20000 in
theorem k575 : Cond.fieldLink "DeskBenchModel" (41 : Nat) "DeskBenchModel" "itself" "I" ∈ bigW := bw 575 (by decide +kernel) (by decide +kernel)
set_option maxRecDepth 20000 in
theorem k576 : Cond.fieldLink "DeskBenchModel" (45 : Nat) "DeskBenchModel" "code" "I" ∈ bigW := bw 576 (by decide +kernel) (by decide +kernel)
set_option maxRecDepth 20000 in
theorem k577 : Cond.fieldLink "DeskBenchModel" (66 : Nat) "DeskBenchModel" "now" "I" ∈ bigW := bw 577 (by decide +kernel) (by decide +kernel)
set_option maxRecDepth 20000 in
theorem k578 : Cond.fieldLink "DeskBenchModel" (7 : Nat) "DeskBenchModel" "on" "[Z" ∈ bigW := bw 578 (by decide +kernel) (by decide +kernel)
set_option maxRecDepth 20000 in
theorem k579 : Cond.fieldLink "DeskBenchModel" (13 : Nat) "DeskBenchModel" "greets" "[Z" ∈ bigW := bw 579 (by decide +kernel) (by decide +kernel)
set_option maxRecDepth 20000 in
theorem k580 : Cond.fieldLink "DeskBenchModel" (16 : Nat) "DeskBenchModel" "who" "[I" ∈ bigW := bw 580 (by decide +kernel) (by decide +kernel)
set_option maxRecDepth 20000 in
theorem k581 : Cond.fieldLink "DeskBenchModel" (20 : Nat) "DeskBenchModel" "heard" "[I" ∈ bigW := bw 581 (by decide +kernel) (by decide +kernel)
set_option maxRecDepth 20000 in
theorem k582 : Cond.fieldLink "DeskBenchModel" (23 : Nat) "DeskBenchModel" "friend" "[Z" ∈ bigW := bw 582 (by decide +kernel) (by decide +kernel)
set_option maxRecDepth 20000 in
theorem k583 : Cond.fieldLink "DeskBenchModel" (26 : Nat) "DeskBenchModel" "when" "[I" ∈ bigW := bw 583 (by decide +kernel) (by decide +kernel)
set_option maxRecDepth 20000 in
theorem k584 : Cond.fieldLink "DeskBenchModel" (29 : Nat) "DeskBenchModel" "number" "[I" ∈ bigW := bw 584 (by decide +kernel) (by decide +kernel)
set_option maxRecDepth 20000 in
theorem k585 : Cond.fieldLink "DeskBenchModel" (32 : Nat) "DeskBenchModel" "body" "[I" ∈ bigW := bw 585 (by decide +kernel) (by decide +kernel)
set_option maxRecDepth 20000 in
theorem k586 : Cond.fieldLink "DeskBenchModel" (77 : Nat) "DeskBenchModel" "greatest" "I" ∈ bigW := bw 586 (by decide +kernel) (by decide +kernel)
set_option maxRecDepth 20000 in
theorem k587 : Cond.fieldLink "DeskBenchModel" (69 : Nat) "DeskBenchModel" "waiting" "I" ∈ bigW := bw 587 (by decide +kernel) (by decide +kernel)
set_option maxRecDepth 20000 in
theorem k588 : Cond.fieldLink "DeskBenchModel" (35 : Nat) "DeskBenchModel" "thanks" "[I" ∈ bigW := bw 588 (by decide +kernel) (by decide +kernel)
set_option maxRecDepth 20000 in
theorem k589 : Cond.fieldLink "DeskBenchModel" (38 : Nat) "DeskBenchModel" "message" "[I" ∈ bigW := bw 589 (by decide +kernel) (by decide +kernel)
set_option maxRecDepth 20000 in
theorem k590 : Cond.fieldLink "DeskBenchModel" (85 : Nat) "DeskBenchModel" "named" "J" ∈ bigW := bw 590 (by decide +kernel) (by decide +kernel)
set_option maxRecDepth 20000 in
theorem k624 : Cond.arrayClass Jvm.ClassFile.FieldType.boolean ∈ bigW := bw 624 (by decide +kernel) (by decide +kernel)
set_option maxRecDepth 20000 in
theorem k633 : Cond.methodLink "DeskBenchModel" (52 : Nat) ({ cls := "DeskBenchModel", name := "in", desc := "(III)Z" } : Jvm.MethodName) ∈ bigW := bw 633 (by decide +kernel) (by decide +kernel)
set_option maxRecDepth 20000 in
theorem k634 : Cond.static ({ cls := "DeskBenchModel", name := "in", desc := "(III)Z" } : Jvm.MethodName) ∈ bigW := bw 634 (by decide +kernel) (by decide +kernel)
set_option maxRecDepth 20000 in
theorem k635 : Cond.code ({ cls := "DeskBenchModel", name := "in", desc := "(III)Z" } : Jvm.MethodName) prog_7_method_3_code (3 : Nat) (Option.some Jvm.ClassFile.FieldType.boolean) ∈ bigW := bw 635 (by decide +kernel) (by decide +kernel)
set_option maxRecDepth 20000 in
theorem k636 : Cond.methodLink "DeskBenchModel" (56 : Nat) ({ cls := "DeskBenchModel", name := "remove", desc := "(I)V" } : Jvm.MethodName) ∈ bigW := bw 636 (by decide +kernel) (by decide +kernel)
set_option maxRecDepth 20000 in
theorem k638 : Cond.instanceMethod ({ cls := "DeskBenchModel", name := "remove", desc := "(I)V" } : Jvm.MethodName) ∈ bigW := bw 638 (by decide +kernel) (by decide +kernel)
set_option maxRecDepth 20000 in
theorem k639 : Cond.code ({ cls := "DeskBenchModel", name := "remove", desc := "(I)V" } : Jvm.MethodName) prog_7_method_6_code (2 : Nat) (Option.none : Option Jvm.ClassFile.FieldType) ∈ bigW := bw 639 (by decide +kernel) (by decide +kernel)
set_option maxRecDepth 20000 in
theorem k640 : Cond.methodLink "DeskBenchModel" (48 : Nat) ({ cls := "DeskBenchModel", name := "settleAll", desc := "(I)V" } : Jvm.MethodName) ∈ bigW := bw 640 (by decide +kernel) (by decide +kernel)
set_option maxRecDepth 20000 in
theorem k642 : Cond.instanceMethod ({ cls := "DeskBenchModel", name := "settleAll", desc := "(I)V" } : Jvm.MethodName) ∈ bigW := bw 642 (by decide +kernel) (by decide +kernel)
set_option maxRecDepth 20000 in
theorem k643 : Cond.code ({ cls := "DeskBenchModel", name := "settleAll", desc := "(I)V" } : Jvm.MethodName) prog_7_method_5_code (3 : Nat) (Option.none : Option Jvm.ClassFile.FieldType) ∈ bigW := bw 643 (by decide +kernel) (by decide +kernel)
set_option maxRecDepth 20000 in
theorem k648 : Cond.methodLink "DeskBenchModel" (59 : Nat) ({ cls := "DeskBenchModel", name := "wrong", desc := "(II)I" } : Jvm.MethodName) ∈ bigW := bw 648 (by decide +kernel) (by decide +kernel)
set_option maxRecDepth 20000 in
theorem k650 : Cond.instanceMethod ({ cls := "DeskBenchModel", name := "wrong", desc := "(II)I" } : Jvm.MethodName) ∈ bigW := bw 650 (by decide +kernel) (by decide +kernel)
set_option maxRecDepth 20000 in
theorem k651 : Cond.code ({ cls := "DeskBenchModel", name := "wrong", desc := "(II)I" } : Jvm.MethodName) prog_7_method_8_code (3 : Nat) (Option.some Jvm.ClassFile.FieldType.int) ∈ bigW := bw 651 (by decide +kernel) (by decide +kernel)
set_option maxRecDepth 20000 in
theorem k652 : Cond.methodLink "DeskBenchModel" (63 : Nat) ({ cls := "DeskBenchModel", name := "find", desc := "(II)I" } : Jvm.MethodName) ∈ bigW := bw 652 (by decide +kernel) (by decide +kernel)
set_option maxRecDepth 20000 in
theorem k654 : Cond.instanceMethod ({ cls := "DeskBenchModel", name := "find", desc := "(II)I" } : Jvm.MethodName) ∈ bigW := bw 654 (by decide +kernel) (by decide +kernel)
set_option maxRecDepth 20000 in
theorem k655 : Cond.code ({ cls := "DeskBenchModel", name := "find", desc := "(II)I" } : Jvm.MethodName) prog_7_method_4_code (5 : Nat) (Option.some Jvm.ClassFile.FieldType.int) ∈ bigW := bw 655 (by decide +kernel) (by decide +kernel)
set_option maxRecDepth 20000 in
theorem k660 : Cond.constant "DeskBenchModel" (72 : Nat) (1000000000 : Int32) ∈ bigW := bw 660 (by decide +kernel) (by decide +kernel)
set_option maxRecDepth 20000 in
theorem k661 : Cond.methodLink "DeskBenchModel" (73 : Nat) ({ cls := "DeskBenchModel", name := "thank", desc := "(III)V" } : Jvm.MethodName) ∈ bigW := bw 661 (by decide +kernel) (by decide +kernel)
set_option maxRecDepth 20000 in
theorem k663 : Cond.instanceMethod ({ cls := "DeskBenchModel", name := "thank", desc := "(III)V" } : Jvm.MethodName) ∈ bigW := bw 663 (by decide +kernel) (by decide +kernel)
set_option maxRecDepth 20000 in
theorem k664 : Cond.code ({ cls := "DeskBenchModel", name := "thank", desc := "(III)V" } : Jvm.MethodName) prog_7_method_10_code (4 : Nat) (Option.none : Option Jvm.ClassFile.FieldType) ∈ bigW := bw 664 (by decide +kernel) (by decide +kernel)
set_option maxRecDepth 20000 in
theorem k665 : Cond.methodLink "DeskBenchModel" (80 : Nat) ({ cls := "DeskBenchModel", name := "learn", desc := "(IIII)V" } : Jvm.MethodName) ∈ bigW := bw 665 (by decide +kernel) (by decide +kernel)
set_option maxRecDepth 20000 in
theorem k667 : Cond.instanceMethod ({ cls := "DeskBenchModel", name := "learn", desc := "(IIII)V" } : Jvm.MethodName) ∈ bigW := bw 667 (by decide +kernel) (by decide +kernel)
set_option maxRecDepth 20000 in
theorem k668 : Cond.code ({ cls := "DeskBenchModel", name := "learn", desc := "(IIII)V" } : Jvm.MethodName) prog_7_method_11_code (6 : Nat) (Option.none : Option Jvm.ClassFile.FieldType) ∈ bigW := bw 668 (by decide +kernel) (by decide +kernel)
set_option maxRecDepth 20000 in
theorem k685 : Cond.constant "DeskBenchModel" (84 : Nat) (1000000 : Int32) ∈ bigW := bw 685 (by decide +kernel) (by decide +kernel)
set_option maxRecDepth 20000 in
theorem k690 : Cond.methodLink "DeskBenchModel" (93 : Nat) ({ cls := "DeskBenchModel", name := "greet", desc := "(I)V" } : Jvm.MethodName) ∈ bigW := bw 690 (by decide +kernel) (by decide +kernel)
set_option maxRecDepth 20000 in
theorem k692 : Cond.instanceMethod ({ cls := "DeskBenchModel", name := "greet", desc := "(I)V" } : Jvm.MethodName) ∈ bigW := bw 692 (by decide +kernel) (by decide +kernel)
set_option maxRecDepth 20000 in
theorem k693 : Cond.code ({ cls := "DeskBenchModel", name := "greet", desc := "(I)V" } : Jvm.MethodName) prog_7_method_18_code (3 : Nat) (Option.none : Option Jvm.ClassFile.FieldType) ∈ bigW := bw 693 (by decide +kernel) (by decide +kernel)
set_option maxRecDepth 20000 in
theorem k694 : Cond.methodLink "DeskBenchModel" (89 : Nat) ({ cls := "DeskBenchModel", name := "make", desc := "(IIIIII)V" } : Jvm.MethodName) ∈ bigW := bw 694 (by decide +kernel) (by decide +kernel)
set_option maxRecDepth 20000 in
theorem k696 : Cond.instanceMethod ({ cls := "DeskBenchModel", name := "make", desc := "(IIIIII)V" } : Jvm.MethodName) ∈ bigW := bw 696 (by decide +kernel) (by decide +kernel)
set_option maxRecDepth 20000 in
theorem k697 : Cond.code ({ cls := "DeskBenchModel", name := "make", desc := "(IIIIII)V" } : Jvm.MethodName) prog_7_method_17_code (7 : Nat) (Option.none : Option Jvm.ClassFile.FieldType) ∈ bigW := bw 697 (by decide +kernel) (by decide +kernel)
set_option maxRecDepth 20000 in
theorem k698 : Cond.methodLink "DeskBenchModel" (96 : Nat) ({ cls := "DeskBenchModel", name := "firstAdvert", desc := "()I" } : Jvm.MethodName) ∈ bigW := bw 698 (by decide +kernel) (by decide +kernel)
set_option maxRecDepth 20000 in
theorem k700 : Cond.instanceMethod ({ cls := "DeskBenchModel", name := "firstAdvert", desc := "()I" } : Jvm.MethodName) ∈ bigW := bw 700 (by decide +kernel) (by decide +kernel)
set_option maxRecDepth 20000 in
theorem k701 : Cond.code ({ cls := "DeskBenchModel", name := "firstAdvert", desc := "()I" } : Jvm.MethodName) prog_7_method_19_code (6 : Nat) (Option.some Jvm.ClassFile.FieldType.int) ∈ bigW := bw 701 (by decide +kernel) (by decide +kernel)
theorem inAD : ∀ w ∈ u_ws RAD TAD 2, w ∈ bigW := by
  intro w h
  obtain ⟨k, hk, rfl⟩ := List.mem_map.mp h
  have hk := List.mem_range.mp hk
  match k, hk with
  | 0, _ => exact bw 55 (by decide +kernel) (by decide +kernel)
  | 1, _ => exact bw 57 (by decide +kernel) (by decide +kernel)
  | k + 2, h => omega
theorem inMS : ∀ w ∈ u_ws RMS TMS 2, w ∈ bigW := by
  intro w h
  obtain ⟨k, hk, rfl⟩ := List.mem_map.mp h
  have hk := List.mem_range.mp hk
  match k, hk with
  | 0, _ => exact bw 123 (by decide +kernel) (by decide +kernel)
  | 1, _ => exact bw 125 (by decide +kernel) (by decide +kernel)
  | k + 2, h => omega
theorem inNB : ∀ w ∈ u_ws RNB TNB 7, w ∈ bigW := by
  intro w h
  obtain ⟨k, hk, rfl⟩ := List.mem_map.mp h
  have hk := List.mem_range.mp hk
  match k, hk with
  | 0, _ => exact bw 74 (by decide +kernel) (by decide +kernel)
  | 1, _ => exact bw 76 (by decide +kernel) (by decide +kernel)
  | 2, _ => exact bw 78 (by decide +kernel) (by decide +kernel)
  | 3, _ => exact bw 80 (by decide +kernel) (by decide +kernel)
  | 4, _ => exact bw 82 (by decide +kernel) (by decide +kernel)
  | 5, _ => exact bw 84 (by decide +kernel) (by decide +kernel)
  | 6, _ => exact bw 86 (by decide +kernel) (by decide +kernel)
  | k + 7, h => omega
theorem inTQ : ∀ w ∈ u_ws RTQ TTQ 6, w ∈ bigW := by
  intro w h
  obtain ⟨k, hk, rfl⟩ := List.mem_map.mp h
  have hk := List.mem_range.mp hk
  match k, hk with
  | 0, _ => exact bw 102 (by decide +kernel) (by decide +kernel)
  | 1, _ => exact bw 104 (by decide +kernel) (by decide +kernel)
  | 2, _ => exact bw 106 (by decide +kernel) (by decide +kernel)
  | 3, _ => exact bw 108 (by decide +kernel) (by decide +kernel)
  | 4, _ => exact bw 110 (by decide +kernel) (by decide +kernel)
  | 5, _ => exact bw 112 (by decide +kernel) (by decide +kernel)
  | k + 6, h => omega
theorem inDB : ∀ w ∈ u_ws RDB TDB 9, w ∈ bigW := by
  intro w h
  obtain ⟨k, hk, rfl⟩ := List.mem_map.mp h
  have hk := List.mem_range.mp hk
  match k, hk with
  | 0, _ => exact bw 137 (by decide +kernel) (by decide +kernel)
  | 1, _ => exact bw 139 (by decide +kernel) (by decide +kernel)
  | 2, _ => exact bw 141 (by decide +kernel) (by decide +kernel)
  | 3, _ => exact bw 143 (by decide +kernel) (by decide +kernel)
  | 4, _ => exact bw 145 (by decide +kernel) (by decide +kernel)
  | 5, _ => exact bw 147 (by decide +kernel) (by decide +kernel)
  | 6, _ => exact bw 149 (by decide +kernel) (by decide +kernel)
  | 7, _ => exact bw 151 (by decide +kernel) (by decide +kernel)
  | 8, _ => exact bw 153 (by decide +kernel) (by decide +kernel)
  | k + 9, h => omega
theorem inRM : ∀ w ∈ u_ws RRM TRM 16, w ∈ bigW := by
  intro w h
  obtain ⟨k, hk, rfl⟩ := List.mem_map.mp h
  have hk := List.mem_range.mp hk
  match k, hk with
  | 0, _ => exact bw 591 (by decide +kernel) (by decide +kernel)
  | 1, _ => exact bw 593 (by decide +kernel) (by decide +kernel)
  | 2, _ => exact bw 595 (by decide +kernel) (by decide +kernel)
  | 3, _ => exact bw 597 (by decide +kernel) (by decide +kernel)
  | 4, _ => exact bw 599 (by decide +kernel) (by decide +kernel)
  | 5, _ => exact bw 601 (by decide +kernel) (by decide +kernel)
  | 6, _ => exact bw 603 (by decide +kernel) (by decide +kernel)
  | 7, _ => exact bw 605 (by decide +kernel) (by decide +kernel)
  | 8, _ => exact bw 607 (by decide +kernel) (by decide +kernel)
  | 9, _ => exact bw 609 (by decide +kernel) (by decide +kernel)
  | 10, _ => exact bw 611 (by decide +kernel) (by decide +kernel)
  | 11, _ => exact bw 613 (by decide +kernel) (by decide +kernel)
  | 12, _ => exact bw 615 (by decide +kernel) (by decide +kernel)
  | 13, _ => exact bw 617 (by decide +kernel) (by decide +kernel)
  | 14, _ => exact bw 619 (by decide +kernel) (by decide +kernel)
  | 15, _ => exact bw 621 (by decide +kernel) (by decide +kernel)
  | k + 16, h => omega
