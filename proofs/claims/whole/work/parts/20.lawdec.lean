set_option maxRecDepth 20000 in
theorem k26 : Cond.initialized "DeskBenchLaw" ∈ bigW := bw 26 (by decide +kernel) (by decide +kernel)
set_option maxRecDepth 20000 in
theorem k39 : Cond.classLink "DeskBenchLaw" (8 : Nat) "DeskBench" ∈ bigW := bw 39 (by decide +kernel) (by decide +kernel)
set_option maxRecDepth 20000 in
theorem k40 : Cond.instantiable "DeskBench" (9 : Nat) ∈ bigW := bw 40 (by decide +kernel) (by decide +kernel)
set_option maxRecDepth 20000 in
theorem k41 : Cond.methodLink "DeskBenchLaw" (59 : Nat) ({ cls := "DeskBench", name := "<init>", desc := "(I)V" } : Jvm.MethodName) ∈ bigW := bw 41 (by decide +kernel) (by decide +kernel)
set_option maxRecDepth 20000 in
theorem k42 : Cond.instanceMethod ({ cls := "DeskBench", name := "<init>", desc := "(I)V" } : Jvm.MethodName) ∈ bigW := bw 42 (by decide +kernel) (by decide +kernel)
set_option maxRecDepth 20000 in
theorem k43 : Cond.code ({ cls := "DeskBench", name := "<init>", desc := "(I)V" } : Jvm.MethodName) prog_1_method_1_code (2 : Nat) (Option.none : Option Jvm.ClassFile.FieldType) ∈ bigW := bw 43 (by decide +kernel) (by decide +kernel)
set_option maxRecDepth 20000 in
theorem k156 : Cond.methodLink "DeskBenchLaw" (85 : Nat) ({ cls := "DeskBench", name := "own", desc := "(I)I" } : Jvm.MethodName) ∈ bigW := bw 156 (by decide +kernel) (by decide +kernel)
set_option maxRecDepth 20000 in
theorem k157 : Cond.instanceMethod ({ cls := "DeskBench", name := "own", desc := "(I)I" } : Jvm.MethodName) ∈ bigW := bw 157 (by decide +kernel) (by decide +kernel)
set_option maxRecDepth 20000 in
theorem k158 : Cond.selects "DeskBench" ({ cls := "DeskBench", name := "own", desc := "(I)I" } : Jvm.MethodName) ({ cls := "DeskBench", name := "own", desc := "(I)I" } : Jvm.MethodName) ∈ bigW := bw 158 (by decide +kernel) (by decide +kernel)
set_option maxRecDepth 20000 in
theorem k159 : Cond.code ({ cls := "DeskBench", name := "own", desc := "(I)I" } : Jvm.MethodName) prog_1_method_6_code (2 : Nat) (Option.some Jvm.ClassFile.FieldType.int) ∈ bigW := bw 159 (by decide +kernel) (by decide +kernel)
set_option maxRecDepth 20000 in
theorem k172 : Cond.methodLink "DeskBenchLaw" (96 : Nat) ({ cls := "DeskBench", name := "next", desc := "()Z" } : Jvm.MethodName) ∈ bigW := bw 172 (by decide +kernel) (by decide +kernel)
set_option maxRecDepth 20000 in
theorem k173 : Cond.instanceMethod ({ cls := "DeskBench", name := "next", desc := "()Z" } : Jvm.MethodName) ∈ bigW := bw 173 (by decide +kernel) (by decide +kernel)
set_option maxRecDepth 20000 in
theorem k174 : Cond.selects "DeskBench" ({ cls := "DeskBench", name := "next", desc := "()Z" } : Jvm.MethodName) ({ cls := "DeskBench", name := "next", desc := "()Z" } : Jvm.MethodName) ∈ bigW := bw 174 (by decide +kernel) (by decide +kernel)
set_option maxRecDepth 20000 in
theorem k175 : Cond.code ({ cls := "DeskBench", name := "next", desc := "()Z" } : Jvm.MethodName) prog_1_method_9_code (1 : Nat) (Option.some Jvm.ClassFile.FieldType.boolean) ∈ bigW := bw 175 (by decide +kernel) (by decide +kernel)
set_option maxRecDepth 20000 in
theorem k254 : Cond.methodLink "DeskBenchLaw" (104 : Nat) ({ cls := "DeskBench", name := "named", desc := "()J" } : Jvm.MethodName) ∈ bigW := bw 254 (by decide +kernel) (by decide +kernel)
set_option maxRecDepth 20000 in
theorem k255 : Cond.instanceMethod ({ cls := "DeskBench", name := "named", desc := "()J" } : Jvm.MethodName) ∈ bigW := bw 255 (by decide +kernel) (by decide +kernel)
set_option maxRecDepth 20000 in
theorem k256 : Cond.selects "DeskBench" ({ cls := "DeskBench", name := "named", desc := "()J" } : Jvm.MethodName) ({ cls := "DeskBench", name := "named", desc := "()J" } : Jvm.MethodName) ∈ bigW := bw 256 (by decide +kernel) (by decide +kernel)
set_option maxRecDepth 20000 in
theorem k257 : Cond.code ({ cls := "DeskBench", name := "named", desc := "()J" } : Jvm.MethodName) prog_1_method_11_code (1 : Nat) (Option.some Jvm.ClassFile.FieldType.long) ∈ bigW := bw 257 (by decide +kernel) (by decide +kernel)
set_option maxRecDepth 20000 in
theorem k262 : Cond.methodLink "DeskBenchLaw" (122 : Nat) ({ cls := "DeskBench", name := "count", desc := "(Z)I" } : Jvm.MethodName) ∈ bigW := bw 262 (by decide +kernel) (by decide +kernel)
set_option maxRecDepth 20000 in
theorem k263 : Cond.instanceMethod ({ cls := "DeskBench", name := "count", desc := "(Z)I" } : Jvm.MethodName) ∈ bigW := bw 263 (by decide +kernel) (by decide +kernel)
set_option maxRecDepth 20000 in
theorem k264 : Cond.selects "DeskBench" ({ cls := "DeskBench", name := "count", desc := "(Z)I" } : Jvm.MethodName) ({ cls := "DeskBench", name := "count", desc := "(Z)I" } : Jvm.MethodName) ∈ bigW := bw 264 (by decide +kernel) (by decide +kernel)
set_option maxRecDepth 20000 in
theorem k265 : Cond.code ({ cls := "DeskBench", name := "count", desc := "(Z)I" } : Jvm.MethodName) prog_1_method_16_code (2 : Nat) (Option.some Jvm.ClassFile.FieldType.int) ∈ bigW := bw 265 (by decide +kernel) (by decide +kernel)
set_option maxRecDepth 20000 in
theorem k270 : Cond.methodLink "DeskBenchLaw" (127 : Nat) ({ cls := "DeskBench", name := "time", desc := "()I" } : Jvm.MethodName) ∈ bigW := bw 270 (by decide +kernel) (by decide +kernel)
set_option maxRecDepth 20000 in
theorem k271 : Cond.instanceMethod ({ cls := "DeskBench", name := "time", desc := "()I" } : Jvm.MethodName) ∈ bigW := bw 271 (by decide +kernel) (by decide +kernel)
set_option maxRecDepth 20000 in
theorem k272 : Cond.selects "DeskBench" ({ cls := "DeskBench", name := "time", desc := "()I" } : Jvm.MethodName) ({ cls := "DeskBench", name := "time", desc := "()I" } : Jvm.MethodName) ∈ bigW := bw 272 (by decide +kernel) (by decide +kernel)
set_option maxRecDepth 20000 in
theorem k273 : Cond.code ({ cls := "DeskBench", name := "time", desc := "()I" } : Jvm.MethodName) prog_1_method_17_code (1 : Nat) (Option.some Jvm.ClassFile.FieldType.int) ∈ bigW := bw 273 (by decide +kernel) (by decide +kernel)
set_option maxRecDepth 20000 in
theorem k274 : Cond.methodLink "DeskBenchLaw" (53 : Nat) ({ cls := "DeskBenchLaw", name := "cell", desc := "([II)I" } : Jvm.MethodName) ∈ bigW := bw 274 (by decide +kernel) (by decide +kernel)
set_option maxRecDepth 20000 in
theorem k275 : Cond.static ({ cls := "DeskBenchLaw", name := "cell", desc := "([II)I" } : Jvm.MethodName) ∈ bigW := bw 275 (by decide +kernel) (by decide +kernel)
set_option maxRecDepth 20000 in
theorem k276 : Cond.code ({ cls := "DeskBenchLaw", name := "cell", desc := "([II)I" } : Jvm.MethodName) method_2_code (2 : Nat) (Option.some Jvm.ClassFile.FieldType.int) ∈ bigW := bw 276 (by decide +kernel) (by decide +kernel)
set_option maxRecDepth 20000 in
theorem k277 : Cond.methodLink "DeskBenchLaw" (65 : Nat) ({ cls := "DeskBenchLaw", name := "port", desc := "(LDeskBench;IZ[J)I" } : Jvm.MethodName) ∈ bigW := bw 277 (by decide +kernel) (by decide +kernel)
set_option maxRecDepth 20000 in
theorem k278 : Cond.static ({ cls := "DeskBenchLaw", name := "port", desc := "(LDeskBench;IZ[J)I" } : Jvm.MethodName) ∈ bigW := bw 278 (by decide +kernel) (by decide +kernel)
set_option maxRecDepth 20000 in
theorem k279 : Cond.codeWith ({ cls := "DeskBenchLaw", name := "port", desc := "(LDeskBench;IZ[J)I" } : Jvm.MethodName) method_3_code (5 : Nat) (Option.some Jvm.ClassFile.FieldType.int) [((0 : Nat), (17 : Nat), (20 : Nat), (13 : Nat))] ∈ bigW := bw 279 (by decide +kernel) (by decide +kernel)
set_option maxRecDepth 20000 in
theorem k371 : Cond.methodLink "DeskBenchLaw" (73 : Nat) ({ cls := "DeskBenchLaw", name := "greeting", desc := "(LDeskBench;IIZ[J)I" } : Jvm.MethodName) ∈ bigW := bw 371 (by decide +kernel) (by decide +kernel)
set_option maxRecDepth 20000 in
theorem k372 : Cond.static ({ cls := "DeskBenchLaw", name := "greeting", desc := "(LDeskBench;IIZ[J)I" } : Jvm.MethodName) ∈ bigW := bw 372 (by decide +kernel) (by decide +kernel)
set_option maxRecDepth 20000 in
theorem k373 : Cond.codeWith ({ cls := "DeskBenchLaw", name := "greeting", desc := "(LDeskBench;IIZ[J)I" } : Jvm.MethodName) method_4_code (6 : Nat) (Option.some Jvm.ClassFile.FieldType.int) [((0 : Nat), (12 : Nat), (15 : Nat), (13 : Nat)), ((0 : Nat), (12 : Nat), (19 : Nat), (19 : Nat))] ∈ bigW := bw 373 (by decide +kernel) (by decide +kernel)
set_option maxRecDepth 20000 in
theorem k427 : Cond.methodLink "DeskBenchLaw" (77 : Nat) ({ cls := "DeskBenchLaw", name := "advert", desc := "(LDeskBench;IIIII[J)I" } : Jvm.MethodName) ∈ bigW := bw 427 (by decide +kernel) (by decide +kernel)
set_option maxRecDepth 20000 in
theorem k428 : Cond.static ({ cls := "DeskBenchLaw", name := "advert", desc := "(LDeskBench;IIIII[J)I" } : Jvm.MethodName) ∈ bigW := bw 428 (by decide +kernel) (by decide +kernel)
set_option maxRecDepth 20000 in
theorem k429 : Cond.codeWith ({ cls := "DeskBenchLaw", name := "advert", desc := "(LDeskBench;IIIII[J)I" } : Jvm.MethodName) method_5_code (8 : Nat) (Option.some Jvm.ClassFile.FieldType.int) [((0 : Nat), (16 : Nat), (19 : Nat), (13 : Nat)), ((0 : Nat), (16 : Nat), (23 : Nat), (19 : Nat))] ∈ bigW := bw 429 (by decide +kernel) (by decide +kernel)
set_option maxRecDepth 20000 in
theorem k468 : Cond.methodLink "DeskBenchLaw" (81 : Nat) ({ cls := "DeskBenchLaw", name := "thanks", desc := "(LDeskBench;IIII[J)I" } : Jvm.MethodName) ∈ bigW := bw 468 (by decide +kernel) (by decide +kernel)
set_option maxRecDepth 20000 in
theorem k469 : Cond.static ({ cls := "DeskBenchLaw", name := "thanks", desc := "(LDeskBench;IIII[J)I" } : Jvm.MethodName) ∈ bigW := bw 469 (by decide +kernel) (by decide +kernel)
set_option maxRecDepth 20000 in
theorem k470 : Cond.codeWith ({ cls := "DeskBenchLaw", name := "thanks", desc := "(LDeskBench;IIII[J)I" } : Jvm.MethodName) method_6_code (7 : Nat) (Option.some Jvm.ClassFile.FieldType.int) [((0 : Nat), (21 : Nat), (24 : Nat), (13 : Nat)), ((0 : Nat), (21 : Nat), (28 : Nat), (19 : Nat))] ∈ bigW := bw 470 (by decide +kernel) (by decide +kernel)
set_option maxRecDepth 20000 in
theorem k475 : Cond.methodLink "DeskBenchLaw" (89 : Nat) ({ cls := "DeskBenchLaw", name := "forget", desc := "(LDeskBench;I[J)I" } : Jvm.MethodName) ∈ bigW := bw 475 (by decide +kernel) (by decide +kernel)
set_option maxRecDepth 20000 in
theorem k476 : Cond.static ({ cls := "DeskBenchLaw", name := "forget", desc := "(LDeskBench;I[J)I" } : Jvm.MethodName) ∈ bigW := bw 476 (by decide +kernel) (by decide +kernel)
set_option maxRecDepth 20000 in
theorem k477 : Cond.codeWith ({ cls := "DeskBenchLaw", name := "forget", desc := "(LDeskBench;I[J)I" } : Jvm.MethodName) method_7_code (4 : Nat) (Option.some Jvm.ClassFile.FieldType.int) [((0 : Nat), (16 : Nat), (19 : Nat), (13 : Nat))] ∈ bigW := bw 477 (by decide +kernel) (by decide +kernel)
set_option maxRecDepth 20000 in
theorem k496 : Cond.methodLink "DeskBenchLaw" (93 : Nat) ({ cls := "DeskBenchLaw", name := "run", desc := "(LDeskBench;I[J)I" } : Jvm.MethodName) ∈ bigW := bw 496 (by decide +kernel) (by decide +kernel)
set_option maxRecDepth 20000 in
theorem k497 : Cond.static ({ cls := "DeskBenchLaw", name := "run", desc := "(LDeskBench;I[J)I" } : Jvm.MethodName) ∈ bigW := bw 497 (by decide +kernel) (by decide +kernel)
set_option maxRecDepth 20000 in
theorem k498 : Cond.codeWith ({ cls := "DeskBenchLaw", name := "run", desc := "(LDeskBench;I[J)I" } : Jvm.MethodName) method_8_code (4 : Nat) (Option.some Jvm.ClassFile.FieldType.int) [((0 : Nat), (9 : Nat), (12 : Nat), (13 : Nat)), ((0 : Nat), (9 : Nat), (15 : Nat), (19 : Nat))] ∈ bigW := bw 498 (by decide +kernel) (by decide +kernel)
set_option maxRecDepth 20000 in
theorem k510 : Cond.methodLink "DeskBenchLaw" (101 : Nat) ({ cls := "DeskBenchLaw", name := "message", desc := "(LDeskBench;I[J)I" } : Jvm.MethodName) ∈ bigW := bw 510 (by decide +kernel) (by decide +kernel)
set_option maxRecDepth 20000 in
theorem k511 : Cond.static ({ cls := "DeskBenchLaw", name := "message", desc := "(LDeskBench;I[J)I" } : Jvm.MethodName) ∈ bigW := bw 511 (by decide +kernel) (by decide +kernel)
set_option maxRecDepth 20000 in
theorem k512 : Cond.codeWith ({ cls := "DeskBenchLaw", name := "message", desc := "(LDeskBench;I[J)I" } : Jvm.MethodName) method_9_code (4 : Nat) (Option.some Jvm.ClassFile.FieldType.int) [((0 : Nat), (9 : Nat), (12 : Nat), (13 : Nat)), ((0 : Nat), (9 : Nat), (15 : Nat), (19 : Nat))] ∈ bigW := bw 512 (by decide +kernel) (by decide +kernel)
set_option maxRecDepth 20000 in
theorem k527 : Cond.methodLink "DeskBenchLaw" (109 : Nat) ({ cls := "DeskBenchLaw", name := "state", desc := "(LDeskBench;II[J)I" } : Jvm.MethodName) ∈ bigW := bw 527 (by decide +kernel) (by decide +kernel)
set_option maxRecDepth 20000 in
theorem k528 : Cond.static ({ cls := "DeskBenchLaw", name := "state", desc := "(LDeskBench;II[J)I" } : Jvm.MethodName) ∈ bigW := bw 528 (by decide +kernel) (by decide +kernel)
set_option maxRecDepth 20000 in
theorem k529 : Cond.codeWith ({ cls := "DeskBenchLaw", name := "state", desc := "(LDeskBench;II[J)I" } : Jvm.MethodName) method_10_code (5 : Nat) (Option.some Jvm.ClassFile.FieldType.int) [((0 : Nat), (10 : Nat), (13 : Nat), (13 : Nat))] ∈ bigW := bw 529 (by decide +kernel) (by decide +kernel)
set_option maxRecDepth 20000 in
theorem k538 : Cond.methodLink "DeskBenchLaw" (113 : Nat) ({ cls := "DeskBenchLaw", name := "known", desc := "(LDeskBench;I[J)I" } : Jvm.MethodName) ∈ bigW := bw 538 (by decide +kernel) (by decide +kernel)
set_option maxRecDepth 20000 in
theorem k539 : Cond.static ({ cls := "DeskBenchLaw", name := "known", desc := "(LDeskBench;I[J)I" } : Jvm.MethodName) ∈ bigW := bw 539 (by decide +kernel) (by decide +kernel)
set_option maxRecDepth 20000 in
theorem k540 : Cond.codeWith ({ cls := "DeskBenchLaw", name := "known", desc := "(LDeskBench;I[J)I" } : Jvm.MethodName) method_11_code (4 : Nat) (Option.some Jvm.ClassFile.FieldType.int) [((0 : Nat), (9 : Nat), (12 : Nat), (13 : Nat))] ∈ bigW := bw 540 (by decide +kernel) (by decide +kernel)
set_option maxRecDepth 20000 in
theorem k545 : Cond.methodLink "DeskBenchLaw" (116 : Nat) ({ cls := "DeskBenchLaw", name := "body", desc := "(LDeskBench;I[J)I" } : Jvm.MethodName) ∈ bigW := bw 545 (by decide +kernel) (by decide +kernel)
set_option maxRecDepth 20000 in
theorem k546 : Cond.static ({ cls := "DeskBenchLaw", name := "body", desc := "(LDeskBench;I[J)I" } : Jvm.MethodName) ∈ bigW := bw 546 (by decide +kernel) (by decide +kernel)
set_option maxRecDepth 20000 in
theorem k547 : Cond.codeWith ({ cls := "DeskBenchLaw", name := "body", desc := "(LDeskBench;I[J)I" } : Jvm.MethodName) method_12_code (4 : Nat) (Option.some Jvm.ClassFile.FieldType.int) [((0 : Nat), (9 : Nat), (12 : Nat), (13 : Nat))] ∈ bigW := bw 547 (by decide +kernel) (by decide +kernel)
set_option maxRecDepth 20000 in
theorem k552 : Cond.methodLink "DeskBenchLaw" (119 : Nat) ({ cls := "DeskBenchLaw", name := "due", desc := "(LDeskBench;II[J)I" } : Jvm.MethodName) ∈ bigW := bw 552 (by decide +kernel) (by decide +kernel)
set_option maxRecDepth 20000 in
theorem k553 : Cond.static ({ cls := "DeskBenchLaw", name := "due", desc := "(LDeskBench;II[J)I" } : Jvm.MethodName) ∈ bigW := bw 553 (by decide +kernel) (by decide +kernel)
set_option maxRecDepth 20000 in
theorem k554 : Cond.codeWith ({ cls := "DeskBenchLaw", name := "due", desc := "(LDeskBench;II[J)I" } : Jvm.MethodName) method_13_code (5 : Nat) (Option.some Jvm.ClassFile.FieldType.int) [((0 : Nat), (10 : Nat), (13 : Nat), (13 : Nat))] ∈ bigW := bw 554 (by decide +kernel) (by decide +kernel)
set_option maxRecDepth 20000 in
theorem k569 : Cond.classLink "DeskBenchLaw" (62 : Nat) "DeskBenchModel" ∈ bigW := bw 569 (by decide +kernel) (by decide +kernel)
set_option maxRecDepth 20000 in
theorem k570 : Cond.instantiable "DeskBenchModel" (16 : Nat) ∈ bigW := bw 570 (by decide +kernel) (by decide +kernel)
set_option maxRecDepth 20000 in
theorem k571 : Cond.methodLink "DeskBenchLaw" (64 : Nat) ({ cls := "DeskBenchModel", name := "<init>", desc := "(I)V" } : Jvm.MethodName) ∈ bigW := bw 571 (by decide +kernel) (by decide +kernel)
set_option maxRecDepth 20000 in
theorem k572 : Cond.instanceMethod ({ cls := "DeskBenchModel", name := "<init>", desc := "(I)V" } : Jvm.MethodName) ∈ bigW := bw 572 (by decide +kernel) (by decide +kernel)
set_option maxRecDepth 20000 in
theorem k573 : Cond.code ({ cls := "DeskBenchModel", name := "<init>", desc := "(I)V" } : Jvm.MethodName) prog_7_method_1_code (3 : Nat) (Option.none : Option Jvm.ClassFile.FieldType) ∈ bigW := bw 573 (by decide +kernel) (by decide +kernel)
set_option maxRecDepth 20000 in
theorem k625 : Cond.methodLink "DeskBenchLaw" (69 : Nat) ({ cls := "DeskBenchModel", name := "thrown", desc := "()I" } : Jvm.MethodName) ∈ bigW := bw 625 (by decide +kernel) (by decide +kernel)
set_option maxRecDepth 20000 in
theorem k626 : Cond.instanceMethod ({ cls := "DeskBenchModel", name := "thrown", desc := "()I" } : Jvm.MethodName) ∈ bigW := bw 626 (by decide +kernel) (by decide +kernel)
set_option maxRecDepth 20000 in
theorem k627 : Cond.selects "DeskBenchModel" ({ cls := "DeskBenchModel", name := "thrown", desc := "()I" } : Jvm.MethodName) ({ cls := "DeskBenchModel", name := "thrown", desc := "()I" } : Jvm.MethodName) ∈ bigW := bw 627 (by decide +kernel) (by decide +kernel)
set_option maxRecDepth 20000 in
theorem k628 : Cond.code ({ cls := "DeskBenchModel", name := "thrown", desc := "()I" } : Jvm.MethodName) prog_7_method_2_code (1 : Nat) (Option.some Jvm.ClassFile.FieldType.int) ∈ bigW := bw 628 (by decide +kernel) (by decide +kernel)
set_option maxRecDepth 20000 in
theorem k629 : Cond.methodLink "DeskBenchLaw" (68 : Nat) ({ cls := "DeskBenchModel", name := "port", desc := "(IZ)Z" } : Jvm.MethodName) ∈ bigW := bw 629 (by decide +kernel) (by decide +kernel)
set_option maxRecDepth 20000 in
theorem k630 : Cond.instanceMethod ({ cls := "DeskBenchModel", name := "port", desc := "(IZ)Z" } : Jvm.MethodName) ∈ bigW := bw 630 (by decide +kernel) (by decide +kernel)
set_option maxRecDepth 20000 in
theorem k631 : Cond.selects "DeskBenchModel" ({ cls := "DeskBenchModel", name := "port", desc := "(IZ)Z" } : Jvm.MethodName) ({ cls := "DeskBenchModel", name := "port", desc := "(IZ)Z" } : Jvm.MethodName) ∈ bigW := bw 631 (by decide +kernel) (by decide +kernel)
set_option maxRecDepth 20000 in
theorem k632 : Cond.code ({ cls := "DeskBenchModel", name := "port", desc := "(IZ)Z" } : Jvm.MethodName) prog_7_method_7_code (5 : Nat) (Option.some Jvm.ClassFile.FieldType.boolean) ∈ bigW := bw 632 (by decide +kernel) (by decide +kernel)
set_option maxRecDepth 20000 in
theorem k644 : Cond.methodLink "DeskBenchLaw" (76 : Nat) ({ cls := "DeskBenchModel", name := "greeting", desc := "(IIZ)I" } : Jvm.MethodName) ∈ bigW := bw 644 (by decide +kernel) (by decide +kernel)
set_option maxRecDepth 20000 in
theorem k645 : Cond.instanceMethod ({ cls := "DeskBenchModel", name := "greeting", desc := "(IIZ)I" } : Jvm.MethodName) ∈ bigW := bw 645 (by decide +kernel) (by decide +kernel)
set_option maxRecDepth 20000 in
theorem k646 : Cond.selects "DeskBenchModel" ({ cls := "DeskBenchModel", name := "greeting", desc := "(IIZ)I" } : Jvm.MethodName) ({ cls := "DeskBenchModel", name := "greeting", desc := "(IIZ)I" } : Jvm.MethodName) ∈ bigW := bw 646 (by decide +kernel) (by decide +kernel)
set_option maxRecDepth 20000 in
theorem k647 : Cond.code ({ cls := "DeskBenchModel", name := "greeting", desc := "(IIZ)I" } : Jvm.MethodName) prog_7_method_9_code (7 : Nat) (Option.some Jvm.ClassFile.FieldType.int) ∈ bigW := bw 647 (by decide +kernel) (by decide +kernel)
set_option maxRecDepth 20000 in
theorem k656 : Cond.methodLink "DeskBenchLaw" (80 : Nat) ({ cls := "DeskBenchModel", name := "advert", desc := "(IIIII)I" } : Jvm.MethodName) ∈ bigW := bw 656 (by decide +kernel) (by decide +kernel)
set_option maxRecDepth 20000 in
theorem k657 : Cond.instanceMethod ({ cls := "DeskBenchModel", name := "advert", desc := "(IIIII)I" } : Jvm.MethodName) ∈ bigW := bw 657 (by decide +kernel) (by decide +kernel)
set_option maxRecDepth 20000 in
theorem k658 : Cond.selects "DeskBenchModel" ({ cls := "DeskBenchModel", name := "advert", desc := "(IIIII)I" } : Jvm.MethodName) ({ cls := "DeskBenchModel", name := "advert", desc := "(IIIII)I" } : Jvm.MethodName) ∈ bigW := bw 658 (by decide +kernel) (by decide +kernel)
set_option maxRecDepth 20000 in
theorem k659 : Cond.code ({ cls := "DeskBenchModel", name := "advert", desc := "(IIIII)I" } : Jvm.MethodName) prog_7_method_12_code (10 : Nat) (Option.some Jvm.ClassFile.FieldType.int) ∈ bigW := bw 659 (by decide +kernel) (by decide +kernel)
set_option maxRecDepth 20000 in
theorem k669 : Cond.methodLink "DeskBenchLaw" (84 : Nat) ({ cls := "DeskBenchModel", name := "thanks", desc := "(IIII)Z" } : Jvm.MethodName) ∈ bigW := bw 669 (by decide +kernel) (by decide +kernel)
set_option maxRecDepth 20000 in
theorem k670 : Cond.instanceMethod ({ cls := "DeskBenchModel", name := "thanks", desc := "(IIII)Z" } : Jvm.MethodName) ∈ bigW := bw 670 (by decide +kernel) (by decide +kernel)
set_option maxRecDepth 20000 in
theorem k671 : Cond.selects "DeskBenchModel" ({ cls := "DeskBenchModel", name := "thanks", desc := "(IIII)Z" } : Jvm.MethodName) ({ cls := "DeskBenchModel", name := "thanks", desc := "(IIII)Z" } : Jvm.MethodName) ∈ bigW := bw 671 (by decide +kernel) (by decide +kernel)
set_option maxRecDepth 20000 in
theorem k672 : Cond.code ({ cls := "DeskBenchModel", name := "thanks", desc := "(IIII)Z" } : Jvm.MethodName) prog_7_method_13_code (7 : Nat) (Option.some Jvm.ClassFile.FieldType.boolean) ∈ bigW := bw 672 (by decide +kernel) (by decide +kernel)
set_option maxRecDepth 20000 in
theorem k673 : Cond.methodLink "DeskBenchLaw" (88 : Nat) ({ cls := "DeskBenchModel", name := "own", desc := "(I)I" } : Jvm.MethodName) ∈ bigW := bw 673 (by decide +kernel) (by decide +kernel)
set_option maxRecDepth 20000 in
theorem k674 : Cond.instanceMethod ({ cls := "DeskBenchModel", name := "own", desc := "(I)I" } : Jvm.MethodName) ∈ bigW := bw 674 (by decide +kernel) (by decide +kernel)
set_option maxRecDepth 20000 in
theorem k675 : Cond.selects "DeskBenchModel" ({ cls := "DeskBenchModel", name := "own", desc := "(I)I" } : Jvm.MethodName) ({ cls := "DeskBenchModel", name := "own", desc := "(I)I" } : Jvm.MethodName) ∈ bigW := bw 675 (by decide +kernel) (by decide +kernel)
set_option maxRecDepth 20000 in
theorem k676 : Cond.code ({ cls := "DeskBenchModel", name := "own", desc := "(I)I" } : Jvm.MethodName) prog_7_method_14_code (2 : Nat) (Option.some Jvm.ClassFile.FieldType.int) ∈ bigW := bw 676 (by decide +kernel) (by decide +kernel)
set_option maxRecDepth 20000 in
theorem k677 : Cond.methodLink "DeskBenchLaw" (92 : Nat) ({ cls := "DeskBenchModel", name := "forget", desc := "(I)Z" } : Jvm.MethodName) ∈ bigW := bw 677 (by decide +kernel) (by decide +kernel)
set_option maxRecDepth 20000 in
theorem k678 : Cond.instanceMethod ({ cls := "DeskBenchModel", name := "forget", desc := "(I)Z" } : Jvm.MethodName) ∈ bigW := bw 678 (by decide +kernel) (by decide +kernel)
set_option maxRecDepth 20000 in
theorem k679 : Cond.selects "DeskBenchModel" ({ cls := "DeskBenchModel", name := "forget", desc := "(I)Z" } : Jvm.MethodName) ({ cls := "DeskBenchModel", name := "forget", desc := "(I)Z" } : Jvm.MethodName) ∈ bigW := bw 679 (by decide +kernel) (by decide +kernel)
set_option maxRecDepth 20000 in
theorem k680 : Cond.code ({ cls := "DeskBenchModel", name := "forget", desc := "(I)Z" } : Jvm.MethodName) prog_7_method_15_code (4 : Nat) (Option.some Jvm.ClassFile.FieldType.boolean) ∈ bigW := bw 680 (by decide +kernel) (by decide +kernel)
set_option maxRecDepth 20000 in
theorem k681 : Cond.methodLink "DeskBenchLaw" (95 : Nat) ({ cls := "DeskBenchModel", name := "run", desc := "(I)I" } : Jvm.MethodName) ∈ bigW := bw 681 (by decide +kernel) (by decide +kernel)
set_option maxRecDepth 20000 in
theorem k682 : Cond.instanceMethod ({ cls := "DeskBenchModel", name := "run", desc := "(I)I" } : Jvm.MethodName) ∈ bigW := bw 682 (by decide +kernel) (by decide +kernel)
set_option maxRecDepth 20000 in
theorem k683 : Cond.selects "DeskBenchModel" ({ cls := "DeskBenchModel", name := "run", desc := "(I)I" } : Jvm.MethodName) ({ cls := "DeskBenchModel", name := "run", desc := "(I)I" } : Jvm.MethodName) ∈ bigW := bw 683 (by decide +kernel) (by decide +kernel)
set_option maxRecDepth 20000 in
theorem k684 : Cond.code ({ cls := "DeskBenchModel", name := "run", desc := "(I)I" } : Jvm.MethodName) prog_7_method_16_code (4 : Nat) (Option.some Jvm.ClassFile.FieldType.int) ∈ bigW := bw 684 (by decide +kernel) (by decide +kernel)
set_option maxRecDepth 20000 in
theorem k686 : Cond.methodLink "DeskBenchLaw" (100 : Nat) ({ cls := "DeskBenchModel", name := "next", desc := "()Z" } : Jvm.MethodName) ∈ bigW := bw 686 (by decide +kernel) (by decide +kernel)
set_option maxRecDepth 20000 in
theorem k687 : Cond.instanceMethod ({ cls := "DeskBenchModel", name := "next", desc := "()Z" } : Jvm.MethodName) ∈ bigW := bw 687 (by decide +kernel) (by decide +kernel)
set_option maxRecDepth 20000 in
theorem k688 : Cond.selects "DeskBenchModel" ({ cls := "DeskBenchModel", name := "next", desc := "()Z" } : Jvm.MethodName) ({ cls := "DeskBenchModel", name := "next", desc := "()Z" } : Jvm.MethodName) ∈ bigW := bw 688 (by decide +kernel) (by decide +kernel)
set_option maxRecDepth 20000 in
theorem k689 : Cond.code ({ cls := "DeskBenchModel", name := "next", desc := "()Z" } : Jvm.MethodName) prog_7_method_20_code (4 : Nat) (Option.some Jvm.ClassFile.FieldType.boolean) ∈ bigW := bw 689 (by decide +kernel) (by decide +kernel)
set_option maxRecDepth 20000 in
theorem k702 : Cond.methodLink "DeskBenchLaw" (103 : Nat) ({ cls := "DeskBenchModel", name := "message", desc := "(I)I" } : Jvm.MethodName) ∈ bigW := bw 702 (by decide +kernel) (by decide +kernel)
set_option maxRecDepth 20000 in
theorem k703 : Cond.instanceMethod ({ cls := "DeskBenchModel", name := "message", desc := "(I)I" } : Jvm.MethodName) ∈ bigW := bw 703 (by decide +kernel) (by decide +kernel)
set_option maxRecDepth 20000 in
theorem k704 : Cond.selects "DeskBenchModel" ({ cls := "DeskBenchModel", name := "message", desc := "(I)I" } : Jvm.MethodName) ({ cls := "DeskBenchModel", name := "message", desc := "(I)I" } : Jvm.MethodName) ∈ bigW := bw 704 (by decide +kernel) (by decide +kernel)
set_option maxRecDepth 20000 in
theorem k705 : Cond.code ({ cls := "DeskBenchModel", name := "message", desc := "(I)I" } : Jvm.MethodName) prog_7_method_21_code (2 : Nat) (Option.some Jvm.ClassFile.FieldType.int) ∈ bigW := bw 705 (by decide +kernel) (by decide +kernel)
set_option maxRecDepth 20000 in
theorem k706 : Cond.methodLink "DeskBenchLaw" (108 : Nat) ({ cls := "DeskBenchModel", name := "named", desc := "()J" } : Jvm.MethodName) ∈ bigW := bw 706 (by decide +kernel) (by decide +kernel)
set_option maxRecDepth 20000 in
theorem k707 : Cond.instanceMethod ({ cls := "DeskBenchModel", name := "named", desc := "()J" } : Jvm.MethodName) ∈ bigW := bw 707 (by decide +kernel) (by decide +kernel)
set_option maxRecDepth 20000 in
theorem k708 : Cond.selects "DeskBenchModel" ({ cls := "DeskBenchModel", name := "named", desc := "()J" } : Jvm.MethodName) ({ cls := "DeskBenchModel", name := "named", desc := "()J" } : Jvm.MethodName) ∈ bigW := bw 708 (by decide +kernel) (by decide +kernel)
set_option maxRecDepth 20000 in
theorem k709 : Cond.code ({ cls := "DeskBenchModel", name := "named", desc := "()J" } : Jvm.MethodName) prog_7_method_22_code (1 : Nat) (Option.some Jvm.ClassFile.FieldType.long) ∈ bigW := bw 709 (by decide +kernel) (by decide +kernel)
set_option maxRecDepth 20000 in
theorem k710 : Cond.methodLink "DeskBenchLaw" (112 : Nat) ({ cls := "DeskBenchModel", name := "state", desc := "(II)I" } : Jvm.MethodName) ∈ bigW := bw 710 (by decide +kernel) (by decide +kernel)
set_option maxRecDepth 20000 in
theorem k711 : Cond.instanceMethod ({ cls := "DeskBenchModel", name := "state", desc := "(II)I" } : Jvm.MethodName) ∈ bigW := bw 711 (by decide +kernel) (by decide +kernel)
set_option maxRecDepth 20000 in
theorem k712 : Cond.selects "DeskBenchModel" ({ cls := "DeskBenchModel", name := "state", desc := "(II)I" } : Jvm.MethodName) ({ cls := "DeskBenchModel", name := "state", desc := "(II)I" } : Jvm.MethodName) ∈ bigW := bw 712 (by decide +kernel) (by decide +kernel)
set_option maxRecDepth 20000 in
theorem k713 : Cond.code ({ cls := "DeskBenchModel", name := "state", desc := "(II)I" } : Jvm.MethodName) prog_7_method_23_code (4 : Nat) (Option.some Jvm.ClassFile.FieldType.int) ∈ bigW := bw 713 (by decide +kernel) (by decide +kernel)
set_option maxRecDepth 20000 in
theorem k714 : Cond.methodLink "DeskBenchLaw" (115 : Nat) ({ cls := "DeskBenchModel", name := "known", desc := "(I)I" } : Jvm.MethodName) ∈ bigW := bw 714 (by decide +kernel) (by decide +kernel)
set_option maxRecDepth 20000 in
theorem k715 : Cond.instanceMethod ({ cls := "DeskBenchModel", name := "known", desc := "(I)I" } : Jvm.MethodName) ∈ bigW := bw 715 (by decide +kernel) (by decide +kernel)
set_option maxRecDepth 20000 in
theorem k716 : Cond.selects "DeskBenchModel" ({ cls := "DeskBenchModel", name := "known", desc := "(I)I" } : Jvm.MethodName) ({ cls := "DeskBenchModel", name := "known", desc := "(I)I" } : Jvm.MethodName) ∈ bigW := bw 716 (by decide +kernel) (by decide +kernel)
set_option maxRecDepth 20000 in
theorem k717 : Cond.code ({ cls := "DeskBenchModel", name := "known", desc := "(I)I" } : Jvm.MethodName) prog_7_method_24_code (2 : Nat) (Option.some Jvm.ClassFile.FieldType.int) ∈ bigW := bw 717 (by decide +kernel) (by decide +kernel)
set_option maxRecDepth 20000 in
theorem k718 : Cond.methodLink "DeskBenchLaw" (118 : Nat) ({ cls := "DeskBenchModel", name := "body", desc := "(I)I" } : Jvm.MethodName) ∈ bigW := bw 718 (by decide +kernel) (by decide +kernel)
set_option maxRecDepth 20000 in
theorem k719 : Cond.instanceMethod ({ cls := "DeskBenchModel", name := "body", desc := "(I)I" } : Jvm.MethodName) ∈ bigW := bw 719 (by decide +kernel) (by decide +kernel)
set_option maxRecDepth 20000 in
theorem k720 : Cond.selects "DeskBenchModel" ({ cls := "DeskBenchModel", name := "body", desc := "(I)I" } : Jvm.MethodName) ({ cls := "DeskBenchModel", name := "body", desc := "(I)I" } : Jvm.MethodName) ∈ bigW := bw 720 (by decide +kernel) (by decide +kernel)
set_option maxRecDepth 20000 in
theorem k721 : Cond.code ({ cls := "DeskBenchModel", name := "body", desc := "(I)I" } : Jvm.MethodName) prog_7_method_25_code (2 : Nat) (Option.some Jvm.ClassFile.FieldType.int) ∈ bigW := bw 721 (by decide +kernel) (by decide +kernel)
set_option maxRecDepth 20000 in
theorem k722 : Cond.methodLink "DeskBenchLaw" (121 : Nat) ({ cls := "DeskBenchModel", name := "due", desc := "(II)I" } : Jvm.MethodName) ∈ bigW := bw 722 (by decide +kernel) (by decide +kernel)
set_option maxRecDepth 20000 in
theorem k723 : Cond.instanceMethod ({ cls := "DeskBenchModel", name := "due", desc := "(II)I" } : Jvm.MethodName) ∈ bigW := bw 723 (by decide +kernel) (by decide +kernel)
set_option maxRecDepth 20000 in
theorem k724 : Cond.selects "DeskBenchModel" ({ cls := "DeskBenchModel", name := "due", desc := "(II)I" } : Jvm.MethodName) ({ cls := "DeskBenchModel", name := "due", desc := "(II)I" } : Jvm.MethodName) ∈ bigW := bw 724 (by decide +kernel) (by decide +kernel)
set_option maxRecDepth 20000 in
theorem k725 : Cond.code ({ cls := "DeskBenchModel", name := "due", desc := "(II)I" } : Jvm.MethodName) prog_7_method_26_code (6 : Nat) (Option.some Jvm.ClassFile.FieldType.int) ∈ bigW := bw 725 (by decide +kernel) (by decide +kernel)
set_option maxRecDepth 20000 in
theorem k726 : Cond.methodLink "DeskBenchLaw" (126 : Nat) ({ cls := "DeskBenchModel", name := "count", desc := "(Z)I" } : Jvm.MethodName) ∈ bigW := bw 726 (by decide +kernel) (by decide +kernel)
set_option maxRecDepth 20000 in
theorem k727 : Cond.instanceMethod ({ cls := "DeskBenchModel", name := "count", desc := "(Z)I" } : Jvm.MethodName) ∈ bigW := bw 727 (by decide +kernel) (by decide +kernel)
set_option maxRecDepth 20000 in
theorem k728 : Cond.selects "DeskBenchModel" ({ cls := "DeskBenchModel", name := "count", desc := "(Z)I" } : Jvm.MethodName) ({ cls := "DeskBenchModel", name := "count", desc := "(Z)I" } : Jvm.MethodName) ∈ bigW := bw 728 (by decide +kernel) (by decide +kernel)
set_option maxRecDepth 20000 in
theorem k729 : Cond.code ({ cls := "DeskBenchModel", name := "count", desc := "(Z)I" } : Jvm.MethodName) prog_7_method_27_code (4 : Nat) (Option.some Jvm.ClassFile.FieldType.int) ∈ bigW := bw 729 (by decide +kernel) (by decide +kernel)
set_option maxRecDepth 20000 in
theorem k730 : Cond.methodLink "DeskBenchLaw" (130 : Nat) ({ cls := "DeskBenchModel", name := "time", desc := "()I" } : Jvm.MethodName) ∈ bigW := bw 730 (by decide +kernel) (by decide +kernel)
set_option maxRecDepth 20000 in
theorem k731 : Cond.instanceMethod ({ cls := "DeskBenchModel", name := "time", desc := "()I" } : Jvm.MethodName) ∈ bigW := bw 731 (by decide +kernel) (by decide +kernel)
set_option maxRecDepth 20000 in
theorem k732 : Cond.selects "DeskBenchModel" ({ cls := "DeskBenchModel", name := "time", desc := "()I" } : Jvm.MethodName) ({ cls := "DeskBenchModel", name := "time", desc := "()I" } : Jvm.MethodName) ∈ bigW := bw 732 (by decide +kernel) (by decide +kernel)
set_option maxRecDepth 20000 in
theorem k733 : Cond.code ({ cls := "DeskBenchModel", name := "time", desc := "()I" } : Jvm.MethodName) prog_7_method_28_code (1 : Nat) (Option.some Jvm.ClassFile.FieldType.int) ∈ bigW := bw 733 (by decide +kernel) (by decide +kernel)
theorem dLaw_0 : decode code 0 = .ok (.new 8, 3) := by decide +kernel
theorem dLaw_3 : decode code 3 = .ok (.dup, 1) := by decide +kernel
theorem dLaw_4 : decode code 4 = .ok (.aload_n 0, 1) := by decide +kernel
theorem dLaw_5 : decode code 5 = .ok (.iconst 0, 1) := by decide +kernel
theorem dLaw_6 : decode code 6 = .ok (.invokestatic 53, 3) := by decide +kernel
theorem dLaw_9 : decode code 9 = .ok (.invokespecial 59, 3) := by decide +kernel
theorem dLaw_12 : decode code 12 = .ok (.astore_n 1, 1) := by decide +kernel
theorem dLaw_13 : decode code 13 = .ok (.new 62, 3) := by decide +kernel
theorem dLaw_16 : decode code 16 = .ok (.dup, 1) := by decide +kernel
theorem dLaw_17 : decode code 17 = .ok (.aload_n 0, 1) := by decide +kernel
theorem dLaw_18 : decode code 18 = .ok (.iconst 0, 1) := by decide +kernel
theorem dLaw_19 : decode code 19 = .ok (.invokestatic 53, 3) := by decide +kernel
theorem dLaw_22 : decode code 22 = .ok (.invokespecial 64, 3) := by decide +kernel
theorem dLaw_25 : decode code 25 = .ok (.astore_n 2, 1) := by decide +kernel
theorem dLaw_26 : decode code 26 = .ok (.iconst 1, 1) := by decide +kernel
theorem dLaw_27 : decode code 27 = .ok (.newarray .long, 2) := by decide +kernel
theorem dLaw_29 : decode code 29 = .ok (.astore_n 3, 1) := by decide +kernel
theorem dLaw_30 : decode code 30 = .ok (.iconst 1, 1) := by decide +kernel
theorem dLaw_31 : decode code 31 = .ok (.istore 4, 2) := by decide +kernel
theorem dLaw_33 : decode code 33 = .ok (.iload 4, 2) := by decide +kernel
theorem dLaw_35 : decode code 35 = .ok (.aload_n 0, 1) := by decide +kernel
theorem dLaw_36 : decode code 36 = .ok (.arraylength, 1) := by decide +kernel
theorem dLaw_37 : decode code 37 = .ok (.bipush 6, 2) := by decide +kernel
theorem dLaw_39 : decode code 39 = .ok (.isub, 1) := by decide +kernel
theorem dLaw_40 : decode code 40 = .ok (.if_icmp .gt 1013, 3) := by decide +kernel
theorem dLaw_43 : decode code 43 = .ok (.aload_n 0, 1) := by decide +kernel
theorem dLaw_44 : decode code 44 = .ok (.iload 4, 2) := by decide +kernel
theorem dLaw_46 : decode code 46 = .ok (.iaload, 1) := by decide +kernel
theorem dLaw_47 : decode code 47 = .ok (.bipush 15, 2) := by decide +kernel
theorem dLaw_49 : decode code 49 = .ok (.iand, 1) := by decide +kernel
theorem dLaw_50 : decode code 50 = .ok (.tableswitch 997 0 15 #[78, 169, 265, 369, 468, 493, 556, 612, 625, 681, 695, 763, 819, 875, 943, 984], 78) := by decide +kernel
theorem dLaw_128 : decode code 128 = .ok (.aload_n 1, 1) := by decide +kernel
theorem dLaw_129 : decode code 129 = .ok (.aload_n 0, 1) := by decide +kernel
theorem dLaw_130 : decode code 130 = .ok (.iload 4, 2) := by decide +kernel
theorem dLaw_132 : decode code 132 = .ok (.iconst 1, 1) := by decide +kernel
theorem dLaw_133 : decode code 133 = .ok (.iadd, 1) := by decide +kernel
theorem dLaw_134 : decode code 134 = .ok (.iaload, 1) := by decide +kernel
theorem dLaw_135 : decode code 135 = .ok (.aload_n 0, 1) := by decide +kernel
theorem dLaw_136 : decode code 136 = .ok (.iload 4, 2) := by decide +kernel
theorem dLaw_138 : decode code 138 = .ok (.iconst 2, 1) := by decide +kernel
theorem dLaw_139 : decode code 139 = .ok (.iadd, 1) := by decide +kernel
theorem dLaw_140 : decode code 140 = .ok (.iaload, 1) := by decide +kernel
theorem dLaw_141 : decode code 141 = .ok (.ifCond .eq 7, 3) := by decide +kernel
theorem dLaw_144 : decode code 144 = .ok (.iconst 1, 1) := by decide +kernel
theorem dLaw_145 : decode code 145 = .ok (.goto 4, 3) := by decide +kernel
theorem dLaw_148 : decode code 148 = .ok (.iconst 0, 1) := by decide +kernel
theorem dLaw_149 : decode code 149 = .ok (.aload_n 3, 1) := by decide +kernel
theorem dLaw_150 : decode code 150 = .ok (.invokestatic 65, 3) := by decide +kernel
theorem dLaw_153 : decode code 153 = .ok (.istore 5, 2) := by decide +kernel
theorem dLaw_155 : decode code 155 = .ok (.aload_n 2, 1) := by decide +kernel
theorem dLaw_156 : decode code 156 = .ok (.aload_n 0, 1) := by decide +kernel
theorem dLaw_157 : decode code 157 = .ok (.iload 4, 2) := by decide +kernel
theorem dLaw_159 : decode code 159 = .ok (.iconst 1, 1) := by decide +kernel
theorem dLaw_160 : decode code 160 = .ok (.iadd, 1) := by decide +kernel
theorem dLaw_161 : decode code 161 = .ok (.iaload, 1) := by decide +kernel
theorem dLaw_162 : decode code 162 = .ok (.aload_n 0, 1) := by decide +kernel
theorem dLaw_163 : decode code 163 = .ok (.iload 4, 2) := by decide +kernel
theorem dLaw_165 : decode code 165 = .ok (.iconst 2, 1) := by decide +kernel
theorem dLaw_166 : decode code 166 = .ok (.iadd, 1) := by decide +kernel
theorem dLaw_167 : decode code 167 = .ok (.iaload, 1) := by decide +kernel
theorem dLaw_168 : decode code 168 = .ok (.ifCond .eq 7, 3) := by decide +kernel
theorem dLaw_171 : decode code 171 = .ok (.iconst 1, 1) := by decide +kernel
theorem dLaw_172 : decode code 172 = .ok (.goto 4, 3) := by decide +kernel
theorem dLaw_175 : decode code 175 = .ok (.iconst 0, 1) := by decide +kernel
theorem dLaw_176 : decode code 176 = .ok (.invokevirtual 68, 3) := by decide +kernel
theorem dLaw_179 : decode code 179 = .ok (.istore 6, 2) := by decide +kernel
theorem dLaw_181 : decode code 181 = .ok (.aload_n 2, 1) := by decide +kernel
theorem dLaw_182 : decode code 182 = .ok (.invokevirtual 69, 3) := by decide +kernel
theorem dLaw_185 : decode code 185 = .ok (.iload 5, 2) := by decide +kernel
theorem dLaw_187 : decode code 187 = .ok (.if_icmp .eq 5, 3) := by decide +kernel
theorem dLaw_190 : decode code 190 = .ok (.iconst 0, 1) := by decide +kernel
theorem dLaw_191 : decode code 191 = .ok (.ireturn, 1) := by decide +kernel
theorem dLaw_192 : decode code 192 = .ok (.iload 5, 2) := by decide +kernel
theorem dLaw_194 : decode code 194 = .ok (.ifCond .ne 22, 3) := by decide +kernel
theorem dLaw_197 : decode code 197 = .ok (.aload_n 3, 1) := by decide +kernel
theorem dLaw_198 : decode code 198 = .ok (.iconst 0, 1) := by decide +kernel
theorem dLaw_199 : decode code 199 = .ok (.laload, 1) := by decide +kernel
theorem dLaw_200 : decode code 200 = .ok (.iload 6, 2) := by decide +kernel
theorem dLaw_202 : decode code 202 = .ok (.ifCond .eq 7, 3) := by decide +kernel
theorem dLaw_205 : decode code 205 = .ok (.lconst 1, 1) := by decide +kernel
theorem dLaw_206 : decode code 206 = .ok (.goto 4, 3) := by decide +kernel
theorem dLaw_209 : decode code 209 = .ok (.lconst 0, 1) := by decide +kernel
theorem dLaw_210 : decode code 210 = .ok (.lcmp, 1) := by decide +kernel
theorem dLaw_211 : decode code 211 = .ok (.ifCond .eq 5, 3) := by decide +kernel
theorem dLaw_214 : decode code 214 = .ok (.iconst 0, 1) := by decide +kernel
theorem dLaw_215 : decode code 215 = .ok (.ireturn, 1) := by decide +kernel
theorem dLaw_216 : decode code 216 = .ok (.goto 831, 3) := by decide +kernel
theorem dLaw_219 : decode code 219 = .ok (.aload_n 1, 1) := by decide +kernel
theorem dLaw_220 : decode code 220 = .ok (.aload_n 0, 1) := by decide +kernel
theorem dLaw_221 : decode code 221 = .ok (.iload 4, 2) := by decide +kernel
theorem dLaw_223 : decode code 223 = .ok (.iconst 1, 1) := by decide +kernel
theorem dLaw_224 : decode code 224 = .ok (.iadd, 1) := by decide +kernel
theorem dLaw_225 : decode code 225 = .ok (.iaload, 1) := by decide +kernel
theorem dLaw_226 : decode code 226 = .ok (.aload_n 0, 1) := by decide +kernel
theorem dLaw_227 : decode code 227 = .ok (.iload 4, 2) := by decide +kernel
theorem dLaw_229 : decode code 229 = .ok (.iconst 2, 1) := by decide +kernel
theorem dLaw_230 : decode code 230 = .ok (.iadd, 1) := by decide +kernel
theorem dLaw_231 : decode code 231 = .ok (.iaload, 1) := by decide +kernel
theorem dLaw_232 : decode code 232 = .ok (.aload_n 0, 1) := by decide +kernel
theorem dLaw_233 : decode code 233 = .ok (.iload 4, 2) := by decide +kernel
theorem dLaw_235 : decode code 235 = .ok (.iconst 3, 1) := by decide +kernel
theorem dLaw_236 : decode code 236 = .ok (.iadd, 1) := by decide +kernel
theorem dLaw_237 : decode code 237 = .ok (.iaload, 1) := by decide +kernel
theorem dLaw_238 : decode code 238 = .ok (.ifCond .eq 7, 3) := by decide +kernel
theorem dLaw_241 : decode code 241 = .ok (.iconst 1, 1) := by decide +kernel
theorem dLaw_242 : decode code 242 = .ok (.goto 4, 3) := by decide +kernel
theorem dLaw_245 : decode code 245 = .ok (.iconst 0, 1) := by decide +kernel
theorem dLaw_246 : decode code 246 = .ok (.aload_n 3, 1) := by decide +kernel
theorem dLaw_247 : decode code 247 = .ok (.invokestatic 73, 3) := by decide +kernel
theorem dLaw_250 : decode code 250 = .ok (.istore 5, 2) := by decide +kernel
theorem dLaw_252 : decode code 252 = .ok (.aload_n 2, 1) := by decide +kernel
theorem dLaw_253 : decode code 253 = .ok (.aload_n 0, 1) := by decide +kernel
theorem dLaw_254 : decode code 254 = .ok (.iload 4, 2) := by decide +kernel
theorem dLaw_256 : decode code 256 = .ok (.iconst 1, 1) := by decide +kernel
theorem dLaw_257 : decode code 257 = .ok (.iadd, 1) := by decide +kernel
theorem dLaw_258 : decode code 258 = .ok (.iaload, 1) := by decide +kernel
theorem dLaw_259 : decode code 259 = .ok (.aload_n 0, 1) := by decide +kernel
theorem dLaw_260 : decode code 260 = .ok (.iload 4, 2) := by decide +kernel
theorem dLaw_262 : decode code 262 = .ok (.iconst 2, 1) := by decide +kernel
theorem dLaw_263 : decode code 263 = .ok (.iadd, 1) := by decide +kernel
theorem dLaw_264 : decode code 264 = .ok (.iaload, 1) := by decide +kernel
theorem dLaw_265 : decode code 265 = .ok (.aload_n 0, 1) := by decide +kernel
theorem dLaw_266 : decode code 266 = .ok (.iload 4, 2) := by decide +kernel
theorem dLaw_268 : decode code 268 = .ok (.iconst 3, 1) := by decide +kernel
theorem dLaw_269 : decode code 269 = .ok (.iadd, 1) := by decide +kernel
theorem dLaw_270 : decode code 270 = .ok (.iaload, 1) := by decide +kernel
theorem dLaw_271 : decode code 271 = .ok (.ifCond .eq 7, 3) := by decide +kernel
theorem dLaw_274 : decode code 274 = .ok (.iconst 1, 1) := by decide +kernel
theorem dLaw_275 : decode code 275 = .ok (.goto 4, 3) := by decide +kernel
theorem dLaw_278 : decode code 278 = .ok (.iconst 0, 1) := by decide +kernel
theorem dLaw_279 : decode code 279 = .ok (.invokevirtual 76, 3) := by decide +kernel
theorem dLaw_282 : decode code 282 = .ok (.istore 6, 2) := by decide +kernel
theorem dLaw_284 : decode code 284 = .ok (.aload_n 2, 1) := by decide +kernel
theorem dLaw_285 : decode code 285 = .ok (.invokevirtual 69, 3) := by decide +kernel
theorem dLaw_288 : decode code 288 = .ok (.iload 5, 2) := by decide +kernel
theorem dLaw_290 : decode code 290 = .ok (.if_icmp .eq 5, 3) := by decide +kernel
theorem dLaw_293 : decode code 293 = .ok (.iconst 0, 1) := by decide +kernel
theorem dLaw_294 : decode code 294 = .ok (.ireturn, 1) := by decide +kernel
theorem dLaw_295 : decode code 295 = .ok (.iload 5, 2) := by decide +kernel
theorem dLaw_297 : decode code 297 = .ok (.ifCond .ne 15, 3) := by decide +kernel
theorem dLaw_300 : decode code 300 = .ok (.aload_n 3, 1) := by decide +kernel
theorem dLaw_301 : decode code 301 = .ok (.iconst 0, 1) := by decide +kernel
theorem dLaw_302 : decode code 302 = .ok (.laload, 1) := by decide +kernel
theorem dLaw_303 : decode code 303 = .ok (.iload 6, 2) := by decide +kernel
theorem dLaw_305 : decode code 305 = .ok (.i2l, 1) := by decide +kernel
theorem dLaw_306 : decode code 306 = .ok (.lcmp, 1) := by decide +kernel
theorem dLaw_307 : decode code 307 = .ok (.ifCond .eq 5, 3) := by decide +kernel
theorem dLaw_310 : decode code 310 = .ok (.iconst 0, 1) := by decide +kernel
theorem dLaw_311 : decode code 311 = .ok (.ireturn, 1) := by decide +kernel
theorem dLaw_312 : decode code 312 = .ok (.goto 735, 3) := by decide +kernel
theorem dLaw_315 : decode code 315 = .ok (.aload_n 1, 1) := by decide +kernel
theorem dLaw_316 : decode code 316 = .ok (.aload_n 0, 1) := by decide +kernel
theorem dLaw_317 : decode code 317 = .ok (.iload 4, 2) := by decide +kernel
theorem dLaw_319 : decode code 319 = .ok (.iconst 1, 1) := by decide +kernel
theorem dLaw_320 : decode code 320 = .ok (.iadd, 1) := by decide +kernel
theorem dLaw_321 : decode code 321 = .ok (.iaload, 1) := by decide +kernel
theorem dLaw_322 : decode code 322 = .ok (.aload_n 0, 1) := by decide +kernel
theorem dLaw_323 : decode code 323 = .ok (.iload 4, 2) := by decide +kernel
theorem dLaw_325 : decode code 325 = .ok (.iconst 2, 1) := by decide +kernel
theorem dLaw_326 : decode code 326 = .ok (.iadd, 1) := by decide +kernel
theorem dLaw_327 : decode code 327 = .ok (.iaload, 1) := by decide +kernel
theorem dLaw_328 : decode code 328 = .ok (.aload_n 0, 1) := by decide +kernel
theorem dLaw_329 : decode code 329 = .ok (.iload 4, 2) := by decide +kernel
theorem dLaw_331 : decode code 331 = .ok (.iconst 3, 1) := by decide +kernel
theorem dLaw_332 : decode code 332 = .ok (.iadd, 1) := by decide +kernel
theorem dLaw_333 : decode code 333 = .ok (.iaload, 1) := by decide +kernel
theorem dLaw_334 : decode code 334 = .ok (.aload_n 0, 1) := by decide +kernel
theorem dLaw_335 : decode code 335 = .ok (.iload 4, 2) := by decide +kernel
theorem dLaw_337 : decode code 337 = .ok (.iconst 4, 1) := by decide +kernel
theorem dLaw_338 : decode code 338 = .ok (.iadd, 1) := by decide +kernel
theorem dLaw_339 : decode code 339 = .ok (.iaload, 1) := by decide +kernel
theorem dLaw_340 : decode code 340 = .ok (.aload_n 0, 1) := by decide +kernel
theorem dLaw_341 : decode code 341 = .ok (.iload 4, 2) := by decide +kernel
theorem dLaw_343 : decode code 343 = .ok (.iconst 5, 1) := by decide +kernel
theorem dLaw_344 : decode code 344 = .ok (.iadd, 1) := by decide +kernel
theorem dLaw_345 : decode code 345 = .ok (.iaload, 1) := by decide +kernel
theorem dLaw_346 : decode code 346 = .ok (.aload_n 3, 1) := by decide +kernel
theorem dLaw_347 : decode code 347 = .ok (.invokestatic 77, 3) := by decide +kernel
theorem dLaw_350 : decode code 350 = .ok (.istore 5, 2) := by decide +kernel
theorem dLaw_352 : decode code 352 = .ok (.aload_n 2, 1) := by decide +kernel
theorem dLaw_353 : decode code 353 = .ok (.aload_n 0, 1) := by decide +kernel
theorem dLaw_354 : decode code 354 = .ok (.iload 4, 2) := by decide +kernel
theorem dLaw_356 : decode code 356 = .ok (.iconst 1, 1) := by decide +kernel
theorem dLaw_357 : decode code 357 = .ok (.iadd, 1) := by decide +kernel
theorem dLaw_358 : decode code 358 = .ok (.iaload, 1) := by decide +kernel
theorem dLaw_359 : decode code 359 = .ok (.aload_n 0, 1) := by decide +kernel
theorem dLaw_360 : decode code 360 = .ok (.iload 4, 2) := by decide +kernel
theorem dLaw_362 : decode code 362 = .ok (.iconst 2, 1) := by decide +kernel
theorem dLaw_363 : decode code 363 = .ok (.iadd, 1) := by decide +kernel
theorem dLaw_364 : decode code 364 = .ok (.iaload, 1) := by decide +kernel
theorem dLaw_365 : decode code 365 = .ok (.aload_n 0, 1) := by decide +kernel
theorem dLaw_366 : decode code 366 = .ok (.iload 4, 2) := by decide +kernel
theorem dLaw_368 : decode code 368 = .ok (.iconst 3, 1) := by decide +kernel
theorem dLaw_369 : decode code 369 = .ok (.iadd, 1) := by decide +kernel
theorem dLaw_370 : decode code 370 = .ok (.iaload, 1) := by decide +kernel
theorem dLaw_371 : decode code 371 = .ok (.aload_n 0, 1) := by decide +kernel
theorem dLaw_372 : decode code 372 = .ok (.iload 4, 2) := by decide +kernel
theorem dLaw_374 : decode code 374 = .ok (.iconst 4, 1) := by decide +kernel
theorem dLaw_375 : decode code 375 = .ok (.iadd, 1) := by decide +kernel
theorem dLaw_376 : decode code 376 = .ok (.iaload, 1) := by decide +kernel
theorem dLaw_377 : decode code 377 = .ok (.aload_n 0, 1) := by decide +kernel
theorem dLaw_378 : decode code 378 = .ok (.iload 4, 2) := by decide +kernel
theorem dLaw_380 : decode code 380 = .ok (.iconst 5, 1) := by decide +kernel
theorem dLaw_381 : decode code 381 = .ok (.iadd, 1) := by decide +kernel
theorem dLaw_382 : decode code 382 = .ok (.iaload, 1) := by decide +kernel
theorem dLaw_383 : decode code 383 = .ok (.invokevirtual 80, 3) := by decide +kernel
theorem dLaw_386 : decode code 386 = .ok (.istore 6, 2) := by decide +kernel
theorem dLaw_388 : decode code 388 = .ok (.aload_n 2, 1) := by decide +kernel
theorem dLaw_389 : decode code 389 = .ok (.invokevirtual 69, 3) := by decide +kernel
theorem dLaw_392 : decode code 392 = .ok (.iload 5, 2) := by decide +kernel
theorem dLaw_394 : decode code 394 = .ok (.if_icmp .eq 5, 3) := by decide +kernel
theorem dLaw_397 : decode code 397 = .ok (.iconst 0, 1) := by decide +kernel
theorem dLaw_398 : decode code 398 = .ok (.ireturn, 1) := by decide +kernel
theorem dLaw_399 : decode code 399 = .ok (.iload 5, 2) := by decide +kernel
theorem dLaw_401 : decode code 401 = .ok (.ifCond .ne 15, 3) := by decide +kernel
theorem dLaw_404 : decode code 404 = .ok (.aload_n 3, 1) := by decide +kernel
theorem dLaw_405 : decode code 405 = .ok (.iconst 0, 1) := by decide +kernel
theorem dLaw_406 : decode code 406 = .ok (.laload, 1) := by decide +kernel
theorem dLaw_407 : decode code 407 = .ok (.iload 6, 2) := by decide +kernel
theorem dLaw_409 : decode code 409 = .ok (.i2l, 1) := by decide +kernel
theorem dLaw_410 : decode code 410 = .ok (.lcmp, 1) := by decide +kernel
theorem dLaw_411 : decode code 411 = .ok (.ifCond .eq 5, 3) := by decide +kernel
theorem dLaw_414 : decode code 414 = .ok (.iconst 0, 1) := by decide +kernel
theorem dLaw_415 : decode code 415 = .ok (.ireturn, 1) := by decide +kernel
theorem dLaw_416 : decode code 416 = .ok (.goto 631, 3) := by decide +kernel
theorem dLaw_419 : decode code 419 = .ok (.aload_n 1, 1) := by decide +kernel
theorem dLaw_420 : decode code 420 = .ok (.aload_n 0, 1) := by decide +kernel
theorem dLaw_421 : decode code 421 = .ok (.iload 4, 2) := by decide +kernel
theorem dLaw_423 : decode code 423 = .ok (.iconst 1, 1) := by decide +kernel
theorem dLaw_424 : decode code 424 = .ok (.iadd, 1) := by decide +kernel
theorem dLaw_425 : decode code 425 = .ok (.iaload, 1) := by decide +kernel
theorem dLaw_426 : decode code 426 = .ok (.aload_n 0, 1) := by decide +kernel
theorem dLaw_427 : decode code 427 = .ok (.iload 4, 2) := by decide +kernel
theorem dLaw_429 : decode code 429 = .ok (.iconst 2, 1) := by decide +kernel
theorem dLaw_430 : decode code 430 = .ok (.iadd, 1) := by decide +kernel
theorem dLaw_431 : decode code 431 = .ok (.iaload, 1) := by decide +kernel
theorem dLaw_432 : decode code 432 = .ok (.aload_n 0, 1) := by decide +kernel
theorem dLaw_433 : decode code 433 = .ok (.iload 4, 2) := by decide +kernel
theorem dLaw_435 : decode code 435 = .ok (.iconst 3, 1) := by decide +kernel
theorem dLaw_436 : decode code 436 = .ok (.iadd, 1) := by decide +kernel
theorem dLaw_437 : decode code 437 = .ok (.iaload, 1) := by decide +kernel
theorem dLaw_438 : decode code 438 = .ok (.aload_n 0, 1) := by decide +kernel
theorem dLaw_439 : decode code 439 = .ok (.iload 4, 2) := by decide +kernel
theorem dLaw_441 : decode code 441 = .ok (.iconst 4, 1) := by decide +kernel
theorem dLaw_442 : decode code 442 = .ok (.iadd, 1) := by decide +kernel
theorem dLaw_443 : decode code 443 = .ok (.iaload, 1) := by decide +kernel
theorem dLaw_444 : decode code 444 = .ok (.aload_n 3, 1) := by decide +kernel
theorem dLaw_445 : decode code 445 = .ok (.invokestatic 81, 3) := by decide +kernel
theorem dLaw_448 : decode code 448 = .ok (.istore 5, 2) := by decide +kernel
theorem dLaw_450 : decode code 450 = .ok (.aload_n 2, 1) := by decide +kernel
theorem dLaw_451 : decode code 451 = .ok (.aload_n 0, 1) := by decide +kernel
theorem dLaw_452 : decode code 452 = .ok (.iload 4, 2) := by decide +kernel
theorem dLaw_454 : decode code 454 = .ok (.iconst 1, 1) := by decide +kernel
theorem dLaw_455 : decode code 455 = .ok (.iadd, 1) := by decide +kernel
theorem dLaw_456 : decode code 456 = .ok (.iaload, 1) := by decide +kernel
theorem dLaw_457 : decode code 457 = .ok (.aload_n 0, 1) := by decide +kernel
theorem dLaw_458 : decode code 458 = .ok (.iload 4, 2) := by decide +kernel
theorem dLaw_460 : decode code 460 = .ok (.iconst 2, 1) := by decide +kernel
theorem dLaw_461 : decode code 461 = .ok (.iadd, 1) := by decide +kernel
theorem dLaw_462 : decode code 462 = .ok (.iaload, 1) := by decide +kernel
theorem dLaw_463 : decode code 463 = .ok (.aload_n 0, 1) := by decide +kernel
theorem dLaw_464 : decode code 464 = .ok (.iload 4, 2) := by decide +kernel
theorem dLaw_466 : decode code 466 = .ok (.iconst 3, 1) := by decide +kernel
theorem dLaw_467 : decode code 467 = .ok (.iadd, 1) := by decide +kernel
theorem dLaw_468 : decode code 468 = .ok (.iaload, 1) := by decide +kernel
theorem dLaw_469 : decode code 469 = .ok (.aload_n 0, 1) := by decide +kernel
theorem dLaw_470 : decode code 470 = .ok (.iload 4, 2) := by decide +kernel
theorem dLaw_472 : decode code 472 = .ok (.iconst 4, 1) := by decide +kernel
theorem dLaw_473 : decode code 473 = .ok (.iadd, 1) := by decide +kernel
theorem dLaw_474 : decode code 474 = .ok (.iaload, 1) := by decide +kernel
theorem dLaw_475 : decode code 475 = .ok (.invokevirtual 84, 3) := by decide +kernel
theorem dLaw_478 : decode code 478 = .ok (.istore 6, 2) := by decide +kernel
theorem dLaw_480 : decode code 480 = .ok (.aload_n 2, 1) := by decide +kernel
theorem dLaw_481 : decode code 481 = .ok (.invokevirtual 69, 3) := by decide +kernel
theorem dLaw_484 : decode code 484 = .ok (.iload 5, 2) := by decide +kernel
theorem dLaw_486 : decode code 486 = .ok (.if_icmp .eq 5, 3) := by decide +kernel
theorem dLaw_489 : decode code 489 = .ok (.iconst 0, 1) := by decide +kernel
theorem dLaw_490 : decode code 490 = .ok (.ireturn, 1) := by decide +kernel
theorem dLaw_491 : decode code 491 = .ok (.iload 5, 2) := by decide +kernel
theorem dLaw_493 : decode code 493 = .ok (.ifCond .ne 22, 3) := by decide +kernel
theorem dLaw_496 : decode code 496 = .ok (.aload_n 3, 1) := by decide +kernel
theorem dLaw_497 : decode code 497 = .ok (.iconst 0, 1) := by decide +kernel
theorem dLaw_498 : decode code 498 = .ok (.laload, 1) := by decide +kernel
theorem dLaw_499 : decode code 499 = .ok (.iload 6, 2) := by decide +kernel
theorem dLaw_501 : decode code 501 = .ok (.ifCond .eq 7, 3) := by decide +kernel
theorem dLaw_504 : decode code 504 = .ok (.lconst 1, 1) := by decide +kernel
theorem dLaw_505 : decode code 505 = .ok (.goto 4, 3) := by decide +kernel
theorem dLaw_508 : decode code 508 = .ok (.lconst 0, 1) := by decide +kernel
theorem dLaw_509 : decode code 509 = .ok (.lcmp, 1) := by decide +kernel
theorem dLaw_510 : decode code 510 = .ok (.ifCond .eq 5, 3) := by decide +kernel
theorem dLaw_513 : decode code 513 = .ok (.iconst 0, 1) := by decide +kernel
theorem dLaw_514 : decode code 514 = .ok (.ireturn, 1) := by decide +kernel
theorem dLaw_515 : decode code 515 = .ok (.goto 532, 3) := by decide +kernel
theorem dLaw_518 : decode code 518 = .ok (.aload_n 1, 1) := by decide +kernel
theorem dLaw_519 : decode code 519 = .ok (.aload_n 0, 1) := by decide +kernel
theorem dLaw_520 : decode code 520 = .ok (.iload 4, 2) := by decide +kernel
theorem dLaw_522 : decode code 522 = .ok (.iconst 1, 1) := by decide +kernel
theorem dLaw_523 : decode code 523 = .ok (.iadd, 1) := by decide +kernel
theorem dLaw_524 : decode code 524 = .ok (.iaload, 1) := by decide +kernel
theorem dLaw_525 : decode code 525 = .ok (.invokevirtual 85, 3) := by decide +kernel
theorem dLaw_528 : decode code 528 = .ok (.aload_n 2, 1) := by decide +kernel
theorem dLaw_529 : decode code 529 = .ok (.aload_n 0, 1) := by decide +kernel
theorem dLaw_530 : decode code 530 = .ok (.iload 4, 2) := by decide +kernel
theorem dLaw_532 : decode code 532 = .ok (.iconst 1, 1) := by decide +kernel
theorem dLaw_533 : decode code 533 = .ok (.iadd, 1) := by decide +kernel
theorem dLaw_534 : decode code 534 = .ok (.iaload, 1) := by decide +kernel
theorem dLaw_535 : decode code 535 = .ok (.invokevirtual 88, 3) := by decide +kernel
theorem dLaw_538 : decode code 538 = .ok (.if_icmp .eq 509, 3) := by decide +kernel
theorem dLaw_541 : decode code 541 = .ok (.iconst 0, 1) := by decide +kernel
theorem dLaw_542 : decode code 542 = .ok (.ireturn, 1) := by decide +kernel
theorem dLaw_543 : decode code 543 = .ok (.aload_n 1, 1) := by decide +kernel
theorem dLaw_544 : decode code 544 = .ok (.aload_n 0, 1) := by decide +kernel
theorem dLaw_545 : decode code 545 = .ok (.iload 4, 2) := by decide +kernel
theorem dLaw_547 : decode code 547 = .ok (.iconst 1, 1) := by decide +kernel
theorem dLaw_548 : decode code 548 = .ok (.iadd, 1) := by decide +kernel
theorem dLaw_549 : decode code 549 = .ok (.iaload, 1) := by decide +kernel
theorem dLaw_550 : decode code 550 = .ok (.aload_n 3, 1) := by decide +kernel
theorem dLaw_551 : decode code 551 = .ok (.invokestatic 89, 3) := by decide +kernel
theorem dLaw_554 : decode code 554 = .ok (.istore 5, 2) := by decide +kernel
theorem dLaw_556 : decode code 556 = .ok (.aload_n 2, 1) := by decide +kernel
theorem dLaw_557 : decode code 557 = .ok (.aload_n 0, 1) := by decide +kernel
theorem dLaw_558 : decode code 558 = .ok (.iload 4, 2) := by decide +kernel
theorem dLaw_560 : decode code 560 = .ok (.iconst 1, 1) := by decide +kernel
theorem dLaw_561 : decode code 561 = .ok (.iadd, 1) := by decide +kernel
theorem dLaw_562 : decode code 562 = .ok (.iaload, 1) := by decide +kernel
theorem dLaw_563 : decode code 563 = .ok (.invokevirtual 92, 3) := by decide +kernel
theorem dLaw_566 : decode code 566 = .ok (.istore 6, 2) := by decide +kernel
theorem dLaw_568 : decode code 568 = .ok (.aload_n 2, 1) := by decide +kernel
theorem dLaw_569 : decode code 569 = .ok (.invokevirtual 69, 3) := by decide +kernel
theorem dLaw_572 : decode code 572 = .ok (.iload 5, 2) := by decide +kernel
theorem dLaw_574 : decode code 574 = .ok (.if_icmp .eq 5, 3) := by decide +kernel
theorem dLaw_577 : decode code 577 = .ok (.iconst 0, 1) := by decide +kernel
theorem dLaw_578 : decode code 578 = .ok (.ireturn, 1) := by decide +kernel
theorem dLaw_579 : decode code 579 = .ok (.iload 5, 2) := by decide +kernel
theorem dLaw_581 : decode code 581 = .ok (.ifCond .ne 22, 3) := by decide +kernel
theorem dLaw_584 : decode code 584 = .ok (.aload_n 3, 1) := by decide +kernel
theorem dLaw_585 : decode code 585 = .ok (.iconst 0, 1) := by decide +kernel
theorem dLaw_586 : decode code 586 = .ok (.laload, 1) := by decide +kernel
theorem dLaw_587 : decode code 587 = .ok (.iload 6, 2) := by decide +kernel
theorem dLaw_589 : decode code 589 = .ok (.ifCond .eq 7, 3) := by decide +kernel
theorem dLaw_592 : decode code 592 = .ok (.lconst 1, 1) := by decide +kernel
theorem dLaw_593 : decode code 593 = .ok (.goto 4, 3) := by decide +kernel
theorem dLaw_596 : decode code 596 = .ok (.lconst 0, 1) := by decide +kernel
theorem dLaw_597 : decode code 597 = .ok (.lcmp, 1) := by decide +kernel
theorem dLaw_598 : decode code 598 = .ok (.ifCond .eq 5, 3) := by decide +kernel
theorem dLaw_601 : decode code 601 = .ok (.iconst 0, 1) := by decide +kernel
theorem dLaw_602 : decode code 602 = .ok (.ireturn, 1) := by decide +kernel
theorem dLaw_603 : decode code 603 = .ok (.goto 444, 3) := by decide +kernel
theorem dLaw_606 : decode code 606 = .ok (.aload_n 1, 1) := by decide +kernel
theorem dLaw_607 : decode code 607 = .ok (.aload_n 0, 1) := by decide +kernel
theorem dLaw_608 : decode code 608 = .ok (.iload 4, 2) := by decide +kernel
theorem dLaw_610 : decode code 610 = .ok (.iconst 1, 1) := by decide +kernel
theorem dLaw_611 : decode code 611 = .ok (.iadd, 1) := by decide +kernel
theorem dLaw_612 : decode code 612 = .ok (.iaload, 1) := by decide +kernel
theorem dLaw_613 : decode code 613 = .ok (.aload_n 3, 1) := by decide +kernel
theorem dLaw_614 : decode code 614 = .ok (.invokestatic 93, 3) := by decide +kernel
theorem dLaw_617 : decode code 617 = .ok (.istore 5, 2) := by decide +kernel
theorem dLaw_619 : decode code 619 = .ok (.aload_n 2, 1) := by decide +kernel
theorem dLaw_620 : decode code 620 = .ok (.aload_n 0, 1) := by decide +kernel
theorem dLaw_621 : decode code 621 = .ok (.iload 4, 2) := by decide +kernel
theorem dLaw_623 : decode code 623 = .ok (.iconst 1, 1) := by decide +kernel
theorem dLaw_624 : decode code 624 = .ok (.iadd, 1) := by decide +kernel
theorem dLaw_625 : decode code 625 = .ok (.iaload, 1) := by decide +kernel
theorem dLaw_626 : decode code 626 = .ok (.invokevirtual 95, 3) := by decide +kernel
theorem dLaw_629 : decode code 629 = .ok (.istore 6, 2) := by decide +kernel
theorem dLaw_631 : decode code 631 = .ok (.aload_n 2, 1) := by decide +kernel
theorem dLaw_632 : decode code 632 = .ok (.invokevirtual 69, 3) := by decide +kernel
theorem dLaw_635 : decode code 635 = .ok (.iload 5, 2) := by decide +kernel
theorem dLaw_637 : decode code 637 = .ok (.if_icmp .eq 5, 3) := by decide +kernel
theorem dLaw_640 : decode code 640 = .ok (.iconst 0, 1) := by decide +kernel
theorem dLaw_641 : decode code 641 = .ok (.ireturn, 1) := by decide +kernel
theorem dLaw_642 : decode code 642 = .ok (.iload 5, 2) := by decide +kernel
theorem dLaw_644 : decode code 644 = .ok (.ifCond .ne 15, 3) := by decide +kernel
theorem dLaw_647 : decode code 647 = .ok (.aload_n 3, 1) := by decide +kernel
theorem dLaw_648 : decode code 648 = .ok (.iconst 0, 1) := by decide +kernel
theorem dLaw_649 : decode code 649 = .ok (.laload, 1) := by decide +kernel
theorem dLaw_650 : decode code 650 = .ok (.iload 6, 2) := by decide +kernel
theorem dLaw_652 : decode code 652 = .ok (.i2l, 1) := by decide +kernel
theorem dLaw_653 : decode code 653 = .ok (.lcmp, 1) := by decide +kernel
theorem dLaw_654 : decode code 654 = .ok (.ifCond .eq 5, 3) := by decide +kernel
theorem dLaw_657 : decode code 657 = .ok (.iconst 0, 1) := by decide +kernel
theorem dLaw_658 : decode code 658 = .ok (.ireturn, 1) := by decide +kernel
theorem dLaw_659 : decode code 659 = .ok (.goto 388, 3) := by decide +kernel
theorem dLaw_662 : decode code 662 = .ok (.aload_n 1, 1) := by decide +kernel
theorem dLaw_663 : decode code 663 = .ok (.invokevirtual 96, 3) := by decide +kernel
theorem dLaw_666 : decode code 666 = .ok (.aload_n 2, 1) := by decide +kernel
theorem dLaw_667 : decode code 667 = .ok (.invokevirtual 100, 3) := by decide +kernel
theorem dLaw_670 : decode code 670 = .ok (.if_icmp .eq 377, 3) := by decide +kernel
theorem dLaw_673 : decode code 673 = .ok (.iconst 0, 1) := by decide +kernel
theorem dLaw_674 : decode code 674 = .ok (.ireturn, 1) := by decide +kernel
theorem dLaw_675 : decode code 675 = .ok (.aload_n 1, 1) := by decide +kernel
theorem dLaw_676 : decode code 676 = .ok (.aload_n 0, 1) := by decide +kernel
theorem dLaw_677 : decode code 677 = .ok (.iload 4, 2) := by decide +kernel
theorem dLaw_679 : decode code 679 = .ok (.iconst 1, 1) := by decide +kernel
theorem dLaw_680 : decode code 680 = .ok (.iadd, 1) := by decide +kernel
theorem dLaw_681 : decode code 681 = .ok (.iaload, 1) := by decide +kernel
theorem dLaw_682 : decode code 682 = .ok (.aload_n 3, 1) := by decide +kernel
theorem dLaw_683 : decode code 683 = .ok (.invokestatic 101, 3) := by decide +kernel
theorem dLaw_686 : decode code 686 = .ok (.istore 5, 2) := by decide +kernel
theorem dLaw_688 : decode code 688 = .ok (.aload_n 2, 1) := by decide +kernel
theorem dLaw_689 : decode code 689 = .ok (.aload_n 0, 1) := by decide +kernel
theorem dLaw_690 : decode code 690 = .ok (.iload 4, 2) := by decide +kernel
theorem dLaw_692 : decode code 692 = .ok (.iconst 1, 1) := by decide +kernel
theorem dLaw_693 : decode code 693 = .ok (.iadd, 1) := by decide +kernel
theorem dLaw_694 : decode code 694 = .ok (.iaload, 1) := by decide +kernel
theorem dLaw_695 : decode code 695 = .ok (.invokevirtual 103, 3) := by decide +kernel
theorem dLaw_698 : decode code 698 = .ok (.istore 6, 2) := by decide +kernel
theorem dLaw_700 : decode code 700 = .ok (.aload_n 2, 1) := by decide +kernel
theorem dLaw_701 : decode code 701 = .ok (.invokevirtual 69, 3) := by decide +kernel
theorem dLaw_704 : decode code 704 = .ok (.iload 5, 2) := by decide +kernel
theorem dLaw_706 : decode code 706 = .ok (.if_icmp .eq 5, 3) := by decide +kernel
theorem dLaw_709 : decode code 709 = .ok (.iconst 0, 1) := by decide +kernel
theorem dLaw_710 : decode code 710 = .ok (.ireturn, 1) := by decide +kernel
theorem dLaw_711 : decode code 711 = .ok (.iload 5, 2) := by decide +kernel
theorem dLaw_713 : decode code 713 = .ok (.ifCond .ne 15, 3) := by decide +kernel
theorem dLaw_716 : decode code 716 = .ok (.aload_n 3, 1) := by decide +kernel
theorem dLaw_717 : decode code 717 = .ok (.iconst 0, 1) := by decide +kernel
theorem dLaw_718 : decode code 718 = .ok (.laload, 1) := by decide +kernel
theorem dLaw_719 : decode code 719 = .ok (.iload 6, 2) := by decide +kernel
theorem dLaw_721 : decode code 721 = .ok (.i2l, 1) := by decide +kernel
theorem dLaw_722 : decode code 722 = .ok (.lcmp, 1) := by decide +kernel
theorem dLaw_723 : decode code 723 = .ok (.ifCond .eq 5, 3) := by decide +kernel
theorem dLaw_726 : decode code 726 = .ok (.iconst 0, 1) := by decide +kernel
theorem dLaw_727 : decode code 727 = .ok (.ireturn, 1) := by decide +kernel
theorem dLaw_728 : decode code 728 = .ok (.goto 319, 3) := by decide +kernel
theorem dLaw_731 : decode code 731 = .ok (.aload_n 1, 1) := by decide +kernel
theorem dLaw_732 : decode code 732 = .ok (.invokevirtual 104, 3) := by decide +kernel
theorem dLaw_735 : decode code 735 = .ok (.aload_n 2, 1) := by decide +kernel
theorem dLaw_736 : decode code 736 = .ok (.invokevirtual 108, 3) := by decide +kernel
theorem dLaw_739 : decode code 739 = .ok (.lcmp, 1) := by decide +kernel
theorem dLaw_740 : decode code 740 = .ok (.ifCond .eq 307, 3) := by decide +kernel
theorem dLaw_743 : decode code 743 = .ok (.iconst 0, 1) := by decide +kernel
theorem dLaw_744 : decode code 744 = .ok (.ireturn, 1) := by decide +kernel
theorem dLaw_745 : decode code 745 = .ok (.aload_n 1, 1) := by decide +kernel
theorem dLaw_746 : decode code 746 = .ok (.aload_n 0, 1) := by decide +kernel
theorem dLaw_747 : decode code 747 = .ok (.iload 4, 2) := by decide +kernel
theorem dLaw_749 : decode code 749 = .ok (.iconst 1, 1) := by decide +kernel
theorem dLaw_750 : decode code 750 = .ok (.iadd, 1) := by decide +kernel
theorem dLaw_751 : decode code 751 = .ok (.iaload, 1) := by decide +kernel
theorem dLaw_752 : decode code 752 = .ok (.aload_n 0, 1) := by decide +kernel
theorem dLaw_753 : decode code 753 = .ok (.iload 4, 2) := by decide +kernel
theorem dLaw_755 : decode code 755 = .ok (.iconst 2, 1) := by decide +kernel
theorem dLaw_756 : decode code 756 = .ok (.iadd, 1) := by decide +kernel
theorem dLaw_757 : decode code 757 = .ok (.iaload, 1) := by decide +kernel
theorem dLaw_758 : decode code 758 = .ok (.aload_n 3, 1) := by decide +kernel
theorem dLaw_759 : decode code 759 = .ok (.invokestatic 109, 3) := by decide +kernel
theorem dLaw_762 : decode code 762 = .ok (.istore 5, 2) := by decide +kernel
theorem dLaw_764 : decode code 764 = .ok (.aload_n 2, 1) := by decide +kernel
theorem dLaw_765 : decode code 765 = .ok (.aload_n 0, 1) := by decide +kernel
theorem dLaw_766 : decode code 766 = .ok (.iload 4, 2) := by decide +kernel
theorem dLaw_768 : decode code 768 = .ok (.iconst 1, 1) := by decide +kernel
theorem dLaw_769 : decode code 769 = .ok (.iadd, 1) := by decide +kernel
theorem dLaw_770 : decode code 770 = .ok (.iaload, 1) := by decide +kernel
theorem dLaw_771 : decode code 771 = .ok (.aload_n 0, 1) := by decide +kernel
theorem dLaw_772 : decode code 772 = .ok (.iload 4, 2) := by decide +kernel
theorem dLaw_774 : decode code 774 = .ok (.iconst 2, 1) := by decide +kernel
theorem dLaw_775 : decode code 775 = .ok (.iadd, 1) := by decide +kernel
theorem dLaw_776 : decode code 776 = .ok (.iaload, 1) := by decide +kernel
theorem dLaw_777 : decode code 777 = .ok (.invokevirtual 112, 3) := by decide +kernel
theorem dLaw_780 : decode code 780 = .ok (.istore 6, 2) := by decide +kernel
theorem dLaw_782 : decode code 782 = .ok (.aload_n 2, 1) := by decide +kernel
theorem dLaw_783 : decode code 783 = .ok (.invokevirtual 69, 3) := by decide +kernel
theorem dLaw_786 : decode code 786 = .ok (.iload 5, 2) := by decide +kernel
theorem dLaw_788 : decode code 788 = .ok (.if_icmp .eq 5, 3) := by decide +kernel
theorem dLaw_791 : decode code 791 = .ok (.iconst 0, 1) := by decide +kernel
theorem dLaw_792 : decode code 792 = .ok (.ireturn, 1) := by decide +kernel
theorem dLaw_793 : decode code 793 = .ok (.iload 5, 2) := by decide +kernel
theorem dLaw_795 : decode code 795 = .ok (.ifCond .ne 15, 3) := by decide +kernel
theorem dLaw_798 : decode code 798 = .ok (.aload_n 3, 1) := by decide +kernel
theorem dLaw_799 : decode code 799 = .ok (.iconst 0, 1) := by decide +kernel
theorem dLaw_800 : decode code 800 = .ok (.laload, 1) := by decide +kernel
theorem dLaw_801 : decode code 801 = .ok (.iload 6, 2) := by decide +kernel
theorem dLaw_803 : decode code 803 = .ok (.i2l, 1) := by decide +kernel
theorem dLaw_804 : decode code 804 = .ok (.lcmp, 1) := by decide +kernel
theorem dLaw_805 : decode code 805 = .ok (.ifCond .eq 5, 3) := by decide +kernel
theorem dLaw_808 : decode code 808 = .ok (.iconst 0, 1) := by decide +kernel
theorem dLaw_809 : decode code 809 = .ok (.ireturn, 1) := by decide +kernel
theorem dLaw_810 : decode code 810 = .ok (.goto 237, 3) := by decide +kernel
theorem dLaw_813 : decode code 813 = .ok (.aload_n 1, 1) := by decide +kernel
theorem dLaw_814 : decode code 814 = .ok (.aload_n 0, 1) := by decide +kernel
theorem dLaw_815 : decode code 815 = .ok (.iload 4, 2) := by decide +kernel
theorem dLaw_817 : decode code 817 = .ok (.iconst 1, 1) := by decide +kernel
theorem dLaw_818 : decode code 818 = .ok (.iadd, 1) := by decide +kernel
theorem dLaw_819 : decode code 819 = .ok (.iaload, 1) := by decide +kernel
theorem dLaw_820 : decode code 820 = .ok (.aload_n 3, 1) := by decide +kernel
theorem dLaw_821 : decode code 821 = .ok (.invokestatic 113, 3) := by decide +kernel
theorem dLaw_824 : decode code 824 = .ok (.istore 5, 2) := by decide +kernel
theorem dLaw_826 : decode code 826 = .ok (.aload_n 2, 1) := by decide +kernel
theorem dLaw_827 : decode code 827 = .ok (.aload_n 0, 1) := by decide +kernel
theorem dLaw_828 : decode code 828 = .ok (.iload 4, 2) := by decide +kernel
theorem dLaw_830 : decode code 830 = .ok (.iconst 1, 1) := by decide +kernel
theorem dLaw_831 : decode code 831 = .ok (.iadd, 1) := by decide +kernel
theorem dLaw_832 : decode code 832 = .ok (.iaload, 1) := by decide +kernel
theorem dLaw_833 : decode code 833 = .ok (.invokevirtual 115, 3) := by decide +kernel
theorem dLaw_836 : decode code 836 = .ok (.istore 6, 2) := by decide +kernel
theorem dLaw_838 : decode code 838 = .ok (.aload_n 2, 1) := by decide +kernel
theorem dLaw_839 : decode code 839 = .ok (.invokevirtual 69, 3) := by decide +kernel
theorem dLaw_842 : decode code 842 = .ok (.iload 5, 2) := by decide +kernel
theorem dLaw_844 : decode code 844 = .ok (.if_icmp .eq 5, 3) := by decide +kernel
theorem dLaw_847 : decode code 847 = .ok (.iconst 0, 1) := by decide +kernel
theorem dLaw_848 : decode code 848 = .ok (.ireturn, 1) := by decide +kernel
theorem dLaw_849 : decode code 849 = .ok (.iload 5, 2) := by decide +kernel
theorem dLaw_851 : decode code 851 = .ok (.ifCond .ne 15, 3) := by decide +kernel
theorem dLaw_854 : decode code 854 = .ok (.aload_n 3, 1) := by decide +kernel
theorem dLaw_855 : decode code 855 = .ok (.iconst 0, 1) := by decide +kernel
theorem dLaw_856 : decode code 856 = .ok (.laload, 1) := by decide +kernel
theorem dLaw_857 : decode code 857 = .ok (.iload 6, 2) := by decide +kernel
theorem dLaw_859 : decode code 859 = .ok (.i2l, 1) := by decide +kernel
theorem dLaw_860 : decode code 860 = .ok (.lcmp, 1) := by decide +kernel
theorem dLaw_861 : decode code 861 = .ok (.ifCond .eq 5, 3) := by decide +kernel
theorem dLaw_864 : decode code 864 = .ok (.iconst 0, 1) := by decide +kernel
theorem dLaw_865 : decode code 865 = .ok (.ireturn, 1) := by decide +kernel
theorem dLaw_866 : decode code 866 = .ok (.goto 181, 3) := by decide +kernel
theorem dLaw_869 : decode code 869 = .ok (.aload_n 1, 1) := by decide +kernel
theorem dLaw_870 : decode code 870 = .ok (.aload_n 0, 1) := by decide +kernel
theorem dLaw_871 : decode code 871 = .ok (.iload 4, 2) := by decide +kernel
theorem dLaw_873 : decode code 873 = .ok (.iconst 1, 1) := by decide +kernel
theorem dLaw_874 : decode code 874 = .ok (.iadd, 1) := by decide +kernel
theorem dLaw_875 : decode code 875 = .ok (.iaload, 1) := by decide +kernel
theorem dLaw_876 : decode code 876 = .ok (.aload_n 3, 1) := by decide +kernel
theorem dLaw_877 : decode code 877 = .ok (.invokestatic 116, 3) := by decide +kernel
theorem dLaw_880 : decode code 880 = .ok (.istore 5, 2) := by decide +kernel
theorem dLaw_882 : decode code 882 = .ok (.aload_n 2, 1) := by decide +kernel
theorem dLaw_883 : decode code 883 = .ok (.aload_n 0, 1) := by decide +kernel
theorem dLaw_884 : decode code 884 = .ok (.iload 4, 2) := by decide +kernel
theorem dLaw_886 : decode code 886 = .ok (.iconst 1, 1) := by decide +kernel
theorem dLaw_887 : decode code 887 = .ok (.iadd, 1) := by decide +kernel
theorem dLaw_888 : decode code 888 = .ok (.iaload, 1) := by decide +kernel
theorem dLaw_889 : decode code 889 = .ok (.invokevirtual 118, 3) := by decide +kernel
theorem dLaw_892 : decode code 892 = .ok (.istore 6, 2) := by decide +kernel
theorem dLaw_894 : decode code 894 = .ok (.aload_n 2, 1) := by decide +kernel
theorem dLaw_895 : decode code 895 = .ok (.invokevirtual 69, 3) := by decide +kernel
theorem dLaw_898 : decode code 898 = .ok (.iload 5, 2) := by decide +kernel
theorem dLaw_900 : decode code 900 = .ok (.if_icmp .eq 5, 3) := by decide +kernel
theorem dLaw_903 : decode code 903 = .ok (.iconst 0, 1) := by decide +kernel
theorem dLaw_904 : decode code 904 = .ok (.ireturn, 1) := by decide +kernel
theorem dLaw_905 : decode code 905 = .ok (.iload 5, 2) := by decide +kernel
theorem dLaw_907 : decode code 907 = .ok (.ifCond .ne 15, 3) := by decide +kernel
theorem dLaw_910 : decode code 910 = .ok (.aload_n 3, 1) := by decide +kernel
theorem dLaw_911 : decode code 911 = .ok (.iconst 0, 1) := by decide +kernel
theorem dLaw_912 : decode code 912 = .ok (.laload, 1) := by decide +kernel
theorem dLaw_913 : decode code 913 = .ok (.iload 6, 2) := by decide +kernel
theorem dLaw_915 : decode code 915 = .ok (.i2l, 1) := by decide +kernel
theorem dLaw_916 : decode code 916 = .ok (.lcmp, 1) := by decide +kernel
theorem dLaw_917 : decode code 917 = .ok (.ifCond .eq 5, 3) := by decide +kernel
theorem dLaw_920 : decode code 920 = .ok (.iconst 0, 1) := by decide +kernel
theorem dLaw_921 : decode code 921 = .ok (.ireturn, 1) := by decide +kernel
theorem dLaw_922 : decode code 922 = .ok (.goto 125, 3) := by decide +kernel
theorem dLaw_925 : decode code 925 = .ok (.aload_n 1, 1) := by decide +kernel
theorem dLaw_926 : decode code 926 = .ok (.aload_n 0, 1) := by decide +kernel
theorem dLaw_927 : decode code 927 = .ok (.iload 4, 2) := by decide +kernel
theorem dLaw_929 : decode code 929 = .ok (.iconst 1, 1) := by decide +kernel
theorem dLaw_930 : decode code 930 = .ok (.iadd, 1) := by decide +kernel
theorem dLaw_931 : decode code 931 = .ok (.iaload, 1) := by decide +kernel
theorem dLaw_932 : decode code 932 = .ok (.aload_n 0, 1) := by decide +kernel
theorem dLaw_933 : decode code 933 = .ok (.iload 4, 2) := by decide +kernel
theorem dLaw_935 : decode code 935 = .ok (.iconst 2, 1) := by decide +kernel
theorem dLaw_936 : decode code 936 = .ok (.iadd, 1) := by decide +kernel
theorem dLaw_937 : decode code 937 = .ok (.iaload, 1) := by decide +kernel
theorem dLaw_938 : decode code 938 = .ok (.aload_n 3, 1) := by decide +kernel
theorem dLaw_939 : decode code 939 = .ok (.invokestatic 119, 3) := by decide +kernel
theorem dLaw_942 : decode code 942 = .ok (.istore 5, 2) := by decide +kernel
theorem dLaw_944 : decode code 944 = .ok (.aload_n 2, 1) := by decide +kernel
theorem dLaw_945 : decode code 945 = .ok (.aload_n 0, 1) := by decide +kernel
theorem dLaw_946 : decode code 946 = .ok (.iload 4, 2) := by decide +kernel
theorem dLaw_948 : decode code 948 = .ok (.iconst 1, 1) := by decide +kernel
theorem dLaw_949 : decode code 949 = .ok (.iadd, 1) := by decide +kernel
theorem dLaw_950 : decode code 950 = .ok (.iaload, 1) := by decide +kernel
theorem dLaw_951 : decode code 951 = .ok (.aload_n 0, 1) := by decide +kernel
theorem dLaw_952 : decode code 952 = .ok (.iload 4, 2) := by decide +kernel
theorem dLaw_954 : decode code 954 = .ok (.iconst 2, 1) := by decide +kernel
theorem dLaw_955 : decode code 955 = .ok (.iadd, 1) := by decide +kernel
theorem dLaw_956 : decode code 956 = .ok (.iaload, 1) := by decide +kernel
theorem dLaw_957 : decode code 957 = .ok (.invokevirtual 121, 3) := by decide +kernel
theorem dLaw_960 : decode code 960 = .ok (.istore 6, 2) := by decide +kernel
theorem dLaw_962 : decode code 962 = .ok (.aload_n 2, 1) := by decide +kernel
theorem dLaw_963 : decode code 963 = .ok (.invokevirtual 69, 3) := by decide +kernel
theorem dLaw_966 : decode code 966 = .ok (.iload 5, 2) := by decide +kernel
theorem dLaw_968 : decode code 968 = .ok (.if_icmp .eq 5, 3) := by decide +kernel
theorem dLaw_971 : decode code 971 = .ok (.iconst 0, 1) := by decide +kernel
theorem dLaw_972 : decode code 972 = .ok (.ireturn, 1) := by decide +kernel
theorem dLaw_973 : decode code 973 = .ok (.iload 5, 2) := by decide +kernel
theorem dLaw_975 : decode code 975 = .ok (.ifCond .ne 15, 3) := by decide +kernel
theorem dLaw_978 : decode code 978 = .ok (.aload_n 3, 1) := by decide +kernel
theorem dLaw_979 : decode code 979 = .ok (.iconst 0, 1) := by decide +kernel
theorem dLaw_980 : decode code 980 = .ok (.laload, 1) := by decide +kernel
theorem dLaw_981 : decode code 981 = .ok (.iload 6, 2) := by decide +kernel
theorem dLaw_983 : decode code 983 = .ok (.i2l, 1) := by decide +kernel
theorem dLaw_984 : decode code 984 = .ok (.lcmp, 1) := by decide +kernel
theorem dLaw_985 : decode code 985 = .ok (.ifCond .eq 5, 3) := by decide +kernel
theorem dLaw_988 : decode code 988 = .ok (.iconst 0, 1) := by decide +kernel
theorem dLaw_989 : decode code 989 = .ok (.ireturn, 1) := by decide +kernel
theorem dLaw_990 : decode code 990 = .ok (.goto 57, 3) := by decide +kernel
theorem dLaw_993 : decode code 993 = .ok (.aload_n 1, 1) := by decide +kernel
theorem dLaw_994 : decode code 994 = .ok (.aload_n 0, 1) := by decide +kernel
theorem dLaw_995 : decode code 995 = .ok (.iload 4, 2) := by decide +kernel
theorem dLaw_997 : decode code 997 = .ok (.iconst 1, 1) := by decide +kernel
theorem dLaw_998 : decode code 998 = .ok (.iadd, 1) := by decide +kernel
theorem dLaw_999 : decode code 999 = .ok (.iaload, 1) := by decide +kernel
theorem dLaw_1000 : decode code 1000 = .ok (.ifCond .eq 7, 3) := by decide +kernel
theorem dLaw_1003 : decode code 1003 = .ok (.iconst 1, 1) := by decide +kernel
theorem dLaw_1004 : decode code 1004 = .ok (.goto 4, 3) := by decide +kernel
theorem dLaw_1007 : decode code 1007 = .ok (.iconst 0, 1) := by decide +kernel
theorem dLaw_1008 : decode code 1008 = .ok (.invokevirtual 122, 3) := by decide +kernel
theorem dLaw_1011 : decode code 1011 = .ok (.aload_n 2, 1) := by decide +kernel
theorem dLaw_1012 : decode code 1012 = .ok (.aload_n 0, 1) := by decide +kernel
theorem dLaw_1013 : decode code 1013 = .ok (.iload 4, 2) := by decide +kernel
theorem dLaw_1015 : decode code 1015 = .ok (.iconst 1, 1) := by decide +kernel
theorem dLaw_1016 : decode code 1016 = .ok (.iadd, 1) := by decide +kernel
theorem dLaw_1017 : decode code 1017 = .ok (.iaload, 1) := by decide +kernel
theorem dLaw_1018 : decode code 1018 = .ok (.ifCond .eq 7, 3) := by decide +kernel
theorem dLaw_1021 : decode code 1021 = .ok (.iconst 1, 1) := by decide +kernel
theorem dLaw_1022 : decode code 1022 = .ok (.goto 4, 3) := by decide +kernel
theorem dLaw_1025 : decode code 1025 = .ok (.iconst 0, 1) := by decide +kernel
theorem dLaw_1026 : decode code 1026 = .ok (.invokevirtual 126, 3) := by decide +kernel
theorem dLaw_1029 : decode code 1029 = .ok (.if_icmp .eq 18, 3) := by decide +kernel
theorem dLaw_1032 : decode code 1032 = .ok (.iconst 0, 1) := by decide +kernel
theorem dLaw_1033 : decode code 1033 = .ok (.ireturn, 1) := by decide +kernel
theorem dLaw_1034 : decode code 1034 = .ok (.aload_n 1, 1) := by decide +kernel
theorem dLaw_1035 : decode code 1035 = .ok (.invokevirtual 127, 3) := by decide +kernel
theorem dLaw_1038 : decode code 1038 = .ok (.aload_n 2, 1) := by decide +kernel
theorem dLaw_1039 : decode code 1039 = .ok (.invokevirtual 130, 3) := by decide +kernel
theorem dLaw_1042 : decode code 1042 = .ok (.if_icmp .eq 5, 3) := by decide +kernel
theorem dLaw_1045 : decode code 1045 = .ok (.iconst 0, 1) := by decide +kernel
theorem dLaw_1046 : decode code 1046 = .ok (.ireturn, 1) := by decide +kernel
theorem dLaw_1047 : decode code 1047 = .ok (.iinc 4 6, 3) := by decide +kernel
theorem dLaw_1050 : decode code 1050 = .ok (.goto (-1017), 3) := by decide +kernel
theorem dLaw_1053 : decode code 1053 = .ok (.iconst 1, 1) := by decide +kernel
theorem dLaw_1054 : decode code 1054 = .ok (.ireturn, 1) := by decide +kernel
