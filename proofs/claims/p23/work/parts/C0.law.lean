/-! THE LAW, block by block -/
theorem n_w17 : (Jvm.Cond.classLink "BalanceCoderLaw" (7 : Nat) "BalanceCoder") ∈ n_GW := n_in 68 (by decide +kernel) (by decide +kernel)
theorem n_w18 : (Jvm.Cond.instantiable "BalanceCoder" (8 : Nat)) ∈ n_GW := n_in 69 (by decide +kernel) (by decide +kernel)
theorem n_w19 : (Jvm.Cond.methodLink "BalanceCoderLaw" (9 : Nat) ({ cls := "BalanceCoder", name := "<init>", desc := "()V" } : Jvm.MethodName)) ∈ n_GW := n_in 70 (by decide +kernel) (by decide +kernel)
theorem n_w20 : (Jvm.Cond.instanceMethod ({ cls := "BalanceCoder", name := "<init>", desc := "()V" } : Jvm.MethodName)) ∈ n_GW := n_in 71 (by decide +kernel) (by decide +kernel)
theorem n_w21 : (Jvm.Cond.code ({ cls := "BalanceCoder", name := "<init>", desc := "()V" } : Jvm.MethodName) prog_1_method_1_code (1 : Nat) (Option.none : Option Jvm.ClassFile.FieldType)) ∈ n_GW := n_in 72 (by decide +kernel) (by decide +kernel)
theorem n_w298 : (Jvm.Cond.methodLink "BalanceCoderLaw" (15 : Nat) ({ cls := "BalanceCoder", name := "put", desc := "(IJI)I" } : Jvm.MethodName)) ∈ n_GW := n_in 349 (by decide +kernel) (by decide +kernel)
theorem n_w299 : (Jvm.Cond.instanceMethod ({ cls := "BalanceCoder", name := "put", desc := "(IJI)I" } : Jvm.MethodName)) ∈ n_GW := n_in 350 (by decide +kernel) (by decide +kernel)
theorem n_w300 : (Jvm.Cond.selects "BalanceCoder" ({ cls := "BalanceCoder", name := "put", desc := "(IJI)I" } : Jvm.MethodName) ({ cls := "BalanceCoder", name := "put", desc := "(IJI)I" } : Jvm.MethodName)) ∈ n_GW := n_in 351 (by decide +kernel) (by decide +kernel)
theorem n_w301 : (Jvm.Cond.code ({ cls := "BalanceCoder", name := "put", desc := "(IJI)I" } : Jvm.MethodName) prog_1_method_2_code (7 : Nat) (Option.some Jvm.ClassFile.FieldType.int)) ∈ n_GW := n_in 352 (by decide +kernel) (by decide +kernel)
theorem n_w317 : (Jvm.Cond.methodLink "BalanceCoderLaw" (20 : Nat) ({ cls := "BalanceCoder", name := "clear", desc := "(I)I" } : Jvm.MethodName)) ∈ n_GW := n_in 368 (by decide +kernel) (by decide +kernel)
theorem n_w318 : (Jvm.Cond.instanceMethod ({ cls := "BalanceCoder", name := "clear", desc := "(I)I" } : Jvm.MethodName)) ∈ n_GW := n_in 369 (by decide +kernel) (by decide +kernel)
theorem n_w319 : (Jvm.Cond.selects "BalanceCoder" ({ cls := "BalanceCoder", name := "clear", desc := "(I)I" } : Jvm.MethodName) ({ cls := "BalanceCoder", name := "clear", desc := "(I)I" } : Jvm.MethodName)) ∈ n_GW := n_in 370 (by decide +kernel) (by decide +kernel)
theorem n_w320 : (Jvm.Cond.code ({ cls := "BalanceCoder", name := "clear", desc := "(I)I" } : Jvm.MethodName) prog_1_method_3_code (4 : Nat) (Option.some Jvm.ClassFile.FieldType.int)) ∈ n_GW := n_in 371 (by decide +kernel) (by decide +kernel)
theorem n_w321 : (Jvm.Cond.methodLink "BalanceCoderLaw" (25 : Nat) ({ cls := "BalanceCoder", name := "at", desc := "(II)I" } : Jvm.MethodName)) ∈ n_GW := n_in 372 (by decide +kernel) (by decide +kernel)
theorem n_w322 : (Jvm.Cond.instanceMethod ({ cls := "BalanceCoder", name := "at", desc := "(II)I" } : Jvm.MethodName)) ∈ n_GW := n_in 373 (by decide +kernel) (by decide +kernel)
theorem n_w323 : (Jvm.Cond.selects "BalanceCoder" ({ cls := "BalanceCoder", name := "at", desc := "(II)I" } : Jvm.MethodName) ({ cls := "BalanceCoder", name := "at", desc := "(II)I" } : Jvm.MethodName)) ∈ n_GW := n_in 374 (by decide +kernel) (by decide +kernel)
theorem n_w324 : (Jvm.Cond.code ({ cls := "BalanceCoder", name := "at", desc := "(II)I" } : Jvm.MethodName) prog_1_method_4_code (4 : Nat) (Option.some Jvm.ClassFile.FieldType.int)) ∈ n_GW := n_in 375 (by decide +kernel) (by decide +kernel)
theorem n_w325 : (Jvm.Cond.methodLink "BalanceCoderLaw" (30 : Nat) ({ cls := "BalanceCoder", name := "copy", desc := "(IIII)I" } : Jvm.MethodName)) ∈ n_GW := n_in 376 (by decide +kernel) (by decide +kernel)
theorem n_w326 : (Jvm.Cond.instanceMethod ({ cls := "BalanceCoder", name := "copy", desc := "(IIII)I" } : Jvm.MethodName)) ∈ n_GW := n_in 377 (by decide +kernel) (by decide +kernel)
theorem n_w327 : (Jvm.Cond.selects "BalanceCoder" ({ cls := "BalanceCoder", name := "copy", desc := "(IIII)I" } : Jvm.MethodName) ({ cls := "BalanceCoder", name := "copy", desc := "(IIII)I" } : Jvm.MethodName)) ∈ n_GW := n_in 378 (by decide +kernel) (by decide +kernel)
theorem n_w328 : (Jvm.Cond.code ({ cls := "BalanceCoder", name := "copy", desc := "(IIII)I" } : Jvm.MethodName) prog_1_method_5_code (8 : Nat) (Option.some Jvm.ClassFile.FieldType.int)) ∈ n_GW := n_in 379 (by decide +kernel) (by decide +kernel)
theorem n_w329 : (Jvm.Cond.methodLink "BalanceCoderLaw" (35 : Nat) ({ cls := "BalanceCoder", name := "table", desc := "(II)I" } : Jvm.MethodName)) ∈ n_GW := n_in 380 (by decide +kernel) (by decide +kernel)
theorem n_w330 : (Jvm.Cond.instanceMethod ({ cls := "BalanceCoder", name := "table", desc := "(II)I" } : Jvm.MethodName)) ∈ n_GW := n_in 381 (by decide +kernel) (by decide +kernel)
theorem n_w331 : (Jvm.Cond.selects "BalanceCoder" ({ cls := "BalanceCoder", name := "table", desc := "(II)I" } : Jvm.MethodName) ({ cls := "BalanceCoder", name := "table", desc := "(II)I" } : Jvm.MethodName)) ∈ n_GW := n_in 382 (by decide +kernel) (by decide +kernel)
theorem n_w332 : (Jvm.Cond.code ({ cls := "BalanceCoder", name := "table", desc := "(II)I" } : Jvm.MethodName) prog_1_method_6_code (4 : Nat) (Option.some Jvm.ClassFile.FieldType.int)) ∈ n_GW := n_in 383 (by decide +kernel) (by decide +kernel)
theorem n_w360 : (Jvm.Cond.methodLink "BalanceCoderLaw" (39 : Nat) ({ cls := "BalanceCoder", name := "share", desc := "(III)I" } : Jvm.MethodName)) ∈ n_GW := n_in 411 (by decide +kernel) (by decide +kernel)
theorem n_w361 : (Jvm.Cond.instanceMethod ({ cls := "BalanceCoder", name := "share", desc := "(III)I" } : Jvm.MethodName)) ∈ n_GW := n_in 412 (by decide +kernel) (by decide +kernel)
theorem n_w362 : (Jvm.Cond.selects "BalanceCoder" ({ cls := "BalanceCoder", name := "share", desc := "(III)I" } : Jvm.MethodName) ({ cls := "BalanceCoder", name := "share", desc := "(III)I" } : Jvm.MethodName)) ∈ n_GW := n_in 413 (by decide +kernel) (by decide +kernel)
theorem n_w363 : (Jvm.Cond.code ({ cls := "BalanceCoder", name := "share", desc := "(III)I" } : Jvm.MethodName) prog_1_method_7_code (6 : Nat) (Option.some Jvm.ClassFile.FieldType.int)) ∈ n_GW := n_in 414 (by decide +kernel) (by decide +kernel)
theorem n_w389 : (Jvm.Cond.methodLink "BalanceCoderLaw" (44 : Nat) ({ cls := "BalanceCoder", name := "learn", desc := "(II)I" } : Jvm.MethodName)) ∈ n_GW := n_in 440 (by decide +kernel) (by decide +kernel)
theorem n_w390 : (Jvm.Cond.instanceMethod ({ cls := "BalanceCoder", name := "learn", desc := "(II)I" } : Jvm.MethodName)) ∈ n_GW := n_in 441 (by decide +kernel) (by decide +kernel)
theorem n_w391 : (Jvm.Cond.selects "BalanceCoder" ({ cls := "BalanceCoder", name := "learn", desc := "(II)I" } : Jvm.MethodName) ({ cls := "BalanceCoder", name := "learn", desc := "(II)I" } : Jvm.MethodName)) ∈ n_GW := n_in 442 (by decide +kernel) (by decide +kernel)
theorem n_w392 : (Jvm.Cond.code ({ cls := "BalanceCoder", name := "learn", desc := "(II)I" } : Jvm.MethodName) prog_1_method_8_code (5 : Nat) (Option.some Jvm.ClassFile.FieldType.int)) ∈ n_GW := n_in 443 (by decide +kernel) (by decide +kernel)
theorem n_w452 : (Jvm.Cond.methodLink "BalanceCoderLaw" (48 : Nat) ({ cls := "BalanceCoder", name := "shares", desc := "(IIIZ)I" } : Jvm.MethodName)) ∈ n_GW := n_in 503 (by decide +kernel) (by decide +kernel)
theorem n_w453 : (Jvm.Cond.instanceMethod ({ cls := "BalanceCoder", name := "shares", desc := "(IIIZ)I" } : Jvm.MethodName)) ∈ n_GW := n_in 504 (by decide +kernel) (by decide +kernel)
theorem n_w454 : (Jvm.Cond.selects "BalanceCoder" ({ cls := "BalanceCoder", name := "shares", desc := "(IIIZ)I" } : Jvm.MethodName) ({ cls := "BalanceCoder", name := "shares", desc := "(IIIZ)I" } : Jvm.MethodName)) ∈ n_GW := n_in 505 (by decide +kernel) (by decide +kernel)
theorem n_w455 : (Jvm.Cond.code ({ cls := "BalanceCoder", name := "shares", desc := "(IIIZ)I" } : Jvm.MethodName) prog_1_method_9_code (7 : Nat) (Option.some Jvm.ClassFile.FieldType.int)) ∈ n_GW := n_in 506 (by decide +kernel) (by decide +kernel)
theorem n_w466 : (Jvm.Cond.methodLink "BalanceCoderLaw" (53 : Nat) ({ cls := "BalanceCoder", name := "cost", desc := "(III)J" } : Jvm.MethodName)) ∈ n_GW := n_in 517 (by decide +kernel) (by decide +kernel)
theorem n_w467 : (Jvm.Cond.instanceMethod ({ cls := "BalanceCoder", name := "cost", desc := "(III)J" } : Jvm.MethodName)) ∈ n_GW := n_in 518 (by decide +kernel) (by decide +kernel)
theorem n_w468 : (Jvm.Cond.selects "BalanceCoder" ({ cls := "BalanceCoder", name := "cost", desc := "(III)J" } : Jvm.MethodName) ({ cls := "BalanceCoder", name := "cost", desc := "(III)J" } : Jvm.MethodName)) ∈ n_GW := n_in 519 (by decide +kernel) (by decide +kernel)
theorem n_w469 : (Jvm.Cond.code ({ cls := "BalanceCoder", name := "cost", desc := "(III)J" } : Jvm.MethodName) prog_1_method_10_code (8 : Nat) (Option.some Jvm.ClassFile.FieldType.long)) ∈ n_GW := n_in 520 (by decide +kernel) (by decide +kernel)
theorem n_w487 : (Jvm.Cond.methodLink "BalanceCoderLaw" (58 : Nat) ({ cls := "BalanceCoder", name := "as", desc := "(II)I" } : Jvm.MethodName)) ∈ n_GW := n_in 538 (by decide +kernel) (by decide +kernel)
theorem n_w488 : (Jvm.Cond.instanceMethod ({ cls := "BalanceCoder", name := "as", desc := "(II)I" } : Jvm.MethodName)) ∈ n_GW := n_in 539 (by decide +kernel) (by decide +kernel)
theorem n_w489 : (Jvm.Cond.selects "BalanceCoder" ({ cls := "BalanceCoder", name := "as", desc := "(II)I" } : Jvm.MethodName) ({ cls := "BalanceCoder", name := "as", desc := "(II)I" } : Jvm.MethodName)) ∈ n_GW := n_in 540 (by decide +kernel) (by decide +kernel)
theorem n_w490 : (Jvm.Cond.code ({ cls := "BalanceCoder", name := "as", desc := "(II)I" } : Jvm.MethodName) prog_1_method_11_code (4 : Nat) (Option.some Jvm.ClassFile.FieldType.int)) ∈ n_GW := n_in 541 (by decide +kernel) (by decide +kernel)
theorem n_w496 : (Jvm.Cond.methodLink "BalanceCoderLaw" (62 : Nat) ({ cls := "BalanceCoder", name := "pack", desc := "(III)I" } : Jvm.MethodName)) ∈ n_GW := n_in 547 (by decide +kernel) (by decide +kernel)
theorem n_w497 : (Jvm.Cond.instanceMethod ({ cls := "BalanceCoder", name := "pack", desc := "(III)I" } : Jvm.MethodName)) ∈ n_GW := n_in 548 (by decide +kernel) (by decide +kernel)
theorem n_w498 : (Jvm.Cond.selects "BalanceCoder" ({ cls := "BalanceCoder", name := "pack", desc := "(III)I" } : Jvm.MethodName) ({ cls := "BalanceCoder", name := "pack", desc := "(III)I" } : Jvm.MethodName)) ∈ n_GW := n_in 549 (by decide +kernel) (by decide +kernel)
theorem n_w499 : (Jvm.Cond.code ({ cls := "BalanceCoder", name := "pack", desc := "(III)I" } : Jvm.MethodName) prog_1_method_12_code (6 : Nat) (Option.some Jvm.ClassFile.FieldType.int)) ∈ n_GW := n_in 550 (by decide +kernel) (by decide +kernel)
theorem n_w593 : (Jvm.Cond.methodLink "BalanceCoderLaw" (66 : Nat) ({ cls := "BalanceCoder", name := "ahead", desc := "(III)I" } : Jvm.MethodName)) ∈ n_GW := n_in 644 (by decide +kernel) (by decide +kernel)
theorem n_w594 : (Jvm.Cond.instanceMethod ({ cls := "BalanceCoder", name := "ahead", desc := "(III)I" } : Jvm.MethodName)) ∈ n_GW := n_in 645 (by decide +kernel) (by decide +kernel)
theorem n_w595 : (Jvm.Cond.selects "BalanceCoder" ({ cls := "BalanceCoder", name := "ahead", desc := "(III)I" } : Jvm.MethodName) ({ cls := "BalanceCoder", name := "ahead", desc := "(III)I" } : Jvm.MethodName)) ∈ n_GW := n_in 646 (by decide +kernel) (by decide +kernel)
theorem n_w596 : (Jvm.Cond.code ({ cls := "BalanceCoder", name := "ahead", desc := "(III)I" } : Jvm.MethodName) prog_1_method_13_code (4 : Nat) (Option.some Jvm.ClassFile.FieldType.int)) ∈ n_GW := n_in 647 (by decide +kernel) (by decide +kernel)
theorem n_w597 : (Jvm.Cond.methodLink "BalanceCoderLaw" (70 : Nat) ({ cls := "BalanceCoder", name := "take", desc := "(I)I" } : Jvm.MethodName)) ∈ n_GW := n_in 648 (by decide +kernel) (by decide +kernel)
theorem n_w598 : (Jvm.Cond.instanceMethod ({ cls := "BalanceCoder", name := "take", desc := "(I)I" } : Jvm.MethodName)) ∈ n_GW := n_in 649 (by decide +kernel) (by decide +kernel)
theorem n_w599 : (Jvm.Cond.selects "BalanceCoder" ({ cls := "BalanceCoder", name := "take", desc := "(I)I" } : Jvm.MethodName) ({ cls := "BalanceCoder", name := "take", desc := "(I)I" } : Jvm.MethodName)) ∈ n_GW := n_in 650 (by decide +kernel) (by decide +kernel)
theorem n_w600 : (Jvm.Cond.code ({ cls := "BalanceCoder", name := "take", desc := "(I)I" } : Jvm.MethodName) prog_1_method_14_code (4 : Nat) (Option.some Jvm.ClassFile.FieldType.int)) ∈ n_GW := n_in 651 (by decide +kernel) (by decide +kernel)
theorem n_w660 : (Jvm.Cond.methodLink "BalanceCoderLaw" (74 : Nat) ({ cls := "BalanceCoder", name := "block", desc := "(I)I" } : Jvm.MethodName)) ∈ n_GW := n_in 711 (by decide +kernel) (by decide +kernel)
theorem n_w661 : (Jvm.Cond.instanceMethod ({ cls := "BalanceCoder", name := "block", desc := "(I)I" } : Jvm.MethodName)) ∈ n_GW := n_in 712 (by decide +kernel) (by decide +kernel)
theorem n_w662 : (Jvm.Cond.selects "BalanceCoder" ({ cls := "BalanceCoder", name := "block", desc := "(I)I" } : Jvm.MethodName) ({ cls := "BalanceCoder", name := "block", desc := "(I)I" } : Jvm.MethodName)) ∈ n_GW := n_in 713 (by decide +kernel) (by decide +kernel)
theorem n_w663 : (Jvm.Cond.code ({ cls := "BalanceCoder", name := "block", desc := "(I)I" } : Jvm.MethodName) prog_1_method_15_code (3 : Nat) (Option.some Jvm.ClassFile.FieldType.int)) ∈ n_GW := n_in 714 (by decide +kernel) (by decide +kernel)
theorem n_w664 : (Jvm.Cond.methodLink "BalanceCoderLaw" (78 : Nat) ({ cls := "BalanceCoder", name := "alter", desc := "(II)I" } : Jvm.MethodName)) ∈ n_GW := n_in 715 (by decide +kernel) (by decide +kernel)
theorem n_w665 : (Jvm.Cond.instanceMethod ({ cls := "BalanceCoder", name := "alter", desc := "(II)I" } : Jvm.MethodName)) ∈ n_GW := n_in 716 (by decide +kernel) (by decide +kernel)
theorem n_w666 : (Jvm.Cond.selects "BalanceCoder" ({ cls := "BalanceCoder", name := "alter", desc := "(II)I" } : Jvm.MethodName) ({ cls := "BalanceCoder", name := "alter", desc := "(II)I" } : Jvm.MethodName)) ∈ n_GW := n_in 717 (by decide +kernel) (by decide +kernel)
theorem n_w667 : (Jvm.Cond.code ({ cls := "BalanceCoder", name := "alter", desc := "(II)I" } : Jvm.MethodName) prog_1_method_16_code (4 : Nat) (Option.some Jvm.ClassFile.FieldType.int)) ∈ n_GW := n_in 718 (by decide +kernel) (by decide +kernel)
theorem n_w672 : (Jvm.Cond.methodLink "BalanceCoderLaw" (82 : Nat) ({ cls := "BalanceCoder", name := "more", desc := "(JI)I" } : Jvm.MethodName)) ∈ n_GW := n_in 723 (by decide +kernel) (by decide +kernel)
theorem n_w673 : (Jvm.Cond.instanceMethod ({ cls := "BalanceCoder", name := "more", desc := "(JI)I" } : Jvm.MethodName)) ∈ n_GW := n_in 724 (by decide +kernel) (by decide +kernel)
theorem n_w674 : (Jvm.Cond.selects "BalanceCoder" ({ cls := "BalanceCoder", name := "more", desc := "(JI)I" } : Jvm.MethodName) ({ cls := "BalanceCoder", name := "more", desc := "(JI)I" } : Jvm.MethodName)) ∈ n_GW := n_in 725 (by decide +kernel) (by decide +kernel)
theorem n_w675 : (Jvm.Cond.code ({ cls := "BalanceCoder", name := "more", desc := "(JI)I" } : Jvm.MethodName) prog_1_method_17_code (6 : Nat) (Option.some Jvm.ClassFile.FieldType.int)) ∈ n_GW := n_in 726 (by decide +kernel) (by decide +kernel)
theorem n_w677 : (Jvm.Cond.methodLink "BalanceCoderLaw" (87 : Nat) ({ cls := "BalanceCoder", name := "search", desc := "(I)I" } : Jvm.MethodName)) ∈ n_GW := n_in 728 (by decide +kernel) (by decide +kernel)
theorem n_w678 : (Jvm.Cond.instanceMethod ({ cls := "BalanceCoder", name := "search", desc := "(I)I" } : Jvm.MethodName)) ∈ n_GW := n_in 729 (by decide +kernel) (by decide +kernel)
theorem n_w679 : (Jvm.Cond.selects "BalanceCoder" ({ cls := "BalanceCoder", name := "search", desc := "(I)I" } : Jvm.MethodName) ({ cls := "BalanceCoder", name := "search", desc := "(I)I" } : Jvm.MethodName)) ∈ n_GW := n_in 730 (by decide +kernel) (by decide +kernel)
theorem n_w680 : (Jvm.Cond.code ({ cls := "BalanceCoder", name := "search", desc := "(I)I" } : Jvm.MethodName) prog_1_method_18_code (6 : Nat) (Option.some Jvm.ClassFile.FieldType.int)) ∈ n_GW := n_in 731 (by decide +kernel) (by decide +kernel)
theorem n_w689 : (Jvm.Cond.methodLink "BalanceCoderLaw" (91 : Nat) ({ cls := "BalanceCoder", name := "step", desc := "(II)I" } : Jvm.MethodName)) ∈ n_GW := n_in 740 (by decide +kernel) (by decide +kernel)
theorem n_w690 : (Jvm.Cond.instanceMethod ({ cls := "BalanceCoder", name := "step", desc := "(II)I" } : Jvm.MethodName)) ∈ n_GW := n_in 741 (by decide +kernel) (by decide +kernel)
theorem n_w691 : (Jvm.Cond.selects "BalanceCoder" ({ cls := "BalanceCoder", name := "step", desc := "(II)I" } : Jvm.MethodName) ({ cls := "BalanceCoder", name := "step", desc := "(II)I" } : Jvm.MethodName)) ∈ n_GW := n_in 742 (by decide +kernel) (by decide +kernel)
theorem n_w692 : (Jvm.Cond.code ({ cls := "BalanceCoder", name := "step", desc := "(II)I" } : Jvm.MethodName) prog_1_method_19_code (5 : Nat) (Option.some Jvm.ClassFile.FieldType.int)) ∈ n_GW := n_in 743 (by decide +kernel) (by decide +kernel)
theorem n_w693 : (Jvm.Cond.methodLink "BalanceCoderLaw" (95 : Nat) ({ cls := "BalanceCoder", name := "mark", desc := "(I)I" } : Jvm.MethodName)) ∈ n_GW := n_in 744 (by decide +kernel) (by decide +kernel)
theorem n_w694 : (Jvm.Cond.instanceMethod ({ cls := "BalanceCoder", name := "mark", desc := "(I)I" } : Jvm.MethodName)) ∈ n_GW := n_in 745 (by decide +kernel) (by decide +kernel)
theorem n_w695 : (Jvm.Cond.selects "BalanceCoder" ({ cls := "BalanceCoder", name := "mark", desc := "(I)I" } : Jvm.MethodName) ({ cls := "BalanceCoder", name := "mark", desc := "(I)I" } : Jvm.MethodName)) ∈ n_GW := n_in 746 (by decide +kernel) (by decide +kernel)
theorem n_w696 : (Jvm.Cond.code ({ cls := "BalanceCoder", name := "mark", desc := "(I)I" } : Jvm.MethodName) prog_1_method_20_code (3 : Nat) (Option.some Jvm.ClassFile.FieldType.int)) ∈ n_GW := n_in 747 (by decide +kernel) (by decide +kernel)
theorem n_w701 : (Jvm.Cond.methodLink "BalanceCoderLaw" (99 : Nat) ({ cls := "BalanceCoder", name := "skip", desc := "(I)I" } : Jvm.MethodName)) ∈ n_GW := n_in 752 (by decide +kernel) (by decide +kernel)
theorem n_w702 : (Jvm.Cond.instanceMethod ({ cls := "BalanceCoder", name := "skip", desc := "(I)I" } : Jvm.MethodName)) ∈ n_GW := n_in 753 (by decide +kernel) (by decide +kernel)
theorem n_w703 : (Jvm.Cond.selects "BalanceCoder" ({ cls := "BalanceCoder", name := "skip", desc := "(I)I" } : Jvm.MethodName) ({ cls := "BalanceCoder", name := "skip", desc := "(I)I" } : Jvm.MethodName)) ∈ n_GW := n_in 754 (by decide +kernel) (by decide +kernel)
theorem n_w704 : (Jvm.Cond.code ({ cls := "BalanceCoder", name := "skip", desc := "(I)I" } : Jvm.MethodName) prog_1_method_21_code (4 : Nat) (Option.some Jvm.ClassFile.FieldType.int)) ∈ n_GW := n_in 755 (by decide +kernel) (by decide +kernel)
theorem n_w705 : (Jvm.Cond.methodLink "BalanceCoderLaw" (103 : Nat) ({ cls := "BalanceCoder", name := "tell", desc := "(I)I" } : Jvm.MethodName)) ∈ n_GW := n_in 756 (by decide +kernel) (by decide +kernel)
theorem n_w706 : (Jvm.Cond.instanceMethod ({ cls := "BalanceCoder", name := "tell", desc := "(I)I" } : Jvm.MethodName)) ∈ n_GW := n_in 757 (by decide +kernel) (by decide +kernel)
theorem n_w707 : (Jvm.Cond.selects "BalanceCoder" ({ cls := "BalanceCoder", name := "tell", desc := "(I)I" } : Jvm.MethodName) ({ cls := "BalanceCoder", name := "tell", desc := "(I)I" } : Jvm.MethodName)) ∈ n_GW := n_in 758 (by decide +kernel) (by decide +kernel)
theorem n_w708 : (Jvm.Cond.code ({ cls := "BalanceCoder", name := "tell", desc := "(I)I" } : Jvm.MethodName) prog_1_method_22_code (2 : Nat) (Option.some Jvm.ClassFile.FieldType.int)) ∈ n_GW := n_in 759 (by decide +kernel) (by decide +kernel)
theorem n_w709 : (Jvm.Cond.methodLink "BalanceCoderLaw" (107 : Nat) ({ cls := "BalanceCoder", name := "check", desc := "()I" } : Jvm.MethodName)) ∈ n_GW := n_in 760 (by decide +kernel) (by decide +kernel)
theorem n_w710 : (Jvm.Cond.instanceMethod ({ cls := "BalanceCoder", name := "check", desc := "()I" } : Jvm.MethodName)) ∈ n_GW := n_in 761 (by decide +kernel) (by decide +kernel)
theorem n_w711 : (Jvm.Cond.selects "BalanceCoder" ({ cls := "BalanceCoder", name := "check", desc := "()I" } : Jvm.MethodName) ({ cls := "BalanceCoder", name := "check", desc := "()I" } : Jvm.MethodName)) ∈ n_GW := n_in 762 (by decide +kernel) (by decide +kernel)
theorem n_w712 : (Jvm.Cond.code ({ cls := "BalanceCoder", name := "check", desc := "()I" } : Jvm.MethodName) prog_1_method_23_code (5 : Nat) (Option.some Jvm.ClassFile.FieldType.int)) ∈ n_GW := n_in 763 (by decide +kernel) (by decide +kernel)
theorem n_w713 : (Jvm.Cond.methodLink "BalanceCoderLaw" (112 : Nat) ({ cls := "BalanceCoder", name := "keep", desc := "()I" } : Jvm.MethodName)) ∈ n_GW := n_in 764 (by decide +kernel) (by decide +kernel)
theorem n_w714 : (Jvm.Cond.instanceMethod ({ cls := "BalanceCoder", name := "keep", desc := "()I" } : Jvm.MethodName)) ∈ n_GW := n_in 765 (by decide +kernel) (by decide +kernel)
theorem n_w715 : (Jvm.Cond.selects "BalanceCoder" ({ cls := "BalanceCoder", name := "keep", desc := "()I" } : Jvm.MethodName) ({ cls := "BalanceCoder", name := "keep", desc := "()I" } : Jvm.MethodName)) ∈ n_GW := n_in 766 (by decide +kernel) (by decide +kernel)
theorem n_w716 : (Jvm.Cond.code ({ cls := "BalanceCoder", name := "keep", desc := "()I" } : Jvm.MethodName) prog_1_method_24_code (1 : Nat) (Option.some Jvm.ClassFile.FieldType.int)) ∈ n_GW := n_in 767 (by decide +kernel) (by decide +kernel)
theorem n_w740 : (Jvm.Cond.methodLink "BalanceCoderLaw" (116 : Nat) ({ cls := "BalanceCoder", name := "back", desc := "()I" } : Jvm.MethodName)) ∈ n_GW := n_in 791 (by decide +kernel) (by decide +kernel)
theorem n_w741 : (Jvm.Cond.instanceMethod ({ cls := "BalanceCoder", name := "back", desc := "()I" } : Jvm.MethodName)) ∈ n_GW := n_in 792 (by decide +kernel) (by decide +kernel)
theorem n_w742 : (Jvm.Cond.selects "BalanceCoder" ({ cls := "BalanceCoder", name := "back", desc := "()I" } : Jvm.MethodName) ({ cls := "BalanceCoder", name := "back", desc := "()I" } : Jvm.MethodName)) ∈ n_GW := n_in 793 (by decide +kernel) (by decide +kernel)
theorem n_w743 : (Jvm.Cond.code ({ cls := "BalanceCoder", name := "back", desc := "()I" } : Jvm.MethodName) prog_1_method_25_code (1 : Nat) (Option.some Jvm.ClassFile.FieldType.int)) ∈ n_GW := n_in 794 (by decide +kernel) (by decide +kernel)
theorem n_w744 : (Jvm.Cond.methodLink "BalanceCoderLaw" (120 : Nat) ({ cls := "BalanceCoder", name := "told", desc := "(I)I" } : Jvm.MethodName)) ∈ n_GW := n_in 795 (by decide +kernel) (by decide +kernel)
theorem n_w745 : (Jvm.Cond.instanceMethod ({ cls := "BalanceCoder", name := "told", desc := "(I)I" } : Jvm.MethodName)) ∈ n_GW := n_in 796 (by decide +kernel) (by decide +kernel)
theorem n_w746 : (Jvm.Cond.selects "BalanceCoder" ({ cls := "BalanceCoder", name := "told", desc := "(I)I" } : Jvm.MethodName) ({ cls := "BalanceCoder", name := "told", desc := "(I)I" } : Jvm.MethodName)) ∈ n_GW := n_in 797 (by decide +kernel) (by decide +kernel)
theorem n_w747 : (Jvm.Cond.code ({ cls := "BalanceCoder", name := "told", desc := "(I)I" } : Jvm.MethodName) prog_1_method_26_code (2 : Nat) (Option.some Jvm.ClassFile.FieldType.int)) ∈ n_GW := n_in 798 (by decide +kernel) (by decide +kernel)
theorem n_w748 : (Jvm.Cond.classLink "BalanceCoderLaw" (10 : Nat) "BalanceCoderModel") ∈ n_GW := n_in 799 (by decide +kernel) (by decide +kernel)
theorem n_w749 : (Jvm.Cond.instantiable "BalanceCoderModel" (31 : Nat)) ∈ n_GW := n_in 800 (by decide +kernel) (by decide +kernel)
theorem n_w750 : (Jvm.Cond.methodLink "BalanceCoderLaw" (12 : Nat) ({ cls := "BalanceCoderModel", name := "<init>", desc := "()V" } : Jvm.MethodName)) ∈ n_GW := n_in 801 (by decide +kernel) (by decide +kernel)
theorem n_w751 : (Jvm.Cond.instanceMethod ({ cls := "BalanceCoderModel", name := "<init>", desc := "()V" } : Jvm.MethodName)) ∈ n_GW := n_in 802 (by decide +kernel) (by decide +kernel)
theorem n_w752 : (Jvm.Cond.code ({ cls := "BalanceCoderModel", name := "<init>", desc := "()V" } : Jvm.MethodName) prog_13_method_1_code (1 : Nat) (Option.none : Option Jvm.ClassFile.FieldType)) ∈ n_GW := n_in 803 (by decide +kernel) (by decide +kernel)
theorem n_w913 : (Jvm.Cond.methodLink "BalanceCoderLaw" (19 : Nat) ({ cls := "BalanceCoderModel", name := "put", desc := "(IJI)I" } : Jvm.MethodName)) ∈ n_GW := n_in 964 (by decide +kernel) (by decide +kernel)
theorem n_w914 : (Jvm.Cond.instanceMethod ({ cls := "BalanceCoderModel", name := "put", desc := "(IJI)I" } : Jvm.MethodName)) ∈ n_GW := n_in 965 (by decide +kernel) (by decide +kernel)
theorem n_w915 : (Jvm.Cond.selects "BalanceCoderModel" ({ cls := "BalanceCoderModel", name := "put", desc := "(IJI)I" } : Jvm.MethodName) ({ cls := "BalanceCoderModel", name := "put", desc := "(IJI)I" } : Jvm.MethodName)) ∈ n_GW := n_in 966 (by decide +kernel) (by decide +kernel)
theorem n_w916 : (Jvm.Cond.code ({ cls := "BalanceCoderModel", name := "put", desc := "(IJI)I" } : Jvm.MethodName) prog_13_method_6_code (6 : Nat) (Option.some Jvm.ClassFile.FieldType.int)) ∈ n_GW := n_in 967 (by decide +kernel) (by decide +kernel)
theorem n_w930 : (Jvm.Cond.methodLink "BalanceCoderLaw" (24 : Nat) ({ cls := "BalanceCoderModel", name := "clear", desc := "(I)I" } : Jvm.MethodName)) ∈ n_GW := n_in 981 (by decide +kernel) (by decide +kernel)
theorem n_w931 : (Jvm.Cond.instanceMethod ({ cls := "BalanceCoderModel", name := "clear", desc := "(I)I" } : Jvm.MethodName)) ∈ n_GW := n_in 982 (by decide +kernel) (by decide +kernel)
theorem n_w932 : (Jvm.Cond.selects "BalanceCoderModel" ({ cls := "BalanceCoderModel", name := "clear", desc := "(I)I" } : Jvm.MethodName) ({ cls := "BalanceCoderModel", name := "clear", desc := "(I)I" } : Jvm.MethodName)) ∈ n_GW := n_in 983 (by decide +kernel) (by decide +kernel)
theorem n_w933 : (Jvm.Cond.code ({ cls := "BalanceCoderModel", name := "clear", desc := "(I)I" } : Jvm.MethodName) prog_13_method_7_code (3 : Nat) (Option.some Jvm.ClassFile.FieldType.int)) ∈ n_GW := n_in 984 (by decide +kernel) (by decide +kernel)
theorem n_w934 : (Jvm.Cond.methodLink "BalanceCoderLaw" (29 : Nat) ({ cls := "BalanceCoderModel", name := "at", desc := "(II)I" } : Jvm.MethodName)) ∈ n_GW := n_in 985 (by decide +kernel) (by decide +kernel)
theorem n_w935 : (Jvm.Cond.instanceMethod ({ cls := "BalanceCoderModel", name := "at", desc := "(II)I" } : Jvm.MethodName)) ∈ n_GW := n_in 986 (by decide +kernel) (by decide +kernel)
theorem n_w936 : (Jvm.Cond.selects "BalanceCoderModel" ({ cls := "BalanceCoderModel", name := "at", desc := "(II)I" } : Jvm.MethodName) ({ cls := "BalanceCoderModel", name := "at", desc := "(II)I" } : Jvm.MethodName)) ∈ n_GW := n_in 987 (by decide +kernel) (by decide +kernel)
theorem n_w937 : (Jvm.Cond.code ({ cls := "BalanceCoderModel", name := "at", desc := "(II)I" } : Jvm.MethodName) prog_13_method_8_code (3 : Nat) (Option.some Jvm.ClassFile.FieldType.int)) ∈ n_GW := n_in 988 (by decide +kernel) (by decide +kernel)
theorem n_w939 : (Jvm.Cond.methodLink "BalanceCoderLaw" (34 : Nat) ({ cls := "BalanceCoderModel", name := "copy", desc := "(IIII)I" } : Jvm.MethodName)) ∈ n_GW := n_in 990 (by decide +kernel) (by decide +kernel)
theorem n_w940 : (Jvm.Cond.instanceMethod ({ cls := "BalanceCoderModel", name := "copy", desc := "(IIII)I" } : Jvm.MethodName)) ∈ n_GW := n_in 991 (by decide +kernel) (by decide +kernel)
theorem n_w941 : (Jvm.Cond.selects "BalanceCoderModel" ({ cls := "BalanceCoderModel", name := "copy", desc := "(IIII)I" } : Jvm.MethodName) ({ cls := "BalanceCoderModel", name := "copy", desc := "(IIII)I" } : Jvm.MethodName)) ∈ n_GW := n_in 992 (by decide +kernel) (by decide +kernel)
theorem n_w942 : (Jvm.Cond.code ({ cls := "BalanceCoderModel", name := "copy", desc := "(IIII)I" } : Jvm.MethodName) prog_13_method_9_code (6 : Nat) (Option.some Jvm.ClassFile.FieldType.int)) ∈ n_GW := n_in 993 (by decide +kernel) (by decide +kernel)
theorem n_w943 : (Jvm.Cond.methodLink "BalanceCoderLaw" (38 : Nat) ({ cls := "BalanceCoderModel", name := "table", desc := "(II)I" } : Jvm.MethodName)) ∈ n_GW := n_in 994 (by decide +kernel) (by decide +kernel)
theorem n_w944 : (Jvm.Cond.instanceMethod ({ cls := "BalanceCoderModel", name := "table", desc := "(II)I" } : Jvm.MethodName)) ∈ n_GW := n_in 995 (by decide +kernel) (by decide +kernel)
theorem n_w945 : (Jvm.Cond.selects "BalanceCoderModel" ({ cls := "BalanceCoderModel", name := "table", desc := "(II)I" } : Jvm.MethodName) ({ cls := "BalanceCoderModel", name := "table", desc := "(II)I" } : Jvm.MethodName)) ∈ n_GW := n_in 996 (by decide +kernel) (by decide +kernel)
theorem n_w946 : (Jvm.Cond.code ({ cls := "BalanceCoderModel", name := "table", desc := "(II)I" } : Jvm.MethodName) prog_13_method_10_code (5 : Nat) (Option.some Jvm.ClassFile.FieldType.int)) ∈ n_GW := n_in 997 (by decide +kernel) (by decide +kernel)
theorem n_w949 : (Jvm.Cond.methodLink "BalanceCoderLaw" (43 : Nat) ({ cls := "BalanceCoderModel", name := "share", desc := "(III)I" } : Jvm.MethodName)) ∈ n_GW := n_in 1000 (by decide +kernel) (by decide +kernel)
theorem n_w950 : (Jvm.Cond.instanceMethod ({ cls := "BalanceCoderModel", name := "share", desc := "(III)I" } : Jvm.MethodName)) ∈ n_GW := n_in 1001 (by decide +kernel) (by decide +kernel)
theorem n_w951 : (Jvm.Cond.selects "BalanceCoderModel" ({ cls := "BalanceCoderModel", name := "share", desc := "(III)I" } : Jvm.MethodName) ({ cls := "BalanceCoderModel", name := "share", desc := "(III)I" } : Jvm.MethodName)) ∈ n_GW := n_in 1002 (by decide +kernel) (by decide +kernel)
theorem n_w952 : (Jvm.Cond.code ({ cls := "BalanceCoderModel", name := "share", desc := "(III)I" } : Jvm.MethodName) prog_13_method_13_code (6 : Nat) (Option.some Jvm.ClassFile.FieldType.int)) ∈ n_GW := n_in 1003 (by decide +kernel) (by decide +kernel)
theorem n_w965 : (Jvm.Cond.methodLink "BalanceCoderLaw" (47 : Nat) ({ cls := "BalanceCoderModel", name := "learn", desc := "(II)I" } : Jvm.MethodName)) ∈ n_GW := n_in 1016 (by decide +kernel) (by decide +kernel)
theorem n_w966 : (Jvm.Cond.instanceMethod ({ cls := "BalanceCoderModel", name := "learn", desc := "(II)I" } : Jvm.MethodName)) ∈ n_GW := n_in 1017 (by decide +kernel) (by decide +kernel)
theorem n_w967 : (Jvm.Cond.selects "BalanceCoderModel" ({ cls := "BalanceCoderModel", name := "learn", desc := "(II)I" } : Jvm.MethodName) ({ cls := "BalanceCoderModel", name := "learn", desc := "(II)I" } : Jvm.MethodName)) ∈ n_GW := n_in 1018 (by decide +kernel) (by decide +kernel)
theorem n_w968 : (Jvm.Cond.code ({ cls := "BalanceCoderModel", name := "learn", desc := "(II)I" } : Jvm.MethodName) prog_13_method_18_code (3 : Nat) (Option.some Jvm.ClassFile.FieldType.int)) ∈ n_GW := n_in 1019 (by decide +kernel) (by decide +kernel)
theorem n_w981 : (Jvm.Cond.methodLink "BalanceCoderLaw" (52 : Nat) ({ cls := "BalanceCoderModel", name := "shares", desc := "(IIIZ)I" } : Jvm.MethodName)) ∈ n_GW := n_in 1032 (by decide +kernel) (by decide +kernel)
theorem n_w982 : (Jvm.Cond.instanceMethod ({ cls := "BalanceCoderModel", name := "shares", desc := "(IIIZ)I" } : Jvm.MethodName)) ∈ n_GW := n_in 1033 (by decide +kernel) (by decide +kernel)
theorem n_w983 : (Jvm.Cond.selects "BalanceCoderModel" ({ cls := "BalanceCoderModel", name := "shares", desc := "(IIIZ)I" } : Jvm.MethodName) ({ cls := "BalanceCoderModel", name := "shares", desc := "(IIIZ)I" } : Jvm.MethodName)) ∈ n_GW := n_in 1034 (by decide +kernel) (by decide +kernel)
theorem n_w984 : (Jvm.Cond.code ({ cls := "BalanceCoderModel", name := "shares", desc := "(IIIZ)I" } : Jvm.MethodName) prog_13_method_20_code (7 : Nat) (Option.some Jvm.ClassFile.FieldType.int)) ∈ n_GW := n_in 1035 (by decide +kernel) (by decide +kernel)
theorem n_w994 : (Jvm.Cond.methodLink "BalanceCoderLaw" (57 : Nat) ({ cls := "BalanceCoderModel", name := "cost", desc := "(III)J" } : Jvm.MethodName)) ∈ n_GW := n_in 1045 (by decide +kernel) (by decide +kernel)
theorem n_w995 : (Jvm.Cond.instanceMethod ({ cls := "BalanceCoderModel", name := "cost", desc := "(III)J" } : Jvm.MethodName)) ∈ n_GW := n_in 1046 (by decide +kernel) (by decide +kernel)
theorem n_w996 : (Jvm.Cond.selects "BalanceCoderModel" ({ cls := "BalanceCoderModel", name := "cost", desc := "(III)J" } : Jvm.MethodName) ({ cls := "BalanceCoderModel", name := "cost", desc := "(III)J" } : Jvm.MethodName)) ∈ n_GW := n_in 1047 (by decide +kernel) (by decide +kernel)
theorem n_w997 : (Jvm.Cond.code ({ cls := "BalanceCoderModel", name := "cost", desc := "(III)J" } : Jvm.MethodName) prog_13_method_21_code (9 : Nat) (Option.some Jvm.ClassFile.FieldType.long)) ∈ n_GW := n_in 1048 (by decide +kernel) (by decide +kernel)
theorem n_w998 : (Jvm.Cond.methodLink "BalanceCoderLaw" (61 : Nat) ({ cls := "BalanceCoderModel", name := "as", desc := "(II)I" } : Jvm.MethodName)) ∈ n_GW := n_in 1049 (by decide +kernel) (by decide +kernel)
theorem n_w999 : (Jvm.Cond.instanceMethod ({ cls := "BalanceCoderModel", name := "as", desc := "(II)I" } : Jvm.MethodName)) ∈ n_GW := n_in 1050 (by decide +kernel) (by decide +kernel)
theorem n_w1000 : (Jvm.Cond.selects "BalanceCoderModel" ({ cls := "BalanceCoderModel", name := "as", desc := "(II)I" } : Jvm.MethodName) ({ cls := "BalanceCoderModel", name := "as", desc := "(II)I" } : Jvm.MethodName)) ∈ n_GW := n_in 1051 (by decide +kernel) (by decide +kernel)
theorem n_w1001 : (Jvm.Cond.code ({ cls := "BalanceCoderModel", name := "as", desc := "(II)I" } : Jvm.MethodName) prog_13_method_22_code (5 : Nat) (Option.some Jvm.ClassFile.FieldType.int)) ∈ n_GW := n_in 1052 (by decide +kernel) (by decide +kernel)
theorem n_w1002 : (Jvm.Cond.methodLink "BalanceCoderLaw" (65 : Nat) ({ cls := "BalanceCoderModel", name := "pack", desc := "(III)I" } : Jvm.MethodName)) ∈ n_GW := n_in 1053 (by decide +kernel) (by decide +kernel)
theorem n_w1003 : (Jvm.Cond.instanceMethod ({ cls := "BalanceCoderModel", name := "pack", desc := "(III)I" } : Jvm.MethodName)) ∈ n_GW := n_in 1054 (by decide +kernel) (by decide +kernel)
theorem n_w1004 : (Jvm.Cond.selects "BalanceCoderModel" ({ cls := "BalanceCoderModel", name := "pack", desc := "(III)I" } : Jvm.MethodName) ({ cls := "BalanceCoderModel", name := "pack", desc := "(III)I" } : Jvm.MethodName)) ∈ n_GW := n_in 1055 (by decide +kernel) (by decide +kernel)
theorem n_w1005 : (Jvm.Cond.code ({ cls := "BalanceCoderModel", name := "pack", desc := "(III)I" } : Jvm.MethodName) prog_13_method_32_code (5 : Nat) (Option.some Jvm.ClassFile.FieldType.int)) ∈ n_GW := n_in 1056 (by decide +kernel) (by decide +kernel)
theorem n_w1043 : (Jvm.Cond.methodLink "BalanceCoderLaw" (69 : Nat) ({ cls := "BalanceCoderModel", name := "ahead", desc := "(III)I" } : Jvm.MethodName)) ∈ n_GW := n_in 1094 (by decide +kernel) (by decide +kernel)
theorem n_w1044 : (Jvm.Cond.instanceMethod ({ cls := "BalanceCoderModel", name := "ahead", desc := "(III)I" } : Jvm.MethodName)) ∈ n_GW := n_in 1095 (by decide +kernel) (by decide +kernel)
theorem n_w1045 : (Jvm.Cond.selects "BalanceCoderModel" ({ cls := "BalanceCoderModel", name := "ahead", desc := "(III)I" } : Jvm.MethodName) ({ cls := "BalanceCoderModel", name := "ahead", desc := "(III)I" } : Jvm.MethodName)) ∈ n_GW := n_in 1096 (by decide +kernel) (by decide +kernel)
theorem n_w1046 : (Jvm.Cond.code ({ cls := "BalanceCoderModel", name := "ahead", desc := "(III)I" } : Jvm.MethodName) prog_13_method_33_code (4 : Nat) (Option.some Jvm.ClassFile.FieldType.int)) ∈ n_GW := n_in 1097 (by decide +kernel) (by decide +kernel)
theorem n_w1047 : (Jvm.Cond.methodLink "BalanceCoderLaw" (90 : Nat) ({ cls := "BalanceCoderModel", name := "search", desc := "(I)I" } : Jvm.MethodName)) ∈ n_GW := n_in 1098 (by decide +kernel) (by decide +kernel)
theorem n_w1048 : (Jvm.Cond.instanceMethod ({ cls := "BalanceCoderModel", name := "search", desc := "(I)I" } : Jvm.MethodName)) ∈ n_GW := n_in 1099 (by decide +kernel) (by decide +kernel)
theorem n_w1049 : (Jvm.Cond.selects "BalanceCoderModel" ({ cls := "BalanceCoderModel", name := "search", desc := "(I)I" } : Jvm.MethodName) ({ cls := "BalanceCoderModel", name := "search", desc := "(I)I" } : Jvm.MethodName)) ∈ n_GW := n_in 1100 (by decide +kernel) (by decide +kernel)
theorem n_w1050 : (Jvm.Cond.code ({ cls := "BalanceCoderModel", name := "search", desc := "(I)I" } : Jvm.MethodName) prog_13_method_34_code (8 : Nat) (Option.some Jvm.ClassFile.FieldType.int)) ∈ n_GW := n_in 1101 (by decide +kernel) (by decide +kernel)
theorem n_w1055 : (Jvm.Cond.methodLink "BalanceCoderLaw" (73 : Nat) ({ cls := "BalanceCoderModel", name := "take", desc := "(I)I" } : Jvm.MethodName)) ∈ n_GW := n_in 1106 (by decide +kernel) (by decide +kernel)
theorem n_w1056 : (Jvm.Cond.instanceMethod ({ cls := "BalanceCoderModel", name := "take", desc := "(I)I" } : Jvm.MethodName)) ∈ n_GW := n_in 1107 (by decide +kernel) (by decide +kernel)
theorem n_w1057 : (Jvm.Cond.selects "BalanceCoderModel" ({ cls := "BalanceCoderModel", name := "take", desc := "(I)I" } : Jvm.MethodName) ({ cls := "BalanceCoderModel", name := "take", desc := "(I)I" } : Jvm.MethodName)) ∈ n_GW := n_in 1108 (by decide +kernel) (by decide +kernel)
theorem n_w1058 : (Jvm.Cond.code ({ cls := "BalanceCoderModel", name := "take", desc := "(I)I" } : Jvm.MethodName) prog_13_method_41_code (4 : Nat) (Option.some Jvm.ClassFile.FieldType.int)) ∈ n_GW := n_in 1109 (by decide +kernel) (by decide +kernel)
theorem n_w1080 : (Jvm.Cond.methodLink "BalanceCoderLaw" (77 : Nat) ({ cls := "BalanceCoderModel", name := "block", desc := "(I)I" } : Jvm.MethodName)) ∈ n_GW := n_in 1131 (by decide +kernel) (by decide +kernel)
theorem n_w1081 : (Jvm.Cond.instanceMethod ({ cls := "BalanceCoderModel", name := "block", desc := "(I)I" } : Jvm.MethodName)) ∈ n_GW := n_in 1132 (by decide +kernel) (by decide +kernel)
theorem n_w1082 : (Jvm.Cond.selects "BalanceCoderModel" ({ cls := "BalanceCoderModel", name := "block", desc := "(I)I" } : Jvm.MethodName) ({ cls := "BalanceCoderModel", name := "block", desc := "(I)I" } : Jvm.MethodName)) ∈ n_GW := n_in 1133 (by decide +kernel) (by decide +kernel)
theorem n_w1083 : (Jvm.Cond.code ({ cls := "BalanceCoderModel", name := "block", desc := "(I)I" } : Jvm.MethodName) prog_13_method_42_code (2 : Nat) (Option.some Jvm.ClassFile.FieldType.int)) ∈ n_GW := n_in 1134 (by decide +kernel) (by decide +kernel)
theorem n_w1084 : (Jvm.Cond.methodLink "BalanceCoderLaw" (81 : Nat) ({ cls := "BalanceCoderModel", name := "alter", desc := "(II)I" } : Jvm.MethodName)) ∈ n_GW := n_in 1135 (by decide +kernel) (by decide +kernel)
theorem n_w1085 : (Jvm.Cond.instanceMethod ({ cls := "BalanceCoderModel", name := "alter", desc := "(II)I" } : Jvm.MethodName)) ∈ n_GW := n_in 1136 (by decide +kernel) (by decide +kernel)
theorem n_w1086 : (Jvm.Cond.selects "BalanceCoderModel" ({ cls := "BalanceCoderModel", name := "alter", desc := "(II)I" } : Jvm.MethodName) ({ cls := "BalanceCoderModel", name := "alter", desc := "(II)I" } : Jvm.MethodName)) ∈ n_GW := n_in 1137 (by decide +kernel) (by decide +kernel)
theorem n_w1087 : (Jvm.Cond.code ({ cls := "BalanceCoderModel", name := "alter", desc := "(II)I" } : Jvm.MethodName) prog_13_method_44_code (3 : Nat) (Option.some Jvm.ClassFile.FieldType.int)) ∈ n_GW := n_in 1138 (by decide +kernel) (by decide +kernel)
theorem n_w1092 : (Jvm.Cond.methodLink "BalanceCoderLaw" (86 : Nat) ({ cls := "BalanceCoderModel", name := "more", desc := "(JI)I" } : Jvm.MethodName)) ∈ n_GW := n_in 1143 (by decide +kernel) (by decide +kernel)
theorem n_w1093 : (Jvm.Cond.instanceMethod ({ cls := "BalanceCoderModel", name := "more", desc := "(JI)I" } : Jvm.MethodName)) ∈ n_GW := n_in 1144 (by decide +kernel) (by decide +kernel)
theorem n_w1094 : (Jvm.Cond.selects "BalanceCoderModel" ({ cls := "BalanceCoderModel", name := "more", desc := "(JI)I" } : Jvm.MethodName) ({ cls := "BalanceCoderModel", name := "more", desc := "(JI)I" } : Jvm.MethodName)) ∈ n_GW := n_in 1145 (by decide +kernel) (by decide +kernel)
theorem n_w1095 : (Jvm.Cond.code ({ cls := "BalanceCoderModel", name := "more", desc := "(JI)I" } : Jvm.MethodName) prog_13_method_45_code (5 : Nat) (Option.some Jvm.ClassFile.FieldType.int)) ∈ n_GW := n_in 1146 (by decide +kernel) (by decide +kernel)
theorem n_w1097 : (Jvm.Cond.methodLink "BalanceCoderLaw" (94 : Nat) ({ cls := "BalanceCoderModel", name := "step", desc := "(II)I" } : Jvm.MethodName)) ∈ n_GW := n_in 1148 (by decide +kernel) (by decide +kernel)
theorem n_w1098 : (Jvm.Cond.instanceMethod ({ cls := "BalanceCoderModel", name := "step", desc := "(II)I" } : Jvm.MethodName)) ∈ n_GW := n_in 1149 (by decide +kernel) (by decide +kernel)
theorem n_w1099 : (Jvm.Cond.selects "BalanceCoderModel" ({ cls := "BalanceCoderModel", name := "step", desc := "(II)I" } : Jvm.MethodName) ({ cls := "BalanceCoderModel", name := "step", desc := "(II)I" } : Jvm.MethodName)) ∈ n_GW := n_in 1150 (by decide +kernel) (by decide +kernel)
theorem n_w1100 : (Jvm.Cond.code ({ cls := "BalanceCoderModel", name := "step", desc := "(II)I" } : Jvm.MethodName) prog_13_method_47_code (3 : Nat) (Option.some Jvm.ClassFile.FieldType.int)) ∈ n_GW := n_in 1151 (by decide +kernel) (by decide +kernel)
theorem n_w1105 : (Jvm.Cond.methodLink "BalanceCoderLaw" (98 : Nat) ({ cls := "BalanceCoderModel", name := "mark", desc := "(I)I" } : Jvm.MethodName)) ∈ n_GW := n_in 1156 (by decide +kernel) (by decide +kernel)
theorem n_w1106 : (Jvm.Cond.instanceMethod ({ cls := "BalanceCoderModel", name := "mark", desc := "(I)I" } : Jvm.MethodName)) ∈ n_GW := n_in 1157 (by decide +kernel) (by decide +kernel)
theorem n_w1107 : (Jvm.Cond.selects "BalanceCoderModel" ({ cls := "BalanceCoderModel", name := "mark", desc := "(I)I" } : Jvm.MethodName) ({ cls := "BalanceCoderModel", name := "mark", desc := "(I)I" } : Jvm.MethodName)) ∈ n_GW := n_in 1158 (by decide +kernel) (by decide +kernel)
theorem n_w1108 : (Jvm.Cond.code ({ cls := "BalanceCoderModel", name := "mark", desc := "(I)I" } : Jvm.MethodName) prog_13_method_48_code (2 : Nat) (Option.some Jvm.ClassFile.FieldType.int)) ∈ n_GW := n_in 1159 (by decide +kernel) (by decide +kernel)
theorem n_w1109 : (Jvm.Cond.methodLink "BalanceCoderLaw" (102 : Nat) ({ cls := "BalanceCoderModel", name := "skip", desc := "(I)I" } : Jvm.MethodName)) ∈ n_GW := n_in 1160 (by decide +kernel) (by decide +kernel)
theorem n_w1110 : (Jvm.Cond.instanceMethod ({ cls := "BalanceCoderModel", name := "skip", desc := "(I)I" } : Jvm.MethodName)) ∈ n_GW := n_in 1161 (by decide +kernel) (by decide +kernel)
theorem n_w1111 : (Jvm.Cond.selects "BalanceCoderModel" ({ cls := "BalanceCoderModel", name := "skip", desc := "(I)I" } : Jvm.MethodName) ({ cls := "BalanceCoderModel", name := "skip", desc := "(I)I" } : Jvm.MethodName)) ∈ n_GW := n_in 1162 (by decide +kernel) (by decide +kernel)
theorem n_w1112 : (Jvm.Cond.code ({ cls := "BalanceCoderModel", name := "skip", desc := "(I)I" } : Jvm.MethodName) prog_13_method_49_code (2 : Nat) (Option.some Jvm.ClassFile.FieldType.int)) ∈ n_GW := n_in 1163 (by decide +kernel) (by decide +kernel)
theorem n_w1113 : (Jvm.Cond.methodLink "BalanceCoderLaw" (106 : Nat) ({ cls := "BalanceCoderModel", name := "tell", desc := "(I)I" } : Jvm.MethodName)) ∈ n_GW := n_in 1164 (by decide +kernel) (by decide +kernel)
theorem n_w1114 : (Jvm.Cond.instanceMethod ({ cls := "BalanceCoderModel", name := "tell", desc := "(I)I" } : Jvm.MethodName)) ∈ n_GW := n_in 1165 (by decide +kernel) (by decide +kernel)
theorem n_w1115 : (Jvm.Cond.selects "BalanceCoderModel" ({ cls := "BalanceCoderModel", name := "tell", desc := "(I)I" } : Jvm.MethodName) ({ cls := "BalanceCoderModel", name := "tell", desc := "(I)I" } : Jvm.MethodName)) ∈ n_GW := n_in 1166 (by decide +kernel) (by decide +kernel)
theorem n_w1116 : (Jvm.Cond.code ({ cls := "BalanceCoderModel", name := "tell", desc := "(I)I" } : Jvm.MethodName) prog_13_method_50_code (2 : Nat) (Option.some Jvm.ClassFile.FieldType.int)) ∈ n_GW := n_in 1167 (by decide +kernel) (by decide +kernel)
theorem n_w1117 : (Jvm.Cond.methodLink "BalanceCoderLaw" (111 : Nat) ({ cls := "BalanceCoderModel", name := "check", desc := "()I" } : Jvm.MethodName)) ∈ n_GW := n_in 1168 (by decide +kernel) (by decide +kernel)
theorem n_w1118 : (Jvm.Cond.instanceMethod ({ cls := "BalanceCoderModel", name := "check", desc := "()I" } : Jvm.MethodName)) ∈ n_GW := n_in 1169 (by decide +kernel) (by decide +kernel)
theorem n_w1119 : (Jvm.Cond.selects "BalanceCoderModel" ({ cls := "BalanceCoderModel", name := "check", desc := "()I" } : Jvm.MethodName) ({ cls := "BalanceCoderModel", name := "check", desc := "()I" } : Jvm.MethodName)) ∈ n_GW := n_in 1170 (by decide +kernel) (by decide +kernel)
theorem n_w1120 : (Jvm.Cond.code ({ cls := "BalanceCoderModel", name := "check", desc := "()I" } : Jvm.MethodName) prog_13_method_51_code (3 : Nat) (Option.some Jvm.ClassFile.FieldType.int)) ∈ n_GW := n_in 1171 (by decide +kernel) (by decide +kernel)
theorem n_w1121 : (Jvm.Cond.methodLink "BalanceCoderLaw" (115 : Nat) ({ cls := "BalanceCoderModel", name := "keep", desc := "()I" } : Jvm.MethodName)) ∈ n_GW := n_in 1172 (by decide +kernel) (by decide +kernel)
theorem n_w1122 : (Jvm.Cond.instanceMethod ({ cls := "BalanceCoderModel", name := "keep", desc := "()I" } : Jvm.MethodName)) ∈ n_GW := n_in 1173 (by decide +kernel) (by decide +kernel)
theorem n_w1123 : (Jvm.Cond.selects "BalanceCoderModel" ({ cls := "BalanceCoderModel", name := "keep", desc := "()I" } : Jvm.MethodName) ({ cls := "BalanceCoderModel", name := "keep", desc := "()I" } : Jvm.MethodName)) ∈ n_GW := n_in 1174 (by decide +kernel) (by decide +kernel)
theorem n_w1124 : (Jvm.Cond.code ({ cls := "BalanceCoderModel", name := "keep", desc := "()I" } : Jvm.MethodName) prog_13_method_52_code (1 : Nat) (Option.some Jvm.ClassFile.FieldType.int)) ∈ n_GW := n_in 1175 (by decide +kernel) (by decide +kernel)
theorem n_w1132 : (Jvm.Cond.methodLink "BalanceCoderLaw" (119 : Nat) ({ cls := "BalanceCoderModel", name := "back", desc := "()I" } : Jvm.MethodName)) ∈ n_GW := n_in 1183 (by decide +kernel) (by decide +kernel)
theorem n_w1133 : (Jvm.Cond.instanceMethod ({ cls := "BalanceCoderModel", name := "back", desc := "()I" } : Jvm.MethodName)) ∈ n_GW := n_in 1184 (by decide +kernel) (by decide +kernel)
theorem n_w1134 : (Jvm.Cond.selects "BalanceCoderModel" ({ cls := "BalanceCoderModel", name := "back", desc := "()I" } : Jvm.MethodName) ({ cls := "BalanceCoderModel", name := "back", desc := "()I" } : Jvm.MethodName)) ∈ n_GW := n_in 1185 (by decide +kernel) (by decide +kernel)
theorem n_w1135 : (Jvm.Cond.code ({ cls := "BalanceCoderModel", name := "back", desc := "()I" } : Jvm.MethodName) prog_13_method_53_code (1 : Nat) (Option.some Jvm.ClassFile.FieldType.int)) ∈ n_GW := n_in 1186 (by decide +kernel) (by decide +kernel)
theorem n_w1136 : (Jvm.Cond.methodLink "BalanceCoderLaw" (123 : Nat) ({ cls := "BalanceCoderModel", name := "told", desc := "(I)I" } : Jvm.MethodName)) ∈ n_GW := n_in 1187 (by decide +kernel) (by decide +kernel)
theorem n_w1137 : (Jvm.Cond.instanceMethod ({ cls := "BalanceCoderModel", name := "told", desc := "(I)I" } : Jvm.MethodName)) ∈ n_GW := n_in 1188 (by decide +kernel) (by decide +kernel)
theorem n_w1138 : (Jvm.Cond.selects "BalanceCoderModel" ({ cls := "BalanceCoderModel", name := "told", desc := "(I)I" } : Jvm.MethodName) ({ cls := "BalanceCoderModel", name := "told", desc := "(I)I" } : Jvm.MethodName)) ∈ n_GW := n_in 1189 (by decide +kernel) (by decide +kernel)
theorem n_w1139 : (Jvm.Cond.code ({ cls := "BalanceCoderModel", name := "told", desc := "(I)I" } : Jvm.MethodName) prog_13_method_54_code (2 : Nat) (Option.some Jvm.ClassFile.FieldType.int)) ∈ n_GW := n_in 1190 (by decide +kernel) (by decide +kernel)
theorem n_w1140 : (Jvm.Cond.constantLong "BalanceCoderLaw" (13 : Nat) (4294967295 : Int64)) ∈ n_GW := n_in 1191 (by decide +kernel) (by decide +kernel)
theorem fnL_7 {C : qCx} {cc : ByteArray} {nL : Nat} {D : va_G} {tys : List (ClassId × FieldType)} (h : n_ctx C cc nL "BalanceCoderLaw" D tys) : q_Fnew C cc D 7 10 8 tyX10 := q_Fnew_of h.2.1 h.2.2.2.1 h.2.2.2.2.1 h.2.2.2.2.2.1 (Cn := RX10) (Tt := TX10) rfl n_u10 tyX10_ok (h.2.2.2.2.1 _ n_w17) (h.2.2.2.2.1 _ n_w18) (h.2.2.2.2.1 _ n_w1)
theorem fnL_10 {C : qCx} {cc : ByteArray} {nL : Nat} {D : va_G} {tys : List (ClassId × FieldType)} (h : n_ctx C cc nL "BalanceCoderLaw" D tys) : q_Fnew C cc D 10 12 31 tyX12 := q_Fnew_of h.2.1 h.2.2.2.1 h.2.2.2.2.1 h.2.2.2.2.2.1 (Cn := RX12) (Tt := TX12) rfl n_u12 tyX12_ok (h.2.2.2.2.1 _ n_w748) (h.2.2.2.2.1 _ n_w749) (h.2.2.2.2.1 _ n_w12)
theorem flL_13 {C : qCx} {cc : ByteArray} {nL : Nat} {D : va_G} {tys : List (ClassId × FieldType)} (h : n_ctx C cc nL "BalanceCoderLaw" D tys) : q_Kld C cc (.ldc2_w 13) (.long 4294967295) := q_Kl2_of h.2.1 h.2.2.2.1 (h.2.2.2.2.1 _ n_w1140)
abbrev b_L : ByteArray := code
abbrev xL (C : qCx) (G : jG) : Prop := n_ctx C b_L 4 "BalanceCoderLaw" G.1 G.2.1
theorem dL_0 : decode b_L 0 = .ok (.new 7, 3) := by decide +kernel
theorem dL_3 : decode b_L 3 = .ok (.dup, 1) := by decide +kernel
theorem dL_4 : decode b_L 4 = .ok (.invokespecial 9, 3) := by decide +kernel
theorem dL_7 : decode b_L 7 = .ok (.astore_n 1, 1) := by decide +kernel
theorem dL_8 : decode b_L 8 = .ok (.new 10, 3) := by decide +kernel
theorem dL_11 : decode b_L 11 = .ok (.dup, 1) := by decide +kernel
theorem dL_12 : decode b_L 12 = .ok (.invokespecial 12, 3) := by decide +kernel
theorem dL_15 : decode b_L 15 = .ok (.astore_n 2, 1) := by decide +kernel
theorem dL_16 : decode b_L 16 = .ok (.iconst 0, 1) := by decide +kernel
theorem dL_17 : decode b_L 17 = .ok (.istore_n 3, 1) := by decide +kernel
theorem dL_18 : decode b_L 18 = .ok (.iload_n 3, 1) := by decide +kernel
theorem dL_19 : decode b_L 19 = .ok (.aload_n 0, 1) := by decide +kernel
theorem dL_20 : decode b_L 20 = .ok (.arraylength, 1) := by decide +kernel
theorem dL_21 : decode b_L 21 = .ok (.iconst 5, 1) := by decide +kernel
theorem dL_22 : decode b_L 22 = .ok (.isub, 1) := by decide +kernel
theorem dL_23 : decode b_L 23 = .ok (.if_icmp .gt 982, 3) := by decide +kernel
theorem dL_26 : decode b_L 26 = .ok (.aload_n 0, 1) := by decide +kernel
theorem dL_27 : decode b_L 27 = .ok (.iload_n 3, 1) := by decide +kernel
theorem dL_28 : decode b_L 28 = .ok (.iaload, 1) := by decide +kernel
theorem dL_29 : decode b_L 29 = .ok (.bipush 31, 2) := by decide +kernel
theorem dL_31 : decode b_L 31 = .ok (.iand, 1) := by decide +kernel
theorem dL_32 : decode b_L 32 = .ok (.tableswitch 967 0 24 #[116, 189, 212, 245, 298, 331, 374, 407, 476, 519, 552, 595, 638, 661, 684, 717, 780, 803, 836, 859, 882, 905, 918, 931, 944], 116) := by decide +kernel
theorem dL_148 : decode b_L 148 = .ok (.aload_n 1, 1) := by decide +kernel
theorem dL_149 : decode b_L 149 = .ok (.aload_n 0, 1) := by decide +kernel
theorem dL_150 : decode b_L 150 = .ok (.iload_n 3, 1) := by decide +kernel
theorem dL_151 : decode b_L 151 = .ok (.iconst 1, 1) := by decide +kernel
theorem dL_152 : decode b_L 152 = .ok (.iadd, 1) := by decide +kernel
theorem dL_153 : decode b_L 153 = .ok (.iaload, 1) := by decide +kernel
theorem dL_154 : decode b_L 154 = .ok (.aload_n 0, 1) := by decide +kernel
theorem dL_155 : decode b_L 155 = .ok (.iload_n 3, 1) := by decide +kernel
theorem dL_156 : decode b_L 156 = .ok (.iconst 2, 1) := by decide +kernel
theorem dL_157 : decode b_L 157 = .ok (.iadd, 1) := by decide +kernel
theorem dL_158 : decode b_L 158 = .ok (.iaload, 1) := by decide +kernel
theorem dL_159 : decode b_L 159 = .ok (.i2l, 1) := by decide +kernel
theorem dL_160 : decode b_L 160 = .ok (.bipush 32, 2) := by decide +kernel
theorem dL_162 : decode b_L 162 = .ok (.lshl, 1) := by decide +kernel
theorem dL_163 : decode b_L 163 = .ok (.aload_n 0, 1) := by decide +kernel
theorem dL_164 : decode b_L 164 = .ok (.iload_n 3, 1) := by decide +kernel
theorem dL_165 : decode b_L 165 = .ok (.iconst 3, 1) := by decide +kernel
theorem dL_166 : decode b_L 166 = .ok (.iadd, 1) := by decide +kernel
theorem dL_167 : decode b_L 167 = .ok (.iaload, 1) := by decide +kernel
theorem dL_168 : decode b_L 168 = .ok (.i2l, 1) := by decide +kernel
theorem dL_169 : decode b_L 169 = .ok (.ldc2_w 13, 3) := by decide +kernel
theorem dL_172 : decode b_L 172 = .ok (.land, 1) := by decide +kernel
theorem dL_173 : decode b_L 173 = .ok (.lor, 1) := by decide +kernel
theorem dL_174 : decode b_L 174 = .ok (.aload_n 0, 1) := by decide +kernel
theorem dL_175 : decode b_L 175 = .ok (.iload_n 3, 1) := by decide +kernel
theorem dL_176 : decode b_L 176 = .ok (.iconst 4, 1) := by decide +kernel
theorem dL_177 : decode b_L 177 = .ok (.iadd, 1) := by decide +kernel
theorem dL_178 : decode b_L 178 = .ok (.iaload, 1) := by decide +kernel
theorem dL_179 : decode b_L 179 = .ok (.invokevirtual 15, 3) := by decide +kernel
theorem dL_182 : decode b_L 182 = .ok (.pop, 1) := by decide +kernel
theorem dL_183 : decode b_L 183 = .ok (.aload_n 2, 1) := by decide +kernel
theorem dL_184 : decode b_L 184 = .ok (.aload_n 0, 1) := by decide +kernel
theorem dL_185 : decode b_L 185 = .ok (.iload_n 3, 1) := by decide +kernel
theorem dL_186 : decode b_L 186 = .ok (.iconst 1, 1) := by decide +kernel
theorem dL_187 : decode b_L 187 = .ok (.iadd, 1) := by decide +kernel
theorem dL_188 : decode b_L 188 = .ok (.iaload, 1) := by decide +kernel
theorem dL_189 : decode b_L 189 = .ok (.aload_n 0, 1) := by decide +kernel
theorem dL_190 : decode b_L 190 = .ok (.iload_n 3, 1) := by decide +kernel
theorem dL_191 : decode b_L 191 = .ok (.iconst 2, 1) := by decide +kernel
theorem dL_192 : decode b_L 192 = .ok (.iadd, 1) := by decide +kernel
theorem dL_193 : decode b_L 193 = .ok (.iaload, 1) := by decide +kernel
theorem dL_194 : decode b_L 194 = .ok (.i2l, 1) := by decide +kernel
theorem dL_195 : decode b_L 195 = .ok (.bipush 32, 2) := by decide +kernel
theorem dL_197 : decode b_L 197 = .ok (.lshl, 1) := by decide +kernel
theorem dL_198 : decode b_L 198 = .ok (.aload_n 0, 1) := by decide +kernel
theorem dL_199 : decode b_L 199 = .ok (.iload_n 3, 1) := by decide +kernel
theorem dL_200 : decode b_L 200 = .ok (.iconst 3, 1) := by decide +kernel
theorem dL_201 : decode b_L 201 = .ok (.iadd, 1) := by decide +kernel
theorem dL_202 : decode b_L 202 = .ok (.iaload, 1) := by decide +kernel
theorem dL_203 : decode b_L 203 = .ok (.i2l, 1) := by decide +kernel
theorem dL_204 : decode b_L 204 = .ok (.ldc2_w 13, 3) := by decide +kernel
theorem dL_207 : decode b_L 207 = .ok (.land, 1) := by decide +kernel
theorem dL_208 : decode b_L 208 = .ok (.lor, 1) := by decide +kernel
theorem dL_209 : decode b_L 209 = .ok (.aload_n 0, 1) := by decide +kernel
theorem dL_210 : decode b_L 210 = .ok (.iload_n 3, 1) := by decide +kernel
theorem dL_211 : decode b_L 211 = .ok (.iconst 4, 1) := by decide +kernel
theorem dL_212 : decode b_L 212 = .ok (.iadd, 1) := by decide +kernel
theorem dL_213 : decode b_L 213 = .ok (.iaload, 1) := by decide +kernel
theorem dL_214 : decode b_L 214 = .ok (.invokevirtual 19, 3) := by decide +kernel
theorem dL_217 : decode b_L 217 = .ok (.pop, 1) := by decide +kernel
theorem dL_218 : decode b_L 218 = .ok (.goto 781, 3) := by decide +kernel
theorem dL_221 : decode b_L 221 = .ok (.aload_n 1, 1) := by decide +kernel
theorem dL_222 : decode b_L 222 = .ok (.aload_n 0, 1) := by decide +kernel
theorem dL_223 : decode b_L 223 = .ok (.iload_n 3, 1) := by decide +kernel
theorem dL_224 : decode b_L 224 = .ok (.iconst 1, 1) := by decide +kernel
theorem dL_225 : decode b_L 225 = .ok (.iadd, 1) := by decide +kernel
theorem dL_226 : decode b_L 226 = .ok (.iaload, 1) := by decide +kernel
theorem dL_227 : decode b_L 227 = .ok (.invokevirtual 20, 3) := by decide +kernel
theorem dL_230 : decode b_L 230 = .ok (.pop, 1) := by decide +kernel
theorem dL_231 : decode b_L 231 = .ok (.aload_n 2, 1) := by decide +kernel
theorem dL_232 : decode b_L 232 = .ok (.aload_n 0, 1) := by decide +kernel
theorem dL_233 : decode b_L 233 = .ok (.iload_n 3, 1) := by decide +kernel
theorem dL_234 : decode b_L 234 = .ok (.iconst 1, 1) := by decide +kernel
theorem dL_235 : decode b_L 235 = .ok (.iadd, 1) := by decide +kernel
theorem dL_236 : decode b_L 236 = .ok (.iaload, 1) := by decide +kernel
theorem dL_237 : decode b_L 237 = .ok (.invokevirtual 24, 3) := by decide +kernel
theorem dL_240 : decode b_L 240 = .ok (.pop, 1) := by decide +kernel
theorem dL_241 : decode b_L 241 = .ok (.goto 758, 3) := by decide +kernel
theorem dL_244 : decode b_L 244 = .ok (.aload_n 1, 1) := by decide +kernel
theorem dL_245 : decode b_L 245 = .ok (.aload_n 0, 1) := by decide +kernel
theorem dL_246 : decode b_L 246 = .ok (.iload_n 3, 1) := by decide +kernel
theorem dL_247 : decode b_L 247 = .ok (.iconst 1, 1) := by decide +kernel
theorem dL_248 : decode b_L 248 = .ok (.iadd, 1) := by decide +kernel
theorem dL_249 : decode b_L 249 = .ok (.iaload, 1) := by decide +kernel
theorem dL_250 : decode b_L 250 = .ok (.aload_n 0, 1) := by decide +kernel
theorem dL_251 : decode b_L 251 = .ok (.iload_n 3, 1) := by decide +kernel
theorem dL_252 : decode b_L 252 = .ok (.iconst 2, 1) := by decide +kernel
theorem dL_253 : decode b_L 253 = .ok (.iadd, 1) := by decide +kernel
theorem dL_254 : decode b_L 254 = .ok (.iaload, 1) := by decide +kernel
theorem dL_255 : decode b_L 255 = .ok (.invokevirtual 25, 3) := by decide +kernel
theorem dL_258 : decode b_L 258 = .ok (.pop, 1) := by decide +kernel
theorem dL_259 : decode b_L 259 = .ok (.aload_n 2, 1) := by decide +kernel
theorem dL_260 : decode b_L 260 = .ok (.aload_n 0, 1) := by decide +kernel
theorem dL_261 : decode b_L 261 = .ok (.iload_n 3, 1) := by decide +kernel
theorem dL_262 : decode b_L 262 = .ok (.iconst 1, 1) := by decide +kernel
theorem dL_263 : decode b_L 263 = .ok (.iadd, 1) := by decide +kernel
theorem dL_264 : decode b_L 264 = .ok (.iaload, 1) := by decide +kernel
theorem dL_265 : decode b_L 265 = .ok (.aload_n 0, 1) := by decide +kernel
theorem dL_266 : decode b_L 266 = .ok (.iload_n 3, 1) := by decide +kernel
theorem dL_267 : decode b_L 267 = .ok (.iconst 2, 1) := by decide +kernel
theorem dL_268 : decode b_L 268 = .ok (.iadd, 1) := by decide +kernel
theorem dL_269 : decode b_L 269 = .ok (.iaload, 1) := by decide +kernel
theorem dL_270 : decode b_L 270 = .ok (.invokevirtual 29, 3) := by decide +kernel
theorem dL_273 : decode b_L 273 = .ok (.pop, 1) := by decide +kernel
theorem dL_274 : decode b_L 274 = .ok (.goto 725, 3) := by decide +kernel
theorem dL_277 : decode b_L 277 = .ok (.aload_n 1, 1) := by decide +kernel
theorem dL_278 : decode b_L 278 = .ok (.aload_n 0, 1) := by decide +kernel
theorem dL_279 : decode b_L 279 = .ok (.iload_n 3, 1) := by decide +kernel
theorem dL_280 : decode b_L 280 = .ok (.iconst 1, 1) := by decide +kernel
theorem dL_281 : decode b_L 281 = .ok (.iadd, 1) := by decide +kernel
theorem dL_282 : decode b_L 282 = .ok (.iaload, 1) := by decide +kernel
theorem dL_283 : decode b_L 283 = .ok (.aload_n 0, 1) := by decide +kernel
theorem dL_284 : decode b_L 284 = .ok (.iload_n 3, 1) := by decide +kernel
theorem dL_285 : decode b_L 285 = .ok (.iconst 2, 1) := by decide +kernel
theorem dL_286 : decode b_L 286 = .ok (.iadd, 1) := by decide +kernel
theorem dL_287 : decode b_L 287 = .ok (.iaload, 1) := by decide +kernel
theorem dL_288 : decode b_L 288 = .ok (.aload_n 0, 1) := by decide +kernel
theorem dL_289 : decode b_L 289 = .ok (.iload_n 3, 1) := by decide +kernel
theorem dL_290 : decode b_L 290 = .ok (.iconst 3, 1) := by decide +kernel
theorem dL_291 : decode b_L 291 = .ok (.iadd, 1) := by decide +kernel
theorem dL_292 : decode b_L 292 = .ok (.iaload, 1) := by decide +kernel
theorem dL_293 : decode b_L 293 = .ok (.aload_n 0, 1) := by decide +kernel
theorem dL_294 : decode b_L 294 = .ok (.iload_n 3, 1) := by decide +kernel
theorem dL_295 : decode b_L 295 = .ok (.iconst 4, 1) := by decide +kernel
theorem dL_296 : decode b_L 296 = .ok (.iadd, 1) := by decide +kernel
theorem dL_297 : decode b_L 297 = .ok (.iaload, 1) := by decide +kernel
theorem dL_298 : decode b_L 298 = .ok (.invokevirtual 30, 3) := by decide +kernel
theorem dL_301 : decode b_L 301 = .ok (.pop, 1) := by decide +kernel
theorem dL_302 : decode b_L 302 = .ok (.aload_n 2, 1) := by decide +kernel
theorem dL_303 : decode b_L 303 = .ok (.aload_n 0, 1) := by decide +kernel
theorem dL_304 : decode b_L 304 = .ok (.iload_n 3, 1) := by decide +kernel
theorem dL_305 : decode b_L 305 = .ok (.iconst 1, 1) := by decide +kernel
theorem dL_306 : decode b_L 306 = .ok (.iadd, 1) := by decide +kernel
theorem dL_307 : decode b_L 307 = .ok (.iaload, 1) := by decide +kernel
theorem dL_308 : decode b_L 308 = .ok (.aload_n 0, 1) := by decide +kernel
theorem dL_309 : decode b_L 309 = .ok (.iload_n 3, 1) := by decide +kernel
theorem dL_310 : decode b_L 310 = .ok (.iconst 2, 1) := by decide +kernel
theorem dL_311 : decode b_L 311 = .ok (.iadd, 1) := by decide +kernel
theorem dL_312 : decode b_L 312 = .ok (.iaload, 1) := by decide +kernel
theorem dL_313 : decode b_L 313 = .ok (.aload_n 0, 1) := by decide +kernel
theorem dL_314 : decode b_L 314 = .ok (.iload_n 3, 1) := by decide +kernel
theorem dL_315 : decode b_L 315 = .ok (.iconst 3, 1) := by decide +kernel
theorem dL_316 : decode b_L 316 = .ok (.iadd, 1) := by decide +kernel
theorem dL_317 : decode b_L 317 = .ok (.iaload, 1) := by decide +kernel
theorem dL_318 : decode b_L 318 = .ok (.aload_n 0, 1) := by decide +kernel
theorem dL_319 : decode b_L 319 = .ok (.iload_n 3, 1) := by decide +kernel
theorem dL_320 : decode b_L 320 = .ok (.iconst 4, 1) := by decide +kernel
theorem dL_321 : decode b_L 321 = .ok (.iadd, 1) := by decide +kernel
theorem dL_322 : decode b_L 322 = .ok (.iaload, 1) := by decide +kernel
theorem dL_323 : decode b_L 323 = .ok (.invokevirtual 34, 3) := by decide +kernel
theorem dL_326 : decode b_L 326 = .ok (.pop, 1) := by decide +kernel
theorem dL_327 : decode b_L 327 = .ok (.goto 672, 3) := by decide +kernel
theorem dL_330 : decode b_L 330 = .ok (.aload_n 1, 1) := by decide +kernel
theorem dL_331 : decode b_L 331 = .ok (.aload_n 0, 1) := by decide +kernel
theorem dL_332 : decode b_L 332 = .ok (.iload_n 3, 1) := by decide +kernel
theorem dL_333 : decode b_L 333 = .ok (.iconst 1, 1) := by decide +kernel
theorem dL_334 : decode b_L 334 = .ok (.iadd, 1) := by decide +kernel
theorem dL_335 : decode b_L 335 = .ok (.iaload, 1) := by decide +kernel
theorem dL_336 : decode b_L 336 = .ok (.aload_n 0, 1) := by decide +kernel
theorem dL_337 : decode b_L 337 = .ok (.iload_n 3, 1) := by decide +kernel
theorem dL_338 : decode b_L 338 = .ok (.iconst 2, 1) := by decide +kernel
theorem dL_339 : decode b_L 339 = .ok (.iadd, 1) := by decide +kernel
theorem dL_340 : decode b_L 340 = .ok (.iaload, 1) := by decide +kernel
theorem dL_341 : decode b_L 341 = .ok (.invokevirtual 35, 3) := by decide +kernel
theorem dL_344 : decode b_L 344 = .ok (.pop, 1) := by decide +kernel
theorem dL_345 : decode b_L 345 = .ok (.aload_n 2, 1) := by decide +kernel
theorem dL_346 : decode b_L 346 = .ok (.aload_n 0, 1) := by decide +kernel
theorem dL_347 : decode b_L 347 = .ok (.iload_n 3, 1) := by decide +kernel
theorem dL_348 : decode b_L 348 = .ok (.iconst 1, 1) := by decide +kernel
theorem dL_349 : decode b_L 349 = .ok (.iadd, 1) := by decide +kernel
theorem dL_350 : decode b_L 350 = .ok (.iaload, 1) := by decide +kernel
theorem dL_351 : decode b_L 351 = .ok (.aload_n 0, 1) := by decide +kernel
theorem dL_352 : decode b_L 352 = .ok (.iload_n 3, 1) := by decide +kernel
theorem dL_353 : decode b_L 353 = .ok (.iconst 2, 1) := by decide +kernel
theorem dL_354 : decode b_L 354 = .ok (.iadd, 1) := by decide +kernel
theorem dL_355 : decode b_L 355 = .ok (.iaload, 1) := by decide +kernel
theorem dL_356 : decode b_L 356 = .ok (.invokevirtual 38, 3) := by decide +kernel
theorem dL_359 : decode b_L 359 = .ok (.pop, 1) := by decide +kernel
theorem dL_360 : decode b_L 360 = .ok (.goto 639, 3) := by decide +kernel
theorem dL_363 : decode b_L 363 = .ok (.aload_n 1, 1) := by decide +kernel
theorem dL_364 : decode b_L 364 = .ok (.aload_n 0, 1) := by decide +kernel
theorem dL_365 : decode b_L 365 = .ok (.iload_n 3, 1) := by decide +kernel
theorem dL_366 : decode b_L 366 = .ok (.iconst 1, 1) := by decide +kernel
theorem dL_367 : decode b_L 367 = .ok (.iadd, 1) := by decide +kernel
theorem dL_368 : decode b_L 368 = .ok (.iaload, 1) := by decide +kernel
theorem dL_369 : decode b_L 369 = .ok (.aload_n 0, 1) := by decide +kernel
theorem dL_370 : decode b_L 370 = .ok (.iload_n 3, 1) := by decide +kernel
theorem dL_371 : decode b_L 371 = .ok (.iconst 2, 1) := by decide +kernel
theorem dL_372 : decode b_L 372 = .ok (.iadd, 1) := by decide +kernel
theorem dL_373 : decode b_L 373 = .ok (.iaload, 1) := by decide +kernel
theorem dL_374 : decode b_L 374 = .ok (.aload_n 0, 1) := by decide +kernel
theorem dL_375 : decode b_L 375 = .ok (.iload_n 3, 1) := by decide +kernel
theorem dL_376 : decode b_L 376 = .ok (.iconst 3, 1) := by decide +kernel
theorem dL_377 : decode b_L 377 = .ok (.iadd, 1) := by decide +kernel
theorem dL_378 : decode b_L 378 = .ok (.iaload, 1) := by decide +kernel
theorem dL_379 : decode b_L 379 = .ok (.invokevirtual 39, 3) := by decide +kernel
theorem dL_382 : decode b_L 382 = .ok (.pop, 1) := by decide +kernel
theorem dL_383 : decode b_L 383 = .ok (.aload_n 2, 1) := by decide +kernel
theorem dL_384 : decode b_L 384 = .ok (.aload_n 0, 1) := by decide +kernel
theorem dL_385 : decode b_L 385 = .ok (.iload_n 3, 1) := by decide +kernel
theorem dL_386 : decode b_L 386 = .ok (.iconst 1, 1) := by decide +kernel
theorem dL_387 : decode b_L 387 = .ok (.iadd, 1) := by decide +kernel
theorem dL_388 : decode b_L 388 = .ok (.iaload, 1) := by decide +kernel
theorem dL_389 : decode b_L 389 = .ok (.aload_n 0, 1) := by decide +kernel
theorem dL_390 : decode b_L 390 = .ok (.iload_n 3, 1) := by decide +kernel
theorem dL_391 : decode b_L 391 = .ok (.iconst 2, 1) := by decide +kernel
theorem dL_392 : decode b_L 392 = .ok (.iadd, 1) := by decide +kernel
theorem dL_393 : decode b_L 393 = .ok (.iaload, 1) := by decide +kernel
theorem dL_394 : decode b_L 394 = .ok (.aload_n 0, 1) := by decide +kernel
theorem dL_395 : decode b_L 395 = .ok (.iload_n 3, 1) := by decide +kernel
theorem dL_396 : decode b_L 396 = .ok (.iconst 3, 1) := by decide +kernel
theorem dL_397 : decode b_L 397 = .ok (.iadd, 1) := by decide +kernel
theorem dL_398 : decode b_L 398 = .ok (.iaload, 1) := by decide +kernel
theorem dL_399 : decode b_L 399 = .ok (.invokevirtual 43, 3) := by decide +kernel
theorem dL_402 : decode b_L 402 = .ok (.pop, 1) := by decide +kernel
theorem dL_403 : decode b_L 403 = .ok (.goto 596, 3) := by decide +kernel
theorem dL_406 : decode b_L 406 = .ok (.aload_n 1, 1) := by decide +kernel
theorem dL_407 : decode b_L 407 = .ok (.aload_n 0, 1) := by decide +kernel
theorem dL_408 : decode b_L 408 = .ok (.iload_n 3, 1) := by decide +kernel
theorem dL_409 : decode b_L 409 = .ok (.iconst 1, 1) := by decide +kernel
theorem dL_410 : decode b_L 410 = .ok (.iadd, 1) := by decide +kernel
theorem dL_411 : decode b_L 411 = .ok (.iaload, 1) := by decide +kernel
theorem dL_412 : decode b_L 412 = .ok (.aload_n 0, 1) := by decide +kernel
theorem dL_413 : decode b_L 413 = .ok (.iload_n 3, 1) := by decide +kernel
theorem dL_414 : decode b_L 414 = .ok (.iconst 2, 1) := by decide +kernel
theorem dL_415 : decode b_L 415 = .ok (.iadd, 1) := by decide +kernel
theorem dL_416 : decode b_L 416 = .ok (.iaload, 1) := by decide +kernel
theorem dL_417 : decode b_L 417 = .ok (.invokevirtual 44, 3) := by decide +kernel
theorem dL_420 : decode b_L 420 = .ok (.pop, 1) := by decide +kernel
theorem dL_421 : decode b_L 421 = .ok (.aload_n 2, 1) := by decide +kernel
theorem dL_422 : decode b_L 422 = .ok (.aload_n 0, 1) := by decide +kernel
theorem dL_423 : decode b_L 423 = .ok (.iload_n 3, 1) := by decide +kernel
theorem dL_424 : decode b_L 424 = .ok (.iconst 1, 1) := by decide +kernel
theorem dL_425 : decode b_L 425 = .ok (.iadd, 1) := by decide +kernel
theorem dL_426 : decode b_L 426 = .ok (.iaload, 1) := by decide +kernel
theorem dL_427 : decode b_L 427 = .ok (.aload_n 0, 1) := by decide +kernel
theorem dL_428 : decode b_L 428 = .ok (.iload_n 3, 1) := by decide +kernel
theorem dL_429 : decode b_L 429 = .ok (.iconst 2, 1) := by decide +kernel
theorem dL_430 : decode b_L 430 = .ok (.iadd, 1) := by decide +kernel
theorem dL_431 : decode b_L 431 = .ok (.iaload, 1) := by decide +kernel
theorem dL_432 : decode b_L 432 = .ok (.invokevirtual 47, 3) := by decide +kernel
theorem dL_435 : decode b_L 435 = .ok (.pop, 1) := by decide +kernel
theorem dL_436 : decode b_L 436 = .ok (.goto 563, 3) := by decide +kernel
theorem dL_439 : decode b_L 439 = .ok (.aload_n 1, 1) := by decide +kernel
theorem dL_440 : decode b_L 440 = .ok (.aload_n 0, 1) := by decide +kernel
theorem dL_441 : decode b_L 441 = .ok (.iload_n 3, 1) := by decide +kernel
theorem dL_442 : decode b_L 442 = .ok (.iconst 1, 1) := by decide +kernel
theorem dL_443 : decode b_L 443 = .ok (.iadd, 1) := by decide +kernel
theorem dL_444 : decode b_L 444 = .ok (.iaload, 1) := by decide +kernel
theorem dL_445 : decode b_L 445 = .ok (.aload_n 0, 1) := by decide +kernel
theorem dL_446 : decode b_L 446 = .ok (.iload_n 3, 1) := by decide +kernel
theorem dL_447 : decode b_L 447 = .ok (.iconst 2, 1) := by decide +kernel
theorem dL_448 : decode b_L 448 = .ok (.iadd, 1) := by decide +kernel
theorem dL_449 : decode b_L 449 = .ok (.iaload, 1) := by decide +kernel
theorem dL_450 : decode b_L 450 = .ok (.aload_n 0, 1) := by decide +kernel
theorem dL_451 : decode b_L 451 = .ok (.iload_n 3, 1) := by decide +kernel
theorem dL_452 : decode b_L 452 = .ok (.iconst 3, 1) := by decide +kernel
theorem dL_453 : decode b_L 453 = .ok (.iadd, 1) := by decide +kernel
theorem dL_454 : decode b_L 454 = .ok (.iaload, 1) := by decide +kernel
theorem dL_455 : decode b_L 455 = .ok (.aload_n 0, 1) := by decide +kernel
theorem dL_456 : decode b_L 456 = .ok (.iload_n 3, 1) := by decide +kernel
theorem dL_457 : decode b_L 457 = .ok (.iconst 4, 1) := by decide +kernel
theorem dL_458 : decode b_L 458 = .ok (.iadd, 1) := by decide +kernel
theorem dL_459 : decode b_L 459 = .ok (.iaload, 1) := by decide +kernel
theorem dL_460 : decode b_L 460 = .ok (.ifCond .eq 7, 3) := by decide +kernel
theorem dL_463 : decode b_L 463 = .ok (.iconst 1, 1) := by decide +kernel
theorem dL_464 : decode b_L 464 = .ok (.goto 4, 3) := by decide +kernel
theorem dL_467 : decode b_L 467 = .ok (.iconst 0, 1) := by decide +kernel
theorem dL_468 : decode b_L 468 = .ok (.invokevirtual 48, 3) := by decide +kernel
theorem dL_471 : decode b_L 471 = .ok (.pop, 1) := by decide +kernel
theorem dL_472 : decode b_L 472 = .ok (.aload_n 2, 1) := by decide +kernel
theorem dL_473 : decode b_L 473 = .ok (.aload_n 0, 1) := by decide +kernel
theorem dL_474 : decode b_L 474 = .ok (.iload_n 3, 1) := by decide +kernel
theorem dL_475 : decode b_L 475 = .ok (.iconst 1, 1) := by decide +kernel
theorem dL_476 : decode b_L 476 = .ok (.iadd, 1) := by decide +kernel
theorem dL_477 : decode b_L 477 = .ok (.iaload, 1) := by decide +kernel
theorem dL_478 : decode b_L 478 = .ok (.aload_n 0, 1) := by decide +kernel
theorem dL_479 : decode b_L 479 = .ok (.iload_n 3, 1) := by decide +kernel
theorem dL_480 : decode b_L 480 = .ok (.iconst 2, 1) := by decide +kernel
theorem dL_481 : decode b_L 481 = .ok (.iadd, 1) := by decide +kernel
theorem dL_482 : decode b_L 482 = .ok (.iaload, 1) := by decide +kernel
theorem dL_483 : decode b_L 483 = .ok (.aload_n 0, 1) := by decide +kernel
theorem dL_484 : decode b_L 484 = .ok (.iload_n 3, 1) := by decide +kernel
theorem dL_485 : decode b_L 485 = .ok (.iconst 3, 1) := by decide +kernel
theorem dL_486 : decode b_L 486 = .ok (.iadd, 1) := by decide +kernel
theorem dL_487 : decode b_L 487 = .ok (.iaload, 1) := by decide +kernel
theorem dL_488 : decode b_L 488 = .ok (.aload_n 0, 1) := by decide +kernel
theorem dL_489 : decode b_L 489 = .ok (.iload_n 3, 1) := by decide +kernel
theorem dL_490 : decode b_L 490 = .ok (.iconst 4, 1) := by decide +kernel
theorem dL_491 : decode b_L 491 = .ok (.iadd, 1) := by decide +kernel
theorem dL_492 : decode b_L 492 = .ok (.iaload, 1) := by decide +kernel
theorem dL_493 : decode b_L 493 = .ok (.ifCond .eq 7, 3) := by decide +kernel
theorem dL_496 : decode b_L 496 = .ok (.iconst 1, 1) := by decide +kernel
theorem dL_497 : decode b_L 497 = .ok (.goto 4, 3) := by decide +kernel
theorem dL_500 : decode b_L 500 = .ok (.iconst 0, 1) := by decide +kernel
theorem dL_501 : decode b_L 501 = .ok (.invokevirtual 52, 3) := by decide +kernel
theorem dL_504 : decode b_L 504 = .ok (.pop, 1) := by decide +kernel
theorem dL_505 : decode b_L 505 = .ok (.goto 494, 3) := by decide +kernel
theorem dL_508 : decode b_L 508 = .ok (.aload_n 1, 1) := by decide +kernel
theorem dL_509 : decode b_L 509 = .ok (.aload_n 0, 1) := by decide +kernel
theorem dL_510 : decode b_L 510 = .ok (.iload_n 3, 1) := by decide +kernel
theorem dL_511 : decode b_L 511 = .ok (.iconst 1, 1) := by decide +kernel
theorem dL_512 : decode b_L 512 = .ok (.iadd, 1) := by decide +kernel
theorem dL_513 : decode b_L 513 = .ok (.iaload, 1) := by decide +kernel
theorem dL_514 : decode b_L 514 = .ok (.aload_n 0, 1) := by decide +kernel
theorem dL_515 : decode b_L 515 = .ok (.iload_n 3, 1) := by decide +kernel
theorem dL_516 : decode b_L 516 = .ok (.iconst 2, 1) := by decide +kernel
theorem dL_517 : decode b_L 517 = .ok (.iadd, 1) := by decide +kernel
theorem dL_518 : decode b_L 518 = .ok (.iaload, 1) := by decide +kernel
theorem dL_519 : decode b_L 519 = .ok (.aload_n 0, 1) := by decide +kernel
theorem dL_520 : decode b_L 520 = .ok (.iload_n 3, 1) := by decide +kernel
theorem dL_521 : decode b_L 521 = .ok (.iconst 3, 1) := by decide +kernel
theorem dL_522 : decode b_L 522 = .ok (.iadd, 1) := by decide +kernel
theorem dL_523 : decode b_L 523 = .ok (.iaload, 1) := by decide +kernel
theorem dL_524 : decode b_L 524 = .ok (.invokevirtual 53, 3) := by decide +kernel
theorem dL_527 : decode b_L 527 = .ok (.pop2, 1) := by decide +kernel
theorem dL_528 : decode b_L 528 = .ok (.aload_n 2, 1) := by decide +kernel
theorem dL_529 : decode b_L 529 = .ok (.aload_n 0, 1) := by decide +kernel
theorem dL_530 : decode b_L 530 = .ok (.iload_n 3, 1) := by decide +kernel
theorem dL_531 : decode b_L 531 = .ok (.iconst 1, 1) := by decide +kernel
theorem dL_532 : decode b_L 532 = .ok (.iadd, 1) := by decide +kernel
theorem dL_533 : decode b_L 533 = .ok (.iaload, 1) := by decide +kernel
theorem dL_534 : decode b_L 534 = .ok (.aload_n 0, 1) := by decide +kernel
theorem dL_535 : decode b_L 535 = .ok (.iload_n 3, 1) := by decide +kernel
theorem dL_536 : decode b_L 536 = .ok (.iconst 2, 1) := by decide +kernel
theorem dL_537 : decode b_L 537 = .ok (.iadd, 1) := by decide +kernel
theorem dL_538 : decode b_L 538 = .ok (.iaload, 1) := by decide +kernel
theorem dL_539 : decode b_L 539 = .ok (.aload_n 0, 1) := by decide +kernel
theorem dL_540 : decode b_L 540 = .ok (.iload_n 3, 1) := by decide +kernel
theorem dL_541 : decode b_L 541 = .ok (.iconst 3, 1) := by decide +kernel
theorem dL_542 : decode b_L 542 = .ok (.iadd, 1) := by decide +kernel
theorem dL_543 : decode b_L 543 = .ok (.iaload, 1) := by decide +kernel
theorem dL_544 : decode b_L 544 = .ok (.invokevirtual 57, 3) := by decide +kernel
theorem dL_547 : decode b_L 547 = .ok (.pop2, 1) := by decide +kernel
theorem dL_548 : decode b_L 548 = .ok (.goto 451, 3) := by decide +kernel
theorem dL_551 : decode b_L 551 = .ok (.aload_n 1, 1) := by decide +kernel
theorem dL_552 : decode b_L 552 = .ok (.aload_n 0, 1) := by decide +kernel
theorem dL_553 : decode b_L 553 = .ok (.iload_n 3, 1) := by decide +kernel
theorem dL_554 : decode b_L 554 = .ok (.iconst 1, 1) := by decide +kernel
theorem dL_555 : decode b_L 555 = .ok (.iadd, 1) := by decide +kernel
theorem dL_556 : decode b_L 556 = .ok (.iaload, 1) := by decide +kernel
theorem dL_557 : decode b_L 557 = .ok (.aload_n 0, 1) := by decide +kernel
theorem dL_558 : decode b_L 558 = .ok (.iload_n 3, 1) := by decide +kernel
theorem dL_559 : decode b_L 559 = .ok (.iconst 2, 1) := by decide +kernel
theorem dL_560 : decode b_L 560 = .ok (.iadd, 1) := by decide +kernel
theorem dL_561 : decode b_L 561 = .ok (.iaload, 1) := by decide +kernel
theorem dL_562 : decode b_L 562 = .ok (.invokevirtual 58, 3) := by decide +kernel
theorem dL_565 : decode b_L 565 = .ok (.pop, 1) := by decide +kernel
theorem dL_566 : decode b_L 566 = .ok (.aload_n 2, 1) := by decide +kernel
theorem dL_567 : decode b_L 567 = .ok (.aload_n 0, 1) := by decide +kernel
theorem dL_568 : decode b_L 568 = .ok (.iload_n 3, 1) := by decide +kernel
theorem dL_569 : decode b_L 569 = .ok (.iconst 1, 1) := by decide +kernel
theorem dL_570 : decode b_L 570 = .ok (.iadd, 1) := by decide +kernel
theorem dL_571 : decode b_L 571 = .ok (.iaload, 1) := by decide +kernel
theorem dL_572 : decode b_L 572 = .ok (.aload_n 0, 1) := by decide +kernel
theorem dL_573 : decode b_L 573 = .ok (.iload_n 3, 1) := by decide +kernel
theorem dL_574 : decode b_L 574 = .ok (.iconst 2, 1) := by decide +kernel
theorem dL_575 : decode b_L 575 = .ok (.iadd, 1) := by decide +kernel
theorem dL_576 : decode b_L 576 = .ok (.iaload, 1) := by decide +kernel
theorem dL_577 : decode b_L 577 = .ok (.invokevirtual 61, 3) := by decide +kernel
theorem dL_580 : decode b_L 580 = .ok (.pop, 1) := by decide +kernel
theorem dL_581 : decode b_L 581 = .ok (.goto 418, 3) := by decide +kernel
theorem dL_584 : decode b_L 584 = .ok (.aload_n 1, 1) := by decide +kernel
theorem dL_585 : decode b_L 585 = .ok (.aload_n 0, 1) := by decide +kernel
theorem dL_586 : decode b_L 586 = .ok (.iload_n 3, 1) := by decide +kernel
theorem dL_587 : decode b_L 587 = .ok (.iconst 1, 1) := by decide +kernel
theorem dL_588 : decode b_L 588 = .ok (.iadd, 1) := by decide +kernel
theorem dL_589 : decode b_L 589 = .ok (.iaload, 1) := by decide +kernel
theorem dL_590 : decode b_L 590 = .ok (.aload_n 0, 1) := by decide +kernel
theorem dL_591 : decode b_L 591 = .ok (.iload_n 3, 1) := by decide +kernel
theorem dL_592 : decode b_L 592 = .ok (.iconst 2, 1) := by decide +kernel
theorem dL_593 : decode b_L 593 = .ok (.iadd, 1) := by decide +kernel
theorem dL_594 : decode b_L 594 = .ok (.iaload, 1) := by decide +kernel
theorem dL_595 : decode b_L 595 = .ok (.aload_n 0, 1) := by decide +kernel
theorem dL_596 : decode b_L 596 = .ok (.iload_n 3, 1) := by decide +kernel
theorem dL_597 : decode b_L 597 = .ok (.iconst 3, 1) := by decide +kernel
theorem dL_598 : decode b_L 598 = .ok (.iadd, 1) := by decide +kernel
theorem dL_599 : decode b_L 599 = .ok (.iaload, 1) := by decide +kernel
theorem dL_600 : decode b_L 600 = .ok (.invokevirtual 62, 3) := by decide +kernel
theorem dL_603 : decode b_L 603 = .ok (.pop, 1) := by decide +kernel
theorem dL_604 : decode b_L 604 = .ok (.aload_n 2, 1) := by decide +kernel
theorem dL_605 : decode b_L 605 = .ok (.aload_n 0, 1) := by decide +kernel
theorem dL_606 : decode b_L 606 = .ok (.iload_n 3, 1) := by decide +kernel
theorem dL_607 : decode b_L 607 = .ok (.iconst 1, 1) := by decide +kernel
theorem dL_608 : decode b_L 608 = .ok (.iadd, 1) := by decide +kernel
theorem dL_609 : decode b_L 609 = .ok (.iaload, 1) := by decide +kernel
theorem dL_610 : decode b_L 610 = .ok (.aload_n 0, 1) := by decide +kernel
theorem dL_611 : decode b_L 611 = .ok (.iload_n 3, 1) := by decide +kernel
theorem dL_612 : decode b_L 612 = .ok (.iconst 2, 1) := by decide +kernel
theorem dL_613 : decode b_L 613 = .ok (.iadd, 1) := by decide +kernel
theorem dL_614 : decode b_L 614 = .ok (.iaload, 1) := by decide +kernel
theorem dL_615 : decode b_L 615 = .ok (.aload_n 0, 1) := by decide +kernel
theorem dL_616 : decode b_L 616 = .ok (.iload_n 3, 1) := by decide +kernel
theorem dL_617 : decode b_L 617 = .ok (.iconst 3, 1) := by decide +kernel
theorem dL_618 : decode b_L 618 = .ok (.iadd, 1) := by decide +kernel
theorem dL_619 : decode b_L 619 = .ok (.iaload, 1) := by decide +kernel
theorem dL_620 : decode b_L 620 = .ok (.invokevirtual 65, 3) := by decide +kernel
theorem dL_623 : decode b_L 623 = .ok (.pop, 1) := by decide +kernel
theorem dL_624 : decode b_L 624 = .ok (.goto 375, 3) := by decide +kernel
theorem dL_627 : decode b_L 627 = .ok (.aload_n 1, 1) := by decide +kernel
theorem dL_628 : decode b_L 628 = .ok (.aload_n 0, 1) := by decide +kernel
theorem dL_629 : decode b_L 629 = .ok (.iload_n 3, 1) := by decide +kernel
theorem dL_630 : decode b_L 630 = .ok (.iconst 1, 1) := by decide +kernel
theorem dL_631 : decode b_L 631 = .ok (.iadd, 1) := by decide +kernel
theorem dL_632 : decode b_L 632 = .ok (.iaload, 1) := by decide +kernel
theorem dL_633 : decode b_L 633 = .ok (.aload_n 0, 1) := by decide +kernel
theorem dL_634 : decode b_L 634 = .ok (.iload_n 3, 1) := by decide +kernel
theorem dL_635 : decode b_L 635 = .ok (.iconst 2, 1) := by decide +kernel
theorem dL_636 : decode b_L 636 = .ok (.iadd, 1) := by decide +kernel
theorem dL_637 : decode b_L 637 = .ok (.iaload, 1) := by decide +kernel
theorem dL_638 : decode b_L 638 = .ok (.aload_n 0, 1) := by decide +kernel
theorem dL_639 : decode b_L 639 = .ok (.iload_n 3, 1) := by decide +kernel
theorem dL_640 : decode b_L 640 = .ok (.iconst 3, 1) := by decide +kernel
theorem dL_641 : decode b_L 641 = .ok (.iadd, 1) := by decide +kernel
theorem dL_642 : decode b_L 642 = .ok (.iaload, 1) := by decide +kernel
theorem dL_643 : decode b_L 643 = .ok (.invokevirtual 66, 3) := by decide +kernel
theorem dL_646 : decode b_L 646 = .ok (.pop, 1) := by decide +kernel
theorem dL_647 : decode b_L 647 = .ok (.aload_n 2, 1) := by decide +kernel
theorem dL_648 : decode b_L 648 = .ok (.aload_n 0, 1) := by decide +kernel
theorem dL_649 : decode b_L 649 = .ok (.iload_n 3, 1) := by decide +kernel
theorem dL_650 : decode b_L 650 = .ok (.iconst 1, 1) := by decide +kernel
theorem dL_651 : decode b_L 651 = .ok (.iadd, 1) := by decide +kernel
theorem dL_652 : decode b_L 652 = .ok (.iaload, 1) := by decide +kernel
theorem dL_653 : decode b_L 653 = .ok (.aload_n 0, 1) := by decide +kernel
theorem dL_654 : decode b_L 654 = .ok (.iload_n 3, 1) := by decide +kernel
theorem dL_655 : decode b_L 655 = .ok (.iconst 2, 1) := by decide +kernel
theorem dL_656 : decode b_L 656 = .ok (.iadd, 1) := by decide +kernel
theorem dL_657 : decode b_L 657 = .ok (.iaload, 1) := by decide +kernel
theorem dL_658 : decode b_L 658 = .ok (.aload_n 0, 1) := by decide +kernel
theorem dL_659 : decode b_L 659 = .ok (.iload_n 3, 1) := by decide +kernel
theorem dL_660 : decode b_L 660 = .ok (.iconst 3, 1) := by decide +kernel
theorem dL_661 : decode b_L 661 = .ok (.iadd, 1) := by decide +kernel
theorem dL_662 : decode b_L 662 = .ok (.iaload, 1) := by decide +kernel
theorem dL_663 : decode b_L 663 = .ok (.invokevirtual 69, 3) := by decide +kernel
theorem dL_666 : decode b_L 666 = .ok (.pop, 1) := by decide +kernel
theorem dL_667 : decode b_L 667 = .ok (.goto 332, 3) := by decide +kernel
theorem dL_670 : decode b_L 670 = .ok (.aload_n 1, 1) := by decide +kernel
theorem dL_671 : decode b_L 671 = .ok (.aload_n 0, 1) := by decide +kernel
theorem dL_672 : decode b_L 672 = .ok (.iload_n 3, 1) := by decide +kernel
theorem dL_673 : decode b_L 673 = .ok (.iconst 1, 1) := by decide +kernel
theorem dL_674 : decode b_L 674 = .ok (.iadd, 1) := by decide +kernel
theorem dL_675 : decode b_L 675 = .ok (.iaload, 1) := by decide +kernel
theorem dL_676 : decode b_L 676 = .ok (.invokevirtual 70, 3) := by decide +kernel
theorem dL_679 : decode b_L 679 = .ok (.pop, 1) := by decide +kernel
theorem dL_680 : decode b_L 680 = .ok (.aload_n 2, 1) := by decide +kernel
theorem dL_681 : decode b_L 681 = .ok (.aload_n 0, 1) := by decide +kernel
theorem dL_682 : decode b_L 682 = .ok (.iload_n 3, 1) := by decide +kernel
theorem dL_683 : decode b_L 683 = .ok (.iconst 1, 1) := by decide +kernel
theorem dL_684 : decode b_L 684 = .ok (.iadd, 1) := by decide +kernel
theorem dL_685 : decode b_L 685 = .ok (.iaload, 1) := by decide +kernel
theorem dL_686 : decode b_L 686 = .ok (.invokevirtual 73, 3) := by decide +kernel
theorem dL_689 : decode b_L 689 = .ok (.pop, 1) := by decide +kernel
theorem dL_690 : decode b_L 690 = .ok (.goto 309, 3) := by decide +kernel
theorem dL_693 : decode b_L 693 = .ok (.aload_n 1, 1) := by decide +kernel
theorem dL_694 : decode b_L 694 = .ok (.aload_n 0, 1) := by decide +kernel
theorem dL_695 : decode b_L 695 = .ok (.iload_n 3, 1) := by decide +kernel
theorem dL_696 : decode b_L 696 = .ok (.iconst 1, 1) := by decide +kernel
theorem dL_697 : decode b_L 697 = .ok (.iadd, 1) := by decide +kernel
theorem dL_698 : decode b_L 698 = .ok (.iaload, 1) := by decide +kernel
theorem dL_699 : decode b_L 699 = .ok (.invokevirtual 74, 3) := by decide +kernel
theorem dL_702 : decode b_L 702 = .ok (.pop, 1) := by decide +kernel
theorem dL_703 : decode b_L 703 = .ok (.aload_n 2, 1) := by decide +kernel
theorem dL_704 : decode b_L 704 = .ok (.aload_n 0, 1) := by decide +kernel
theorem dL_705 : decode b_L 705 = .ok (.iload_n 3, 1) := by decide +kernel
theorem dL_706 : decode b_L 706 = .ok (.iconst 1, 1) := by decide +kernel
theorem dL_707 : decode b_L 707 = .ok (.iadd, 1) := by decide +kernel
theorem dL_708 : decode b_L 708 = .ok (.iaload, 1) := by decide +kernel
theorem dL_709 : decode b_L 709 = .ok (.invokevirtual 77, 3) := by decide +kernel
theorem dL_712 : decode b_L 712 = .ok (.pop, 1) := by decide +kernel
theorem dL_713 : decode b_L 713 = .ok (.goto 286, 3) := by decide +kernel
theorem dL_716 : decode b_L 716 = .ok (.aload_n 1, 1) := by decide +kernel
theorem dL_717 : decode b_L 717 = .ok (.aload_n 0, 1) := by decide +kernel
theorem dL_718 : decode b_L 718 = .ok (.iload_n 3, 1) := by decide +kernel
theorem dL_719 : decode b_L 719 = .ok (.iconst 1, 1) := by decide +kernel
theorem dL_720 : decode b_L 720 = .ok (.iadd, 1) := by decide +kernel
theorem dL_721 : decode b_L 721 = .ok (.iaload, 1) := by decide +kernel
theorem dL_722 : decode b_L 722 = .ok (.aload_n 0, 1) := by decide +kernel
theorem dL_723 : decode b_L 723 = .ok (.iload_n 3, 1) := by decide +kernel
theorem dL_724 : decode b_L 724 = .ok (.iconst 2, 1) := by decide +kernel
theorem dL_725 : decode b_L 725 = .ok (.iadd, 1) := by decide +kernel
theorem dL_726 : decode b_L 726 = .ok (.iaload, 1) := by decide +kernel
theorem dL_727 : decode b_L 727 = .ok (.invokevirtual 78, 3) := by decide +kernel
theorem dL_730 : decode b_L 730 = .ok (.pop, 1) := by decide +kernel
theorem dL_731 : decode b_L 731 = .ok (.aload_n 2, 1) := by decide +kernel
theorem dL_732 : decode b_L 732 = .ok (.aload_n 0, 1) := by decide +kernel
theorem dL_733 : decode b_L 733 = .ok (.iload_n 3, 1) := by decide +kernel
theorem dL_734 : decode b_L 734 = .ok (.iconst 1, 1) := by decide +kernel
theorem dL_735 : decode b_L 735 = .ok (.iadd, 1) := by decide +kernel
theorem dL_736 : decode b_L 736 = .ok (.iaload, 1) := by decide +kernel
theorem dL_737 : decode b_L 737 = .ok (.aload_n 0, 1) := by decide +kernel
theorem dL_738 : decode b_L 738 = .ok (.iload_n 3, 1) := by decide +kernel
theorem dL_739 : decode b_L 739 = .ok (.iconst 2, 1) := by decide +kernel
theorem dL_740 : decode b_L 740 = .ok (.iadd, 1) := by decide +kernel
theorem dL_741 : decode b_L 741 = .ok (.iaload, 1) := by decide +kernel
theorem dL_742 : decode b_L 742 = .ok (.invokevirtual 81, 3) := by decide +kernel
theorem dL_745 : decode b_L 745 = .ok (.pop, 1) := by decide +kernel
theorem dL_746 : decode b_L 746 = .ok (.goto 253, 3) := by decide +kernel
theorem dL_749 : decode b_L 749 = .ok (.aload_n 1, 1) := by decide +kernel
theorem dL_750 : decode b_L 750 = .ok (.aload_n 0, 1) := by decide +kernel
theorem dL_751 : decode b_L 751 = .ok (.iload_n 3, 1) := by decide +kernel
theorem dL_752 : decode b_L 752 = .ok (.iconst 1, 1) := by decide +kernel
theorem dL_753 : decode b_L 753 = .ok (.iadd, 1) := by decide +kernel
theorem dL_754 : decode b_L 754 = .ok (.iaload, 1) := by decide +kernel
theorem dL_755 : decode b_L 755 = .ok (.i2l, 1) := by decide +kernel
theorem dL_756 : decode b_L 756 = .ok (.bipush 32, 2) := by decide +kernel
theorem dL_758 : decode b_L 758 = .ok (.lshl, 1) := by decide +kernel
theorem dL_759 : decode b_L 759 = .ok (.aload_n 0, 1) := by decide +kernel
theorem dL_760 : decode b_L 760 = .ok (.iload_n 3, 1) := by decide +kernel
theorem dL_761 : decode b_L 761 = .ok (.iconst 2, 1) := by decide +kernel
theorem dL_762 : decode b_L 762 = .ok (.iadd, 1) := by decide +kernel
theorem dL_763 : decode b_L 763 = .ok (.iaload, 1) := by decide +kernel
theorem dL_764 : decode b_L 764 = .ok (.i2l, 1) := by decide +kernel
theorem dL_765 : decode b_L 765 = .ok (.ldc2_w 13, 3) := by decide +kernel
theorem dL_768 : decode b_L 768 = .ok (.land, 1) := by decide +kernel
theorem dL_769 : decode b_L 769 = .ok (.lor, 1) := by decide +kernel
theorem dL_770 : decode b_L 770 = .ok (.aload_n 0, 1) := by decide +kernel
theorem dL_771 : decode b_L 771 = .ok (.iload_n 3, 1) := by decide +kernel
theorem dL_772 : decode b_L 772 = .ok (.iconst 3, 1) := by decide +kernel
theorem dL_773 : decode b_L 773 = .ok (.iadd, 1) := by decide +kernel
theorem dL_774 : decode b_L 774 = .ok (.iaload, 1) := by decide +kernel
theorem dL_775 : decode b_L 775 = .ok (.invokevirtual 82, 3) := by decide +kernel
theorem dL_778 : decode b_L 778 = .ok (.pop, 1) := by decide +kernel
theorem dL_779 : decode b_L 779 = .ok (.aload_n 2, 1) := by decide +kernel
theorem dL_780 : decode b_L 780 = .ok (.aload_n 0, 1) := by decide +kernel
theorem dL_781 : decode b_L 781 = .ok (.iload_n 3, 1) := by decide +kernel
theorem dL_782 : decode b_L 782 = .ok (.iconst 1, 1) := by decide +kernel
theorem dL_783 : decode b_L 783 = .ok (.iadd, 1) := by decide +kernel
theorem dL_784 : decode b_L 784 = .ok (.iaload, 1) := by decide +kernel
theorem dL_785 : decode b_L 785 = .ok (.i2l, 1) := by decide +kernel
theorem dL_786 : decode b_L 786 = .ok (.bipush 32, 2) := by decide +kernel
theorem dL_788 : decode b_L 788 = .ok (.lshl, 1) := by decide +kernel
theorem dL_789 : decode b_L 789 = .ok (.aload_n 0, 1) := by decide +kernel
theorem dL_790 : decode b_L 790 = .ok (.iload_n 3, 1) := by decide +kernel
theorem dL_791 : decode b_L 791 = .ok (.iconst 2, 1) := by decide +kernel
theorem dL_792 : decode b_L 792 = .ok (.iadd, 1) := by decide +kernel
theorem dL_793 : decode b_L 793 = .ok (.iaload, 1) := by decide +kernel
theorem dL_794 : decode b_L 794 = .ok (.i2l, 1) := by decide +kernel
theorem dL_795 : decode b_L 795 = .ok (.ldc2_w 13, 3) := by decide +kernel
theorem dL_798 : decode b_L 798 = .ok (.land, 1) := by decide +kernel
theorem dL_799 : decode b_L 799 = .ok (.lor, 1) := by decide +kernel
theorem dL_800 : decode b_L 800 = .ok (.aload_n 0, 1) := by decide +kernel
theorem dL_801 : decode b_L 801 = .ok (.iload_n 3, 1) := by decide +kernel
theorem dL_802 : decode b_L 802 = .ok (.iconst 3, 1) := by decide +kernel
theorem dL_803 : decode b_L 803 = .ok (.iadd, 1) := by decide +kernel
theorem dL_804 : decode b_L 804 = .ok (.iaload, 1) := by decide +kernel
theorem dL_805 : decode b_L 805 = .ok (.invokevirtual 86, 3) := by decide +kernel
theorem dL_808 : decode b_L 808 = .ok (.pop, 1) := by decide +kernel
theorem dL_809 : decode b_L 809 = .ok (.goto 190, 3) := by decide +kernel
theorem dL_812 : decode b_L 812 = .ok (.aload_n 1, 1) := by decide +kernel
theorem dL_813 : decode b_L 813 = .ok (.aload_n 0, 1) := by decide +kernel
theorem dL_814 : decode b_L 814 = .ok (.iload_n 3, 1) := by decide +kernel
theorem dL_815 : decode b_L 815 = .ok (.iconst 1, 1) := by decide +kernel
theorem dL_816 : decode b_L 816 = .ok (.iadd, 1) := by decide +kernel
theorem dL_817 : decode b_L 817 = .ok (.iaload, 1) := by decide +kernel
theorem dL_818 : decode b_L 818 = .ok (.invokevirtual 87, 3) := by decide +kernel
theorem dL_821 : decode b_L 821 = .ok (.pop, 1) := by decide +kernel
theorem dL_822 : decode b_L 822 = .ok (.aload_n 2, 1) := by decide +kernel
theorem dL_823 : decode b_L 823 = .ok (.aload_n 0, 1) := by decide +kernel
theorem dL_824 : decode b_L 824 = .ok (.iload_n 3, 1) := by decide +kernel
theorem dL_825 : decode b_L 825 = .ok (.iconst 1, 1) := by decide +kernel
theorem dL_826 : decode b_L 826 = .ok (.iadd, 1) := by decide +kernel
theorem dL_827 : decode b_L 827 = .ok (.iaload, 1) := by decide +kernel
theorem dL_828 : decode b_L 828 = .ok (.invokevirtual 90, 3) := by decide +kernel
theorem dL_831 : decode b_L 831 = .ok (.pop, 1) := by decide +kernel
theorem dL_832 : decode b_L 832 = .ok (.goto 167, 3) := by decide +kernel
theorem dL_835 : decode b_L 835 = .ok (.aload_n 1, 1) := by decide +kernel
theorem dL_836 : decode b_L 836 = .ok (.aload_n 0, 1) := by decide +kernel
theorem dL_837 : decode b_L 837 = .ok (.iload_n 3, 1) := by decide +kernel
theorem dL_838 : decode b_L 838 = .ok (.iconst 1, 1) := by decide +kernel
theorem dL_839 : decode b_L 839 = .ok (.iadd, 1) := by decide +kernel
theorem dL_840 : decode b_L 840 = .ok (.iaload, 1) := by decide +kernel
theorem dL_841 : decode b_L 841 = .ok (.aload_n 0, 1) := by decide +kernel
theorem dL_842 : decode b_L 842 = .ok (.iload_n 3, 1) := by decide +kernel
theorem dL_843 : decode b_L 843 = .ok (.iconst 2, 1) := by decide +kernel
theorem dL_844 : decode b_L 844 = .ok (.iadd, 1) := by decide +kernel
theorem dL_845 : decode b_L 845 = .ok (.iaload, 1) := by decide +kernel
theorem dL_846 : decode b_L 846 = .ok (.invokevirtual 91, 3) := by decide +kernel
theorem dL_849 : decode b_L 849 = .ok (.pop, 1) := by decide +kernel
theorem dL_850 : decode b_L 850 = .ok (.aload_n 2, 1) := by decide +kernel
theorem dL_851 : decode b_L 851 = .ok (.aload_n 0, 1) := by decide +kernel
theorem dL_852 : decode b_L 852 = .ok (.iload_n 3, 1) := by decide +kernel
theorem dL_853 : decode b_L 853 = .ok (.iconst 1, 1) := by decide +kernel
theorem dL_854 : decode b_L 854 = .ok (.iadd, 1) := by decide +kernel
theorem dL_855 : decode b_L 855 = .ok (.iaload, 1) := by decide +kernel
theorem dL_856 : decode b_L 856 = .ok (.aload_n 0, 1) := by decide +kernel
theorem dL_857 : decode b_L 857 = .ok (.iload_n 3, 1) := by decide +kernel
theorem dL_858 : decode b_L 858 = .ok (.iconst 2, 1) := by decide +kernel
theorem dL_859 : decode b_L 859 = .ok (.iadd, 1) := by decide +kernel
theorem dL_860 : decode b_L 860 = .ok (.iaload, 1) := by decide +kernel
theorem dL_861 : decode b_L 861 = .ok (.invokevirtual 94, 3) := by decide +kernel
theorem dL_864 : decode b_L 864 = .ok (.pop, 1) := by decide +kernel
theorem dL_865 : decode b_L 865 = .ok (.goto 134, 3) := by decide +kernel
theorem dL_868 : decode b_L 868 = .ok (.aload_n 1, 1) := by decide +kernel
theorem dL_869 : decode b_L 869 = .ok (.aload_n 0, 1) := by decide +kernel
theorem dL_870 : decode b_L 870 = .ok (.iload_n 3, 1) := by decide +kernel
theorem dL_871 : decode b_L 871 = .ok (.iconst 1, 1) := by decide +kernel
theorem dL_872 : decode b_L 872 = .ok (.iadd, 1) := by decide +kernel
theorem dL_873 : decode b_L 873 = .ok (.iaload, 1) := by decide +kernel
theorem dL_874 : decode b_L 874 = .ok (.invokevirtual 95, 3) := by decide +kernel
theorem dL_877 : decode b_L 877 = .ok (.pop, 1) := by decide +kernel
theorem dL_878 : decode b_L 878 = .ok (.aload_n 2, 1) := by decide +kernel
theorem dL_879 : decode b_L 879 = .ok (.aload_n 0, 1) := by decide +kernel
theorem dL_880 : decode b_L 880 = .ok (.iload_n 3, 1) := by decide +kernel
theorem dL_881 : decode b_L 881 = .ok (.iconst 1, 1) := by decide +kernel
theorem dL_882 : decode b_L 882 = .ok (.iadd, 1) := by decide +kernel
theorem dL_883 : decode b_L 883 = .ok (.iaload, 1) := by decide +kernel
theorem dL_884 : decode b_L 884 = .ok (.invokevirtual 98, 3) := by decide +kernel
theorem dL_887 : decode b_L 887 = .ok (.pop, 1) := by decide +kernel
theorem dL_888 : decode b_L 888 = .ok (.goto 111, 3) := by decide +kernel
theorem dL_891 : decode b_L 891 = .ok (.aload_n 1, 1) := by decide +kernel
theorem dL_892 : decode b_L 892 = .ok (.aload_n 0, 1) := by decide +kernel
theorem dL_893 : decode b_L 893 = .ok (.iload_n 3, 1) := by decide +kernel
theorem dL_894 : decode b_L 894 = .ok (.iconst 1, 1) := by decide +kernel
theorem dL_895 : decode b_L 895 = .ok (.iadd, 1) := by decide +kernel
theorem dL_896 : decode b_L 896 = .ok (.iaload, 1) := by decide +kernel
theorem dL_897 : decode b_L 897 = .ok (.invokevirtual 99, 3) := by decide +kernel
theorem dL_900 : decode b_L 900 = .ok (.pop, 1) := by decide +kernel
theorem dL_901 : decode b_L 901 = .ok (.aload_n 2, 1) := by decide +kernel
theorem dL_902 : decode b_L 902 = .ok (.aload_n 0, 1) := by decide +kernel
theorem dL_903 : decode b_L 903 = .ok (.iload_n 3, 1) := by decide +kernel
theorem dL_904 : decode b_L 904 = .ok (.iconst 1, 1) := by decide +kernel
theorem dL_905 : decode b_L 905 = .ok (.iadd, 1) := by decide +kernel
theorem dL_906 : decode b_L 906 = .ok (.iaload, 1) := by decide +kernel
theorem dL_907 : decode b_L 907 = .ok (.invokevirtual 102, 3) := by decide +kernel
theorem dL_910 : decode b_L 910 = .ok (.pop, 1) := by decide +kernel
theorem dL_911 : decode b_L 911 = .ok (.goto 88, 3) := by decide +kernel
theorem dL_914 : decode b_L 914 = .ok (.aload_n 1, 1) := by decide +kernel
theorem dL_915 : decode b_L 915 = .ok (.aload_n 0, 1) := by decide +kernel
theorem dL_916 : decode b_L 916 = .ok (.iload_n 3, 1) := by decide +kernel
theorem dL_917 : decode b_L 917 = .ok (.iconst 1, 1) := by decide +kernel
theorem dL_918 : decode b_L 918 = .ok (.iadd, 1) := by decide +kernel
theorem dL_919 : decode b_L 919 = .ok (.iaload, 1) := by decide +kernel
theorem dL_920 : decode b_L 920 = .ok (.invokevirtual 103, 3) := by decide +kernel
theorem dL_923 : decode b_L 923 = .ok (.pop, 1) := by decide +kernel
theorem dL_924 : decode b_L 924 = .ok (.aload_n 2, 1) := by decide +kernel
theorem dL_925 : decode b_L 925 = .ok (.aload_n 0, 1) := by decide +kernel
theorem dL_926 : decode b_L 926 = .ok (.iload_n 3, 1) := by decide +kernel
theorem dL_927 : decode b_L 927 = .ok (.iconst 1, 1) := by decide +kernel
theorem dL_928 : decode b_L 928 = .ok (.iadd, 1) := by decide +kernel
theorem dL_929 : decode b_L 929 = .ok (.iaload, 1) := by decide +kernel
theorem dL_930 : decode b_L 930 = .ok (.invokevirtual 106, 3) := by decide +kernel
theorem dL_933 : decode b_L 933 = .ok (.pop, 1) := by decide +kernel
theorem dL_934 : decode b_L 934 = .ok (.goto 65, 3) := by decide +kernel
theorem dL_937 : decode b_L 937 = .ok (.aload_n 1, 1) := by decide +kernel
theorem dL_938 : decode b_L 938 = .ok (.invokevirtual 107, 3) := by decide +kernel
theorem dL_941 : decode b_L 941 = .ok (.aload_n 2, 1) := by decide +kernel
theorem dL_942 : decode b_L 942 = .ok (.invokevirtual 111, 3) := by decide +kernel
theorem dL_945 : decode b_L 945 = .ok (.if_icmp .eq 54, 3) := by decide +kernel
theorem dL_948 : decode b_L 948 = .ok (.iconst 0, 1) := by decide +kernel
theorem dL_949 : decode b_L 949 = .ok (.ireturn, 1) := by decide +kernel
theorem dL_950 : decode b_L 950 = .ok (.aload_n 1, 1) := by decide +kernel
theorem dL_951 : decode b_L 951 = .ok (.invokevirtual 112, 3) := by decide +kernel
theorem dL_954 : decode b_L 954 = .ok (.pop, 1) := by decide +kernel
theorem dL_955 : decode b_L 955 = .ok (.aload_n 2, 1) := by decide +kernel
theorem dL_956 : decode b_L 956 = .ok (.invokevirtual 115, 3) := by decide +kernel
theorem dL_959 : decode b_L 959 = .ok (.pop, 1) := by decide +kernel
theorem dL_960 : decode b_L 960 = .ok (.goto 39, 3) := by decide +kernel
theorem dL_963 : decode b_L 963 = .ok (.aload_n 1, 1) := by decide +kernel
theorem dL_964 : decode b_L 964 = .ok (.invokevirtual 116, 3) := by decide +kernel
theorem dL_967 : decode b_L 967 = .ok (.pop, 1) := by decide +kernel
theorem dL_968 : decode b_L 968 = .ok (.aload_n 2, 1) := by decide +kernel
theorem dL_969 : decode b_L 969 = .ok (.invokevirtual 119, 3) := by decide +kernel
theorem dL_972 : decode b_L 972 = .ok (.pop, 1) := by decide +kernel
theorem dL_973 : decode b_L 973 = .ok (.goto 26, 3) := by decide +kernel
theorem dL_976 : decode b_L 976 = .ok (.aload_n 1, 1) := by decide +kernel
theorem dL_977 : decode b_L 977 = .ok (.aload_n 0, 1) := by decide +kernel
theorem dL_978 : decode b_L 978 = .ok (.iload_n 3, 1) := by decide +kernel
theorem dL_979 : decode b_L 979 = .ok (.iconst 1, 1) := by decide +kernel
theorem dL_980 : decode b_L 980 = .ok (.iadd, 1) := by decide +kernel
theorem dL_981 : decode b_L 981 = .ok (.iaload, 1) := by decide +kernel
theorem dL_982 : decode b_L 982 = .ok (.invokevirtual 120, 3) := by decide +kernel
theorem dL_985 : decode b_L 985 = .ok (.pop, 1) := by decide +kernel
theorem dL_986 : decode b_L 986 = .ok (.aload_n 2, 1) := by decide +kernel
theorem dL_987 : decode b_L 987 = .ok (.aload_n 0, 1) := by decide +kernel
theorem dL_988 : decode b_L 988 = .ok (.iload_n 3, 1) := by decide +kernel
theorem dL_989 : decode b_L 989 = .ok (.iconst 1, 1) := by decide +kernel
theorem dL_990 : decode b_L 990 = .ok (.iadd, 1) := by decide +kernel
theorem dL_991 : decode b_L 991 = .ok (.iaload, 1) := by decide +kernel
theorem dL_992 : decode b_L 992 = .ok (.invokevirtual 123, 3) := by decide +kernel
theorem dL_995 : decode b_L 995 = .ok (.pop, 1) := by decide +kernel
theorem dL_996 : decode b_L 996 = .ok (.goto 3, 3) := by decide +kernel
theorem dL_999 : decode b_L 999 = .ok (.iinc 3 5, 3) := by decide +kernel
theorem dL_1002 : decode b_L 1002 = .ok (.goto (-984), 3) := by decide +kernel
theorem dL_1005 : decode b_L 1005 = .ok (.iconst 1, 1) := by decide +kernel
theorem dL_1006 : decode b_L 1006 = .ok (.ireturn, 1) := by decide +kernel
theorem KL_4 {C : qCx} {G : jG} {mc ms : Nat} {p : Int → jS → jH → Prop} {q : Int → jS → jH → jS → jH → Prop} (h : xL C G) (hrm : C.2.2.2.1.frames = 10 ∧ C.2.2.2.1.locals = 396) (hM : M1_1 C.2.1 mc ms p q) : j_Call C b_L n_KT G.1 G.2.1 4 (.invokespecial 9) mc ms (fun a S V => ∃ u0 : Int, a = [(2, u0)] ∧ S.1 u0 = 31 ∧ p u0 S V) (fun a S V rs S' V' => ∃ u0 : Int, a = [(2, u0)] ∧ rs = [] ∧ q u0 S V S' V') := j_callI n_NWk h.2.2.2.2.2 h.1 hM ⟨h.2.1.1, h.2.1.2, h.2.2.1, h.2.2.2.1, h.2.2.2.2.1⟩ ⟨n_CB (y := y_1_1) (bytes := b_1_1) 0 h.2.2.2.2.1 n_w21 n_w19 n_w1 ⟨by decide, by decide, by decide +kernel⟩ rfl rfl ⟨by rw [hrm.1]; exact Nat.le_of_ble_eq_true rfl, by rw [hrm.2]; exact Nat.le_of_ble_eq_true rfl⟩, rfl, h.2.2.2.2.1 _ n_w20⟩ (Cn := RX10) (fun a S V hP => by obtain ⟨u0, rfl, e, -⟩ := hP; exact ⟨u0, _, 10, _, _, TX10, 8, rfl, rfl, by rw [e]; decide, by rw [e]; rfl, rfl⟩)
theorem KL_12 {C : qCx} {G : jG} {mc ms : Nat} {p : Int → jS → jH → Prop} {q : Int → jS → jH → jS → jH → Prop} (h : xL C G) (hrm : C.2.2.2.1.frames = 10 ∧ C.2.2.2.1.locals = 396) (hM : M13_1 C.2.1 mc ms p q) : j_Call C b_L n_KT G.1 G.2.1 4 (.invokespecial 12) mc ms (fun a S V => ∃ u0 : Int, a = [(2, u0)] ∧ S.1 u0 = 33 ∧ p u0 S V) (fun a S V rs S' V' => ∃ u0 : Int, a = [(2, u0)] ∧ rs = [] ∧ q u0 S V S' V') := j_callI n_NWk h.2.2.2.2.2 h.1 hM ⟨h.2.1.1, h.2.1.2, h.2.2.1, h.2.2.2.1, h.2.2.2.2.1⟩ ⟨n_CB (y := y_13_1) (bytes := b_13_1) 0 h.2.2.2.2.1 n_w752 n_w750 n_w12 ⟨by decide, by decide, by decide +kernel⟩ rfl rfl ⟨by rw [hrm.1]; exact Nat.le_of_ble_eq_true rfl, by rw [hrm.2]; exact Nat.le_of_ble_eq_true rfl⟩, rfl, h.2.2.2.2.1 _ n_w751⟩ (Cn := RX12) (fun a S V hP => by obtain ⟨u0, rfl, e, -⟩ := hP; exact ⟨u0, _, 12, _, _, TX12, 31, rfl, rfl, by rw [e]; decide, by rw [e]; rfl, rfl⟩)
theorem KL_179 {C : qCx} {G : jG} {mc ms : Nat} {p : Int → Int → Int → Int → jS → jH → Prop} {q : Int → Int → Int → Int → jS → jH → Int → jS → jH → Prop} (h : xL C G) (hrm : C.2.2.2.1.frames = 10 ∧ C.2.2.2.1.locals = 396) (hM : M1_2 C.2.1 mc ms p q) : j_Call C b_L n_KT G.1 G.2.1 4 (.invokevirtual 15) mc ms (fun a S V => ∃ u0 u1 u2 u3 : Int, a = [(2, u0), (0, u1), (1, u2), (0, u3)] ∧ S.1 u0 = 31 ∧ p u0 u1 u2 u3 S V) (fun a S V rs S' V' => ∃ u0 u1 u2 u3 r : Int, a = [(2, u0), (0, u1), (1, u2), (0, u3)] ∧ rs = [(0, r)] ∧ q u0 u1 u2 u3 S V r S' V') := j_callV n_NWk h.2.2.2.2.2 h.1 hM ⟨h.2.1.1, h.2.1.2, h.2.2.1, h.2.2.2.1, h.2.2.2.2.1⟩ ⟨n_CB (y := y_1_2) (bytes := b_1_2) 3 h.2.2.2.2.1 n_w301 n_w298 n_w1 ⟨by decide, by decide, by decide +kernel⟩ rfl rfl ⟨by rw [hrm.1]; exact Nat.le_of_ble_eq_true rfl, by rw [hrm.2]; exact Nat.le_of_ble_eq_true rfl⟩, h.2.2.2.2.1 _ n_w299, h.2.2.2.2.1 _ n_w300⟩ (Cn := RX10) (fun a S V hP => by obtain ⟨u0, u1, u2, u3, rfl, e, -⟩ := hP; exact ⟨u0, _, 10, _, _, TX10, 8, rfl, rfl, by rw [e]; decide, by rw [e]; rfl, rfl⟩)
theorem KL_214 {C : qCx} {G : jG} {mc ms : Nat} {p : Int → Int → Int → Int → jS → jH → Prop} {q : Int → Int → Int → Int → jS → jH → Int → jS → jH → Prop} (h : xL C G) (hrm : C.2.2.2.1.frames = 10 ∧ C.2.2.2.1.locals = 396) (hM : M13_6 C.2.1 mc ms p q) : j_Call C b_L n_KT G.1 G.2.1 4 (.invokevirtual 19) mc ms (fun a S V => ∃ u0 u1 u2 u3 : Int, a = [(2, u0), (0, u1), (1, u2), (0, u3)] ∧ S.1 u0 = 33 ∧ p u0 u1 u2 u3 S V) (fun a S V rs S' V' => ∃ u0 u1 u2 u3 r : Int, a = [(2, u0), (0, u1), (1, u2), (0, u3)] ∧ rs = [(0, r)] ∧ q u0 u1 u2 u3 S V r S' V') := j_callV n_NWk h.2.2.2.2.2 h.1 hM ⟨h.2.1.1, h.2.1.2, h.2.2.1, h.2.2.2.1, h.2.2.2.2.1⟩ ⟨n_CB (y := y_13_6) (bytes := b_13_6) 3 h.2.2.2.2.1 n_w916 n_w913 n_w12 ⟨by decide, by decide, by decide +kernel⟩ rfl rfl ⟨by rw [hrm.1]; exact Nat.le_of_ble_eq_true rfl, by rw [hrm.2]; exact Nat.le_of_ble_eq_true rfl⟩, h.2.2.2.2.1 _ n_w914, h.2.2.2.2.1 _ n_w915⟩ (Cn := RX12) (fun a S V hP => by obtain ⟨u0, u1, u2, u3, rfl, e, -⟩ := hP; exact ⟨u0, _, 12, _, _, TX12, 31, rfl, rfl, by rw [e]; decide, by rw [e]; rfl, rfl⟩)
theorem KL_227 {C : qCx} {G : jG} {mc ms : Nat} {p : Int → Int → jS → jH → Prop} {q : Int → Int → jS → jH → Int → jS → jH → Prop} (h : xL C G) (hrm : C.2.2.2.1.frames = 10 ∧ C.2.2.2.1.locals = 396) (hM : M1_3 C.2.1 mc ms p q) : j_Call C b_L n_KT G.1 G.2.1 4 (.invokevirtual 20) mc ms (fun a S V => ∃ u0 u1 : Int, a = [(2, u0), (0, u1)] ∧ S.1 u0 = 31 ∧ p u0 u1 S V) (fun a S V rs S' V' => ∃ u0 u1 r : Int, a = [(2, u0), (0, u1)] ∧ rs = [(0, r)] ∧ q u0 u1 S V r S' V') := j_callV n_NWk h.2.2.2.2.2 h.1 hM ⟨h.2.1.1, h.2.1.2, h.2.2.1, h.2.2.2.1, h.2.2.2.2.1⟩ ⟨n_CB (y := y_1_3) (bytes := b_1_3) 1 h.2.2.2.2.1 n_w320 n_w317 n_w1 ⟨by decide, by decide, by decide +kernel⟩ rfl rfl ⟨by rw [hrm.1]; exact Nat.le_of_ble_eq_true rfl, by rw [hrm.2]; exact Nat.le_of_ble_eq_true rfl⟩, h.2.2.2.2.1 _ n_w318, h.2.2.2.2.1 _ n_w319⟩ (Cn := RX10) (fun a S V hP => by obtain ⟨u0, u1, rfl, e, -⟩ := hP; exact ⟨u0, _, 10, _, _, TX10, 8, rfl, rfl, by rw [e]; decide, by rw [e]; rfl, rfl⟩)
theorem KL_237 {C : qCx} {G : jG} {mc ms : Nat} {p : Int → Int → jS → jH → Prop} {q : Int → Int → jS → jH → Int → jS → jH → Prop} (h : xL C G) (hrm : C.2.2.2.1.frames = 10 ∧ C.2.2.2.1.locals = 396) (hM : M13_7 C.2.1 mc ms p q) : j_Call C b_L n_KT G.1 G.2.1 4 (.invokevirtual 24) mc ms (fun a S V => ∃ u0 u1 : Int, a = [(2, u0), (0, u1)] ∧ S.1 u0 = 33 ∧ p u0 u1 S V) (fun a S V rs S' V' => ∃ u0 u1 r : Int, a = [(2, u0), (0, u1)] ∧ rs = [(0, r)] ∧ q u0 u1 S V r S' V') := j_callV n_NWk h.2.2.2.2.2 h.1 hM ⟨h.2.1.1, h.2.1.2, h.2.2.1, h.2.2.2.1, h.2.2.2.2.1⟩ ⟨n_CB (y := y_13_7) (bytes := b_13_7) 1 h.2.2.2.2.1 n_w933 n_w930 n_w12 ⟨by decide, by decide, by decide +kernel⟩ rfl rfl ⟨by rw [hrm.1]; exact Nat.le_of_ble_eq_true rfl, by rw [hrm.2]; exact Nat.le_of_ble_eq_true rfl⟩, h.2.2.2.2.1 _ n_w931, h.2.2.2.2.1 _ n_w932⟩ (Cn := RX12) (fun a S V hP => by obtain ⟨u0, u1, rfl, e, -⟩ := hP; exact ⟨u0, _, 12, _, _, TX12, 31, rfl, rfl, by rw [e]; decide, by rw [e]; rfl, rfl⟩)
theorem KL_255 {C : qCx} {G : jG} {mc ms : Nat} {p : Int → Int → Int → jS → jH → Prop} {q : Int → Int → Int → jS → jH → Int → jS → jH → Prop} (h : xL C G) (hrm : C.2.2.2.1.frames = 10 ∧ C.2.2.2.1.locals = 396) (hM : M1_4 C.2.1 mc ms p q) : j_Call C b_L n_KT G.1 G.2.1 4 (.invokevirtual 25) mc ms (fun a S V => ∃ u0 u1 u2 : Int, a = [(2, u0), (0, u1), (0, u2)] ∧ S.1 u0 = 31 ∧ p u0 u1 u2 S V) (fun a S V rs S' V' => ∃ u0 u1 u2 r : Int, a = [(2, u0), (0, u1), (0, u2)] ∧ rs = [(0, r)] ∧ q u0 u1 u2 S V r S' V') := j_callV n_NWk h.2.2.2.2.2 h.1 hM ⟨h.2.1.1, h.2.1.2, h.2.2.1, h.2.2.2.1, h.2.2.2.2.1⟩ ⟨n_CB (y := y_1_4) (bytes := b_1_4) 2 h.2.2.2.2.1 n_w324 n_w321 n_w1 ⟨by decide, by decide, by decide +kernel⟩ rfl rfl ⟨by rw [hrm.1]; exact Nat.le_of_ble_eq_true rfl, by rw [hrm.2]; exact Nat.le_of_ble_eq_true rfl⟩, h.2.2.2.2.1 _ n_w322, h.2.2.2.2.1 _ n_w323⟩ (Cn := RX10) (fun a S V hP => by obtain ⟨u0, u1, u2, rfl, e, -⟩ := hP; exact ⟨u0, _, 10, _, _, TX10, 8, rfl, rfl, by rw [e]; decide, by rw [e]; rfl, rfl⟩)
theorem KL_270 {C : qCx} {G : jG} {mc ms : Nat} {p : Int → Int → Int → jS → jH → Prop} {q : Int → Int → Int → jS → jH → Int → jS → jH → Prop} (h : xL C G) (hrm : C.2.2.2.1.frames = 10 ∧ C.2.2.2.1.locals = 396) (hM : M13_8 C.2.1 mc ms p q) : j_Call C b_L n_KT G.1 G.2.1 4 (.invokevirtual 29) mc ms (fun a S V => ∃ u0 u1 u2 : Int, a = [(2, u0), (0, u1), (0, u2)] ∧ S.1 u0 = 33 ∧ p u0 u1 u2 S V) (fun a S V rs S' V' => ∃ u0 u1 u2 r : Int, a = [(2, u0), (0, u1), (0, u2)] ∧ rs = [(0, r)] ∧ q u0 u1 u2 S V r S' V') := j_callV n_NWk h.2.2.2.2.2 h.1 hM ⟨h.2.1.1, h.2.1.2, h.2.2.1, h.2.2.2.1, h.2.2.2.2.1⟩ ⟨n_CB (y := y_13_8) (bytes := b_13_8) 2 h.2.2.2.2.1 n_w937 n_w934 n_w12 ⟨by decide, by decide, by decide +kernel⟩ rfl rfl ⟨by rw [hrm.1]; exact Nat.le_of_ble_eq_true rfl, by rw [hrm.2]; exact Nat.le_of_ble_eq_true rfl⟩, h.2.2.2.2.1 _ n_w935, h.2.2.2.2.1 _ n_w936⟩ (Cn := RX12) (fun a S V hP => by obtain ⟨u0, u1, u2, rfl, e, -⟩ := hP; exact ⟨u0, _, 12, _, _, TX12, 31, rfl, rfl, by rw [e]; decide, by rw [e]; rfl, rfl⟩)
theorem KL_298 {C : qCx} {G : jG} {mc ms : Nat} {p : Int → Int → Int → Int → Int → jS → jH → Prop} {q : Int → Int → Int → Int → Int → jS → jH → Int → jS → jH → Prop} (h : xL C G) (hrm : C.2.2.2.1.frames = 10 ∧ C.2.2.2.1.locals = 396) (hM : M1_5 C.2.1 mc ms p q) : j_Call C b_L n_KT G.1 G.2.1 4 (.invokevirtual 30) mc ms (fun a S V => ∃ u0 u1 u2 u3 u4 : Int, a = [(2, u0), (0, u1), (0, u2), (0, u3), (0, u4)] ∧ S.1 u0 = 31 ∧ p u0 u1 u2 u3 u4 S V) (fun a S V rs S' V' => ∃ u0 u1 u2 u3 u4 r : Int, a = [(2, u0), (0, u1), (0, u2), (0, u3), (0, u4)] ∧ rs = [(0, r)] ∧ q u0 u1 u2 u3 u4 S V r S' V') := j_callV n_NWk h.2.2.2.2.2 h.1 hM ⟨h.2.1.1, h.2.1.2, h.2.2.1, h.2.2.2.1, h.2.2.2.2.1⟩ ⟨n_CB (y := y_1_5) (bytes := b_1_5) 4 h.2.2.2.2.1 n_w328 n_w325 n_w1 ⟨by decide, by decide, by decide +kernel⟩ rfl rfl ⟨by rw [hrm.1]; exact Nat.le_of_ble_eq_true rfl, by rw [hrm.2]; exact Nat.le_of_ble_eq_true rfl⟩, h.2.2.2.2.1 _ n_w326, h.2.2.2.2.1 _ n_w327⟩ (Cn := RX10) (fun a S V hP => by obtain ⟨u0, u1, u2, u3, u4, rfl, e, -⟩ := hP; exact ⟨u0, _, 10, _, _, TX10, 8, rfl, rfl, by rw [e]; decide, by rw [e]; rfl, rfl⟩)
theorem KL_323 {C : qCx} {G : jG} {mc ms : Nat} {p : Int → Int → Int → Int → Int → jS → jH → Prop} {q : Int → Int → Int → Int → Int → jS → jH → Int → jS → jH → Prop} (h : xL C G) (hrm : C.2.2.2.1.frames = 10 ∧ C.2.2.2.1.locals = 396) (hM : M13_9 C.2.1 mc ms p q) : j_Call C b_L n_KT G.1 G.2.1 4 (.invokevirtual 34) mc ms (fun a S V => ∃ u0 u1 u2 u3 u4 : Int, a = [(2, u0), (0, u1), (0, u2), (0, u3), (0, u4)] ∧ S.1 u0 = 33 ∧ p u0 u1 u2 u3 u4 S V) (fun a S V rs S' V' => ∃ u0 u1 u2 u3 u4 r : Int, a = [(2, u0), (0, u1), (0, u2), (0, u3), (0, u4)] ∧ rs = [(0, r)] ∧ q u0 u1 u2 u3 u4 S V r S' V') := j_callV n_NWk h.2.2.2.2.2 h.1 hM ⟨h.2.1.1, h.2.1.2, h.2.2.1, h.2.2.2.1, h.2.2.2.2.1⟩ ⟨n_CB (y := y_13_9) (bytes := b_13_9) 4 h.2.2.2.2.1 n_w942 n_w939 n_w12 ⟨by decide, by decide, by decide +kernel⟩ rfl rfl ⟨by rw [hrm.1]; exact Nat.le_of_ble_eq_true rfl, by rw [hrm.2]; exact Nat.le_of_ble_eq_true rfl⟩, h.2.2.2.2.1 _ n_w940, h.2.2.2.2.1 _ n_w941⟩ (Cn := RX12) (fun a S V hP => by obtain ⟨u0, u1, u2, u3, u4, rfl, e, -⟩ := hP; exact ⟨u0, _, 12, _, _, TX12, 31, rfl, rfl, by rw [e]; decide, by rw [e]; rfl, rfl⟩)
theorem KL_341 {C : qCx} {G : jG} {mc ms : Nat} {p : Int → Int → Int → jS → jH → Prop} {q : Int → Int → Int → jS → jH → Int → jS → jH → Prop} (h : xL C G) (hrm : C.2.2.2.1.frames = 10 ∧ C.2.2.2.1.locals = 396) (hM : M1_6 C.2.1 mc ms p q) : j_Call C b_L n_KT G.1 G.2.1 4 (.invokevirtual 35) mc ms (fun a S V => ∃ u0 u1 u2 : Int, a = [(2, u0), (0, u1), (0, u2)] ∧ S.1 u0 = 31 ∧ p u0 u1 u2 S V) (fun a S V rs S' V' => ∃ u0 u1 u2 r : Int, a = [(2, u0), (0, u1), (0, u2)] ∧ rs = [(0, r)] ∧ q u0 u1 u2 S V r S' V') := j_callV n_NWk h.2.2.2.2.2 h.1 hM ⟨h.2.1.1, h.2.1.2, h.2.2.1, h.2.2.2.1, h.2.2.2.2.1⟩ ⟨n_CB (y := y_1_6) (bytes := b_1_6) 2 h.2.2.2.2.1 n_w332 n_w329 n_w1 ⟨by decide, by decide, by decide +kernel⟩ rfl rfl ⟨by rw [hrm.1]; exact Nat.le_of_ble_eq_true rfl, by rw [hrm.2]; exact Nat.le_of_ble_eq_true rfl⟩, h.2.2.2.2.1 _ n_w330, h.2.2.2.2.1 _ n_w331⟩ (Cn := RX10) (fun a S V hP => by obtain ⟨u0, u1, u2, rfl, e, -⟩ := hP; exact ⟨u0, _, 10, _, _, TX10, 8, rfl, rfl, by rw [e]; decide, by rw [e]; rfl, rfl⟩)
theorem KL_356 {C : qCx} {G : jG} {mc ms : Nat} {p : Int → Int → Int → jS → jH → Prop} {q : Int → Int → Int → jS → jH → Int → jS → jH → Prop} (h : xL C G) (hrm : C.2.2.2.1.frames = 10 ∧ C.2.2.2.1.locals = 396) (hM : M13_10 C.2.1 mc ms p q) : j_Call C b_L n_KT G.1 G.2.1 4 (.invokevirtual 38) mc ms (fun a S V => ∃ u0 u1 u2 : Int, a = [(2, u0), (0, u1), (0, u2)] ∧ S.1 u0 = 33 ∧ p u0 u1 u2 S V) (fun a S V rs S' V' => ∃ u0 u1 u2 r : Int, a = [(2, u0), (0, u1), (0, u2)] ∧ rs = [(0, r)] ∧ q u0 u1 u2 S V r S' V') := j_callV n_NWk h.2.2.2.2.2 h.1 hM ⟨h.2.1.1, h.2.1.2, h.2.2.1, h.2.2.2.1, h.2.2.2.2.1⟩ ⟨n_CB (y := y_13_10) (bytes := b_13_10) 2 h.2.2.2.2.1 n_w946 n_w943 n_w12 ⟨by decide, by decide, by decide +kernel⟩ rfl rfl ⟨by rw [hrm.1]; exact Nat.le_of_ble_eq_true rfl, by rw [hrm.2]; exact Nat.le_of_ble_eq_true rfl⟩, h.2.2.2.2.1 _ n_w944, h.2.2.2.2.1 _ n_w945⟩ (Cn := RX12) (fun a S V hP => by obtain ⟨u0, u1, u2, rfl, e, -⟩ := hP; exact ⟨u0, _, 12, _, _, TX12, 31, rfl, rfl, by rw [e]; decide, by rw [e]; rfl, rfl⟩)
theorem KL_379 {C : qCx} {G : jG} {mc ms : Nat} {p : Int → Int → Int → Int → jS → jH → Prop} {q : Int → Int → Int → Int → jS → jH → Int → jS → jH → Prop} (h : xL C G) (hrm : C.2.2.2.1.frames = 10 ∧ C.2.2.2.1.locals = 396) (hM : M1_7 C.2.1 mc ms p q) : j_Call C b_L n_KT G.1 G.2.1 4 (.invokevirtual 39) mc ms (fun a S V => ∃ u0 u1 u2 u3 : Int, a = [(2, u0), (0, u1), (0, u2), (0, u3)] ∧ S.1 u0 = 31 ∧ p u0 u1 u2 u3 S V) (fun a S V rs S' V' => ∃ u0 u1 u2 u3 r : Int, a = [(2, u0), (0, u1), (0, u2), (0, u3)] ∧ rs = [(0, r)] ∧ q u0 u1 u2 u3 S V r S' V') := j_callV n_NWk h.2.2.2.2.2 h.1 hM ⟨h.2.1.1, h.2.1.2, h.2.2.1, h.2.2.2.1, h.2.2.2.2.1⟩ ⟨n_CB (y := y_1_7) (bytes := b_1_7) 3 h.2.2.2.2.1 n_w363 n_w360 n_w1 ⟨by decide, by decide, by decide +kernel⟩ rfl rfl ⟨by rw [hrm.1]; exact Nat.le_of_ble_eq_true rfl, by rw [hrm.2]; exact Nat.le_of_ble_eq_true rfl⟩, h.2.2.2.2.1 _ n_w361, h.2.2.2.2.1 _ n_w362⟩ (Cn := RX10) (fun a S V hP => by obtain ⟨u0, u1, u2, u3, rfl, e, -⟩ := hP; exact ⟨u0, _, 10, _, _, TX10, 8, rfl, rfl, by rw [e]; decide, by rw [e]; rfl, rfl⟩)
theorem KL_399 {C : qCx} {G : jG} {mc ms : Nat} {p : Int → Int → Int → Int → jS → jH → Prop} {q : Int → Int → Int → Int → jS → jH → Int → jS → jH → Prop} (h : xL C G) (hrm : C.2.2.2.1.frames = 10 ∧ C.2.2.2.1.locals = 396) (hM : M13_13 C.2.1 mc ms p q) : j_Call C b_L n_KT G.1 G.2.1 4 (.invokevirtual 43) mc ms (fun a S V => ∃ u0 u1 u2 u3 : Int, a = [(2, u0), (0, u1), (0, u2), (0, u3)] ∧ S.1 u0 = 33 ∧ p u0 u1 u2 u3 S V) (fun a S V rs S' V' => ∃ u0 u1 u2 u3 r : Int, a = [(2, u0), (0, u1), (0, u2), (0, u3)] ∧ rs = [(0, r)] ∧ q u0 u1 u2 u3 S V r S' V') := j_callV n_NWk h.2.2.2.2.2 h.1 hM ⟨h.2.1.1, h.2.1.2, h.2.2.1, h.2.2.2.1, h.2.2.2.2.1⟩ ⟨n_CB (y := y_13_13) (bytes := b_13_13) 3 h.2.2.2.2.1 n_w952 n_w949 n_w12 ⟨by decide, by decide, by decide +kernel⟩ rfl rfl ⟨by rw [hrm.1]; exact Nat.le_of_ble_eq_true rfl, by rw [hrm.2]; exact Nat.le_of_ble_eq_true rfl⟩, h.2.2.2.2.1 _ n_w950, h.2.2.2.2.1 _ n_w951⟩ (Cn := RX12) (fun a S V hP => by obtain ⟨u0, u1, u2, u3, rfl, e, -⟩ := hP; exact ⟨u0, _, 12, _, _, TX12, 31, rfl, rfl, by rw [e]; decide, by rw [e]; rfl, rfl⟩)
theorem KL_417 {C : qCx} {G : jG} {mc ms : Nat} {p : Int → Int → Int → jS → jH → Prop} {q : Int → Int → Int → jS → jH → Int → jS → jH → Prop} (h : xL C G) (hrm : C.2.2.2.1.frames = 10 ∧ C.2.2.2.1.locals = 396) (hM : M1_8 C.2.1 mc ms p q) : j_Call C b_L n_KT G.1 G.2.1 4 (.invokevirtual 44) mc ms (fun a S V => ∃ u0 u1 u2 : Int, a = [(2, u0), (0, u1), (0, u2)] ∧ S.1 u0 = 31 ∧ p u0 u1 u2 S V) (fun a S V rs S' V' => ∃ u0 u1 u2 r : Int, a = [(2, u0), (0, u1), (0, u2)] ∧ rs = [(0, r)] ∧ q u0 u1 u2 S V r S' V') := j_callV n_NWk h.2.2.2.2.2 h.1 hM ⟨h.2.1.1, h.2.1.2, h.2.2.1, h.2.2.2.1, h.2.2.2.2.1⟩ ⟨n_CB (y := y_1_8) (bytes := b_1_8) 2 h.2.2.2.2.1 n_w392 n_w389 n_w1 ⟨by decide, by decide, by decide +kernel⟩ rfl rfl ⟨by rw [hrm.1]; exact Nat.le_of_ble_eq_true rfl, by rw [hrm.2]; exact Nat.le_of_ble_eq_true rfl⟩, h.2.2.2.2.1 _ n_w390, h.2.2.2.2.1 _ n_w391⟩ (Cn := RX10) (fun a S V hP => by obtain ⟨u0, u1, u2, rfl, e, -⟩ := hP; exact ⟨u0, _, 10, _, _, TX10, 8, rfl, rfl, by rw [e]; decide, by rw [e]; rfl, rfl⟩)
theorem KL_432 {C : qCx} {G : jG} {mc ms : Nat} {p : Int → Int → Int → jS → jH → Prop} {q : Int → Int → Int → jS → jH → Int → jS → jH → Prop} (h : xL C G) (hrm : C.2.2.2.1.frames = 10 ∧ C.2.2.2.1.locals = 396) (hM : M13_18 C.2.1 mc ms p q) : j_Call C b_L n_KT G.1 G.2.1 4 (.invokevirtual 47) mc ms (fun a S V => ∃ u0 u1 u2 : Int, a = [(2, u0), (0, u1), (0, u2)] ∧ S.1 u0 = 33 ∧ p u0 u1 u2 S V) (fun a S V rs S' V' => ∃ u0 u1 u2 r : Int, a = [(2, u0), (0, u1), (0, u2)] ∧ rs = [(0, r)] ∧ q u0 u1 u2 S V r S' V') := j_callV n_NWk h.2.2.2.2.2 h.1 hM ⟨h.2.1.1, h.2.1.2, h.2.2.1, h.2.2.2.1, h.2.2.2.2.1⟩ ⟨n_CB (y := y_13_18) (bytes := b_13_18) 2 h.2.2.2.2.1 n_w968 n_w965 n_w12 ⟨by decide, by decide, by decide +kernel⟩ rfl rfl ⟨by rw [hrm.1]; exact Nat.le_of_ble_eq_true rfl, by rw [hrm.2]; exact Nat.le_of_ble_eq_true rfl⟩, h.2.2.2.2.1 _ n_w966, h.2.2.2.2.1 _ n_w967⟩ (Cn := RX12) (fun a S V hP => by obtain ⟨u0, u1, u2, rfl, e, -⟩ := hP; exact ⟨u0, _, 12, _, _, TX12, 31, rfl, rfl, by rw [e]; decide, by rw [e]; rfl, rfl⟩)
theorem KL_468 {C : qCx} {G : jG} {mc ms : Nat} {p : Int → Int → Int → Int → Int → jS → jH → Prop} {q : Int → Int → Int → Int → Int → jS → jH → Int → jS → jH → Prop} (h : xL C G) (hrm : C.2.2.2.1.frames = 10 ∧ C.2.2.2.1.locals = 396) (hM : M1_9 C.2.1 mc ms p q) : j_Call C b_L n_KT G.1 G.2.1 4 (.invokevirtual 48) mc ms (fun a S V => ∃ u0 u1 u2 u3 u4 : Int, a = [(2, u0), (0, u1), (0, u2), (0, u3), (0, u4)] ∧ S.1 u0 = 31 ∧ p u0 u1 u2 u3 u4 S V) (fun a S V rs S' V' => ∃ u0 u1 u2 u3 u4 r : Int, a = [(2, u0), (0, u1), (0, u2), (0, u3), (0, u4)] ∧ rs = [(0, r)] ∧ q u0 u1 u2 u3 u4 S V r S' V') := j_callV n_NWk h.2.2.2.2.2 h.1 hM ⟨h.2.1.1, h.2.1.2, h.2.2.1, h.2.2.2.1, h.2.2.2.2.1⟩ ⟨n_CB (y := y_1_9) (bytes := b_1_9) 4 h.2.2.2.2.1 n_w455 n_w452 n_w1 ⟨by decide, by decide, by decide +kernel⟩ rfl rfl ⟨by rw [hrm.1]; exact Nat.le_of_ble_eq_true rfl, by rw [hrm.2]; exact Nat.le_of_ble_eq_true rfl⟩, h.2.2.2.2.1 _ n_w453, h.2.2.2.2.1 _ n_w454⟩ (Cn := RX10) (fun a S V hP => by obtain ⟨u0, u1, u2, u3, u4, rfl, e, -⟩ := hP; exact ⟨u0, _, 10, _, _, TX10, 8, rfl, rfl, by rw [e]; decide, by rw [e]; rfl, rfl⟩)
theorem KL_501 {C : qCx} {G : jG} {mc ms : Nat} {p : Int → Int → Int → Int → Int → jS → jH → Prop} {q : Int → Int → Int → Int → Int → jS → jH → Int → jS → jH → Prop} (h : xL C G) (hrm : C.2.2.2.1.frames = 10 ∧ C.2.2.2.1.locals = 396) (hM : M13_20 C.2.1 mc ms p q) : j_Call C b_L n_KT G.1 G.2.1 4 (.invokevirtual 52) mc ms (fun a S V => ∃ u0 u1 u2 u3 u4 : Int, a = [(2, u0), (0, u1), (0, u2), (0, u3), (0, u4)] ∧ S.1 u0 = 33 ∧ p u0 u1 u2 u3 u4 S V) (fun a S V rs S' V' => ∃ u0 u1 u2 u3 u4 r : Int, a = [(2, u0), (0, u1), (0, u2), (0, u3), (0, u4)] ∧ rs = [(0, r)] ∧ q u0 u1 u2 u3 u4 S V r S' V') := j_callV n_NWk h.2.2.2.2.2 h.1 hM ⟨h.2.1.1, h.2.1.2, h.2.2.1, h.2.2.2.1, h.2.2.2.2.1⟩ ⟨n_CB (y := y_13_20) (bytes := b_13_20) 4 h.2.2.2.2.1 n_w984 n_w981 n_w12 ⟨by decide, by decide, by decide +kernel⟩ rfl rfl ⟨by rw [hrm.1]; exact Nat.le_of_ble_eq_true rfl, by rw [hrm.2]; exact Nat.le_of_ble_eq_true rfl⟩, h.2.2.2.2.1 _ n_w982, h.2.2.2.2.1 _ n_w983⟩ (Cn := RX12) (fun a S V hP => by obtain ⟨u0, u1, u2, u3, u4, rfl, e, -⟩ := hP; exact ⟨u0, _, 12, _, _, TX12, 31, rfl, rfl, by rw [e]; decide, by rw [e]; rfl, rfl⟩)
theorem KL_524 {C : qCx} {G : jG} {mc ms : Nat} {p : Int → Int → Int → Int → jS → jH → Prop} {q : Int → Int → Int → Int → jS → jH → Int → jS → jH → Prop} (h : xL C G) (hrm : C.2.2.2.1.frames = 10 ∧ C.2.2.2.1.locals = 396) (hM : M1_10 C.2.1 mc ms p q) : j_Call C b_L n_KT G.1 G.2.1 4 (.invokevirtual 53) mc ms (fun a S V => ∃ u0 u1 u2 u3 : Int, a = [(2, u0), (0, u1), (0, u2), (0, u3)] ∧ S.1 u0 = 31 ∧ p u0 u1 u2 u3 S V) (fun a S V rs S' V' => ∃ u0 u1 u2 u3 r : Int, a = [(2, u0), (0, u1), (0, u2), (0, u3)] ∧ rs = [(1, r)] ∧ q u0 u1 u2 u3 S V r S' V') := j_callV n_NWk h.2.2.2.2.2 h.1 hM ⟨h.2.1.1, h.2.1.2, h.2.2.1, h.2.2.2.1, h.2.2.2.2.1⟩ ⟨n_CB (y := y_1_10) (bytes := b_1_10) 3 h.2.2.2.2.1 n_w469 n_w466 n_w1 ⟨by decide, by decide, by decide +kernel⟩ rfl rfl ⟨by rw [hrm.1]; exact Nat.le_of_ble_eq_true rfl, by rw [hrm.2]; exact Nat.le_of_ble_eq_true rfl⟩, h.2.2.2.2.1 _ n_w467, h.2.2.2.2.1 _ n_w468⟩ (Cn := RX10) (fun a S V hP => by obtain ⟨u0, u1, u2, u3, rfl, e, -⟩ := hP; exact ⟨u0, _, 10, _, _, TX10, 8, rfl, rfl, by rw [e]; decide, by rw [e]; rfl, rfl⟩)
theorem KL_544 {C : qCx} {G : jG} {mc ms : Nat} {p : Int → Int → Int → Int → jS → jH → Prop} {q : Int → Int → Int → Int → jS → jH → Int → jS → jH → Prop} (h : xL C G) (hrm : C.2.2.2.1.frames = 10 ∧ C.2.2.2.1.locals = 396) (hM : M13_21 C.2.1 mc ms p q) : j_Call C b_L n_KT G.1 G.2.1 4 (.invokevirtual 57) mc ms (fun a S V => ∃ u0 u1 u2 u3 : Int, a = [(2, u0), (0, u1), (0, u2), (0, u3)] ∧ S.1 u0 = 33 ∧ p u0 u1 u2 u3 S V) (fun a S V rs S' V' => ∃ u0 u1 u2 u3 r : Int, a = [(2, u0), (0, u1), (0, u2), (0, u3)] ∧ rs = [(1, r)] ∧ q u0 u1 u2 u3 S V r S' V') := j_callV n_NWk h.2.2.2.2.2 h.1 hM ⟨h.2.1.1, h.2.1.2, h.2.2.1, h.2.2.2.1, h.2.2.2.2.1⟩ ⟨n_CB (y := y_13_21) (bytes := b_13_21) 3 h.2.2.2.2.1 n_w997 n_w994 n_w12 ⟨by decide, by decide, by decide +kernel⟩ rfl rfl ⟨by rw [hrm.1]; exact Nat.le_of_ble_eq_true rfl, by rw [hrm.2]; exact Nat.le_of_ble_eq_true rfl⟩, h.2.2.2.2.1 _ n_w995, h.2.2.2.2.1 _ n_w996⟩ (Cn := RX12) (fun a S V hP => by obtain ⟨u0, u1, u2, u3, rfl, e, -⟩ := hP; exact ⟨u0, _, 12, _, _, TX12, 31, rfl, rfl, by rw [e]; decide, by rw [e]; rfl, rfl⟩)
theorem KL_562 {C : qCx} {G : jG} {mc ms : Nat} {p : Int → Int → Int → jS → jH → Prop} {q : Int → Int → Int → jS → jH → Int → jS → jH → Prop} (h : xL C G) (hrm : C.2.2.2.1.frames = 10 ∧ C.2.2.2.1.locals = 396) (hM : M1_11 C.2.1 mc ms p q) : j_Call C b_L n_KT G.1 G.2.1 4 (.invokevirtual 58) mc ms (fun a S V => ∃ u0 u1 u2 : Int, a = [(2, u0), (0, u1), (0, u2)] ∧ S.1 u0 = 31 ∧ p u0 u1 u2 S V) (fun a S V rs S' V' => ∃ u0 u1 u2 r : Int, a = [(2, u0), (0, u1), (0, u2)] ∧ rs = [(0, r)] ∧ q u0 u1 u2 S V r S' V') := j_callV n_NWk h.2.2.2.2.2 h.1 hM ⟨h.2.1.1, h.2.1.2, h.2.2.1, h.2.2.2.1, h.2.2.2.2.1⟩ ⟨n_CB (y := y_1_11) (bytes := b_1_11) 2 h.2.2.2.2.1 n_w490 n_w487 n_w1 ⟨by decide, by decide, by decide +kernel⟩ rfl rfl ⟨by rw [hrm.1]; exact Nat.le_of_ble_eq_true rfl, by rw [hrm.2]; exact Nat.le_of_ble_eq_true rfl⟩, h.2.2.2.2.1 _ n_w488, h.2.2.2.2.1 _ n_w489⟩ (Cn := RX10) (fun a S V hP => by obtain ⟨u0, u1, u2, rfl, e, -⟩ := hP; exact ⟨u0, _, 10, _, _, TX10, 8, rfl, rfl, by rw [e]; decide, by rw [e]; rfl, rfl⟩)
theorem KL_577 {C : qCx} {G : jG} {mc ms : Nat} {p : Int → Int → Int → jS → jH → Prop} {q : Int → Int → Int → jS → jH → Int → jS → jH → Prop} (h : xL C G) (hrm : C.2.2.2.1.frames = 10 ∧ C.2.2.2.1.locals = 396) (hM : M13_22 C.2.1 mc ms p q) : j_Call C b_L n_KT G.1 G.2.1 4 (.invokevirtual 61) mc ms (fun a S V => ∃ u0 u1 u2 : Int, a = [(2, u0), (0, u1), (0, u2)] ∧ S.1 u0 = 33 ∧ p u0 u1 u2 S V) (fun a S V rs S' V' => ∃ u0 u1 u2 r : Int, a = [(2, u0), (0, u1), (0, u2)] ∧ rs = [(0, r)] ∧ q u0 u1 u2 S V r S' V') := j_callV n_NWk h.2.2.2.2.2 h.1 hM ⟨h.2.1.1, h.2.1.2, h.2.2.1, h.2.2.2.1, h.2.2.2.2.1⟩ ⟨n_CB (y := y_13_22) (bytes := b_13_22) 2 h.2.2.2.2.1 n_w1001 n_w998 n_w12 ⟨by decide, by decide, by decide +kernel⟩ rfl rfl ⟨by rw [hrm.1]; exact Nat.le_of_ble_eq_true rfl, by rw [hrm.2]; exact Nat.le_of_ble_eq_true rfl⟩, h.2.2.2.2.1 _ n_w999, h.2.2.2.2.1 _ n_w1000⟩ (Cn := RX12) (fun a S V hP => by obtain ⟨u0, u1, u2, rfl, e, -⟩ := hP; exact ⟨u0, _, 12, _, _, TX12, 31, rfl, rfl, by rw [e]; decide, by rw [e]; rfl, rfl⟩)
theorem KL_600 {C : qCx} {G : jG} {mc ms : Nat} {p : Int → Int → Int → Int → jS → jH → Prop} {q : Int → Int → Int → Int → jS → jH → Int → jS → jH → Prop} (h : xL C G) (hrm : C.2.2.2.1.frames = 10 ∧ C.2.2.2.1.locals = 396) (hM : M1_12 C.2.1 mc ms p q) : j_Call C b_L n_KT G.1 G.2.1 4 (.invokevirtual 62) mc ms (fun a S V => ∃ u0 u1 u2 u3 : Int, a = [(2, u0), (0, u1), (0, u2), (0, u3)] ∧ S.1 u0 = 31 ∧ p u0 u1 u2 u3 S V) (fun a S V rs S' V' => ∃ u0 u1 u2 u3 r : Int, a = [(2, u0), (0, u1), (0, u2), (0, u3)] ∧ rs = [(0, r)] ∧ q u0 u1 u2 u3 S V r S' V') := j_callV n_NWk h.2.2.2.2.2 h.1 hM ⟨h.2.1.1, h.2.1.2, h.2.2.1, h.2.2.2.1, h.2.2.2.2.1⟩ ⟨n_CB (y := y_1_12) (bytes := b_1_12) 3 h.2.2.2.2.1 n_w499 n_w496 n_w1 ⟨by decide, by decide, by decide +kernel⟩ rfl rfl ⟨by rw [hrm.1]; exact Nat.le_of_ble_eq_true rfl, by rw [hrm.2]; exact Nat.le_of_ble_eq_true rfl⟩, h.2.2.2.2.1 _ n_w497, h.2.2.2.2.1 _ n_w498⟩ (Cn := RX10) (fun a S V hP => by obtain ⟨u0, u1, u2, u3, rfl, e, -⟩ := hP; exact ⟨u0, _, 10, _, _, TX10, 8, rfl, rfl, by rw [e]; decide, by rw [e]; rfl, rfl⟩)
theorem KL_620 {C : qCx} {G : jG} {mc ms : Nat} {p : Int → Int → Int → Int → jS → jH → Prop} {q : Int → Int → Int → Int → jS → jH → Int → jS → jH → Prop} (h : xL C G) (hrm : C.2.2.2.1.frames = 10 ∧ C.2.2.2.1.locals = 396) (hM : M13_32 C.2.1 mc ms p q) : j_Call C b_L n_KT G.1 G.2.1 4 (.invokevirtual 65) mc ms (fun a S V => ∃ u0 u1 u2 u3 : Int, a = [(2, u0), (0, u1), (0, u2), (0, u3)] ∧ S.1 u0 = 33 ∧ p u0 u1 u2 u3 S V) (fun a S V rs S' V' => ∃ u0 u1 u2 u3 r : Int, a = [(2, u0), (0, u1), (0, u2), (0, u3)] ∧ rs = [(0, r)] ∧ q u0 u1 u2 u3 S V r S' V') := j_callV n_NWk h.2.2.2.2.2 h.1 hM ⟨h.2.1.1, h.2.1.2, h.2.2.1, h.2.2.2.1, h.2.2.2.2.1⟩ ⟨n_CB (y := y_13_32) (bytes := b_13_32) 3 h.2.2.2.2.1 n_w1005 n_w1002 n_w12 ⟨by decide, by decide, by decide +kernel⟩ rfl rfl ⟨by rw [hrm.1]; exact Nat.le_of_ble_eq_true rfl, by rw [hrm.2]; exact Nat.le_of_ble_eq_true rfl⟩, h.2.2.2.2.1 _ n_w1003, h.2.2.2.2.1 _ n_w1004⟩ (Cn := RX12) (fun a S V hP => by obtain ⟨u0, u1, u2, u3, rfl, e, -⟩ := hP; exact ⟨u0, _, 12, _, _, TX12, 31, rfl, rfl, by rw [e]; decide, by rw [e]; rfl, rfl⟩)
theorem KL_643 {C : qCx} {G : jG} {mc ms : Nat} {p : Int → Int → Int → Int → jS → jH → Prop} {q : Int → Int → Int → Int → jS → jH → Int → jS → jH → Prop} (h : xL C G) (hrm : C.2.2.2.1.frames = 10 ∧ C.2.2.2.1.locals = 396) (hM : M1_13 C.2.1 mc ms p q) : j_Call C b_L n_KT G.1 G.2.1 4 (.invokevirtual 66) mc ms (fun a S V => ∃ u0 u1 u2 u3 : Int, a = [(2, u0), (0, u1), (0, u2), (0, u3)] ∧ S.1 u0 = 31 ∧ p u0 u1 u2 u3 S V) (fun a S V rs S' V' => ∃ u0 u1 u2 u3 r : Int, a = [(2, u0), (0, u1), (0, u2), (0, u3)] ∧ rs = [(0, r)] ∧ q u0 u1 u2 u3 S V r S' V') := j_callV n_NWk h.2.2.2.2.2 h.1 hM ⟨h.2.1.1, h.2.1.2, h.2.2.1, h.2.2.2.1, h.2.2.2.2.1⟩ ⟨n_CB (y := y_1_13) (bytes := b_1_13) 3 h.2.2.2.2.1 n_w596 n_w593 n_w1 ⟨by decide, by decide, by decide +kernel⟩ rfl rfl ⟨by rw [hrm.1]; exact Nat.le_of_ble_eq_true rfl, by rw [hrm.2]; exact Nat.le_of_ble_eq_true rfl⟩, h.2.2.2.2.1 _ n_w594, h.2.2.2.2.1 _ n_w595⟩ (Cn := RX10) (fun a S V hP => by obtain ⟨u0, u1, u2, u3, rfl, e, -⟩ := hP; exact ⟨u0, _, 10, _, _, TX10, 8, rfl, rfl, by rw [e]; decide, by rw [e]; rfl, rfl⟩)
theorem KL_663 {C : qCx} {G : jG} {mc ms : Nat} {p : Int → Int → Int → Int → jS → jH → Prop} {q : Int → Int → Int → Int → jS → jH → Int → jS → jH → Prop} (h : xL C G) (hrm : C.2.2.2.1.frames = 10 ∧ C.2.2.2.1.locals = 396) (hM : M13_33 C.2.1 mc ms p q) : j_Call C b_L n_KT G.1 G.2.1 4 (.invokevirtual 69) mc ms (fun a S V => ∃ u0 u1 u2 u3 : Int, a = [(2, u0), (0, u1), (0, u2), (0, u3)] ∧ S.1 u0 = 33 ∧ p u0 u1 u2 u3 S V) (fun a S V rs S' V' => ∃ u0 u1 u2 u3 r : Int, a = [(2, u0), (0, u1), (0, u2), (0, u3)] ∧ rs = [(0, r)] ∧ q u0 u1 u2 u3 S V r S' V') := j_callV n_NWk h.2.2.2.2.2 h.1 hM ⟨h.2.1.1, h.2.1.2, h.2.2.1, h.2.2.2.1, h.2.2.2.2.1⟩ ⟨n_CB (y := y_13_33) (bytes := b_13_33) 3 h.2.2.2.2.1 n_w1046 n_w1043 n_w12 ⟨by decide, by decide, by decide +kernel⟩ rfl rfl ⟨by rw [hrm.1]; exact Nat.le_of_ble_eq_true rfl, by rw [hrm.2]; exact Nat.le_of_ble_eq_true rfl⟩, h.2.2.2.2.1 _ n_w1044, h.2.2.2.2.1 _ n_w1045⟩ (Cn := RX12) (fun a S V hP => by obtain ⟨u0, u1, u2, u3, rfl, e, -⟩ := hP; exact ⟨u0, _, 12, _, _, TX12, 31, rfl, rfl, by rw [e]; decide, by rw [e]; rfl, rfl⟩)
theorem KL_676 {C : qCx} {G : jG} {mc ms : Nat} {p : Int → Int → jS → jH → Prop} {q : Int → Int → jS → jH → Int → jS → jH → Prop} (h : xL C G) (hrm : C.2.2.2.1.frames = 10 ∧ C.2.2.2.1.locals = 396) (hM : M1_14 C.2.1 mc ms p q) : j_Call C b_L n_KT G.1 G.2.1 4 (.invokevirtual 70) mc ms (fun a S V => ∃ u0 u1 : Int, a = [(2, u0), (0, u1)] ∧ S.1 u0 = 31 ∧ p u0 u1 S V) (fun a S V rs S' V' => ∃ u0 u1 r : Int, a = [(2, u0), (0, u1)] ∧ rs = [(0, r)] ∧ q u0 u1 S V r S' V') := j_callV n_NWk h.2.2.2.2.2 h.1 hM ⟨h.2.1.1, h.2.1.2, h.2.2.1, h.2.2.2.1, h.2.2.2.2.1⟩ ⟨n_CB (y := y_1_14) (bytes := b_1_14) 1 h.2.2.2.2.1 n_w600 n_w597 n_w1 ⟨by decide, by decide, by decide +kernel⟩ rfl rfl ⟨by rw [hrm.1]; exact Nat.le_of_ble_eq_true rfl, by rw [hrm.2]; exact Nat.le_of_ble_eq_true rfl⟩, h.2.2.2.2.1 _ n_w598, h.2.2.2.2.1 _ n_w599⟩ (Cn := RX10) (fun a S V hP => by obtain ⟨u0, u1, rfl, e, -⟩ := hP; exact ⟨u0, _, 10, _, _, TX10, 8, rfl, rfl, by rw [e]; decide, by rw [e]; rfl, rfl⟩)
theorem KL_686 {C : qCx} {G : jG} {mc ms : Nat} {p : Int → Int → jS → jH → Prop} {q : Int → Int → jS → jH → Int → jS → jH → Prop} (h : xL C G) (hrm : C.2.2.2.1.frames = 10 ∧ C.2.2.2.1.locals = 396) (hM : M13_41 C.2.1 mc ms p q) : j_Call C b_L n_KT G.1 G.2.1 4 (.invokevirtual 73) mc ms (fun a S V => ∃ u0 u1 : Int, a = [(2, u0), (0, u1)] ∧ S.1 u0 = 33 ∧ p u0 u1 S V) (fun a S V rs S' V' => ∃ u0 u1 r : Int, a = [(2, u0), (0, u1)] ∧ rs = [(0, r)] ∧ q u0 u1 S V r S' V') := j_callV n_NWk h.2.2.2.2.2 h.1 hM ⟨h.2.1.1, h.2.1.2, h.2.2.1, h.2.2.2.1, h.2.2.2.2.1⟩ ⟨n_CB (y := y_13_41) (bytes := b_13_41) 1 h.2.2.2.2.1 n_w1058 n_w1055 n_w12 ⟨by decide, by decide, by decide +kernel⟩ rfl rfl ⟨by rw [hrm.1]; exact Nat.le_of_ble_eq_true rfl, by rw [hrm.2]; exact Nat.le_of_ble_eq_true rfl⟩, h.2.2.2.2.1 _ n_w1056, h.2.2.2.2.1 _ n_w1057⟩ (Cn := RX12) (fun a S V hP => by obtain ⟨u0, u1, rfl, e, -⟩ := hP; exact ⟨u0, _, 12, _, _, TX12, 31, rfl, rfl, by rw [e]; decide, by rw [e]; rfl, rfl⟩)
theorem KL_699 {C : qCx} {G : jG} {mc ms : Nat} {p : Int → Int → jS → jH → Prop} {q : Int → Int → jS → jH → Int → jS → jH → Prop} (h : xL C G) (hrm : C.2.2.2.1.frames = 10 ∧ C.2.2.2.1.locals = 396) (hM : M1_15 C.2.1 mc ms p q) : j_Call C b_L n_KT G.1 G.2.1 4 (.invokevirtual 74) mc ms (fun a S V => ∃ u0 u1 : Int, a = [(2, u0), (0, u1)] ∧ S.1 u0 = 31 ∧ p u0 u1 S V) (fun a S V rs S' V' => ∃ u0 u1 r : Int, a = [(2, u0), (0, u1)] ∧ rs = [(0, r)] ∧ q u0 u1 S V r S' V') := j_callV n_NWk h.2.2.2.2.2 h.1 hM ⟨h.2.1.1, h.2.1.2, h.2.2.1, h.2.2.2.1, h.2.2.2.2.1⟩ ⟨n_CB (y := y_1_15) (bytes := b_1_15) 1 h.2.2.2.2.1 n_w663 n_w660 n_w1 ⟨by decide, by decide, by decide +kernel⟩ rfl rfl ⟨by rw [hrm.1]; exact Nat.le_of_ble_eq_true rfl, by rw [hrm.2]; exact Nat.le_of_ble_eq_true rfl⟩, h.2.2.2.2.1 _ n_w661, h.2.2.2.2.1 _ n_w662⟩ (Cn := RX10) (fun a S V hP => by obtain ⟨u0, u1, rfl, e, -⟩ := hP; exact ⟨u0, _, 10, _, _, TX10, 8, rfl, rfl, by rw [e]; decide, by rw [e]; rfl, rfl⟩)
theorem KL_709 {C : qCx} {G : jG} {mc ms : Nat} {p : Int → Int → jS → jH → Prop} {q : Int → Int → jS → jH → Int → jS → jH → Prop} (h : xL C G) (hrm : C.2.2.2.1.frames = 10 ∧ C.2.2.2.1.locals = 396) (hM : M13_42 C.2.1 mc ms p q) : j_Call C b_L n_KT G.1 G.2.1 4 (.invokevirtual 77) mc ms (fun a S V => ∃ u0 u1 : Int, a = [(2, u0), (0, u1)] ∧ S.1 u0 = 33 ∧ p u0 u1 S V) (fun a S V rs S' V' => ∃ u0 u1 r : Int, a = [(2, u0), (0, u1)] ∧ rs = [(0, r)] ∧ q u0 u1 S V r S' V') := j_callV n_NWk h.2.2.2.2.2 h.1 hM ⟨h.2.1.1, h.2.1.2, h.2.2.1, h.2.2.2.1, h.2.2.2.2.1⟩ ⟨n_CB (y := y_13_42) (bytes := b_13_42) 1 h.2.2.2.2.1 n_w1083 n_w1080 n_w12 ⟨by decide, by decide, by decide +kernel⟩ rfl rfl ⟨by rw [hrm.1]; exact Nat.le_of_ble_eq_true rfl, by rw [hrm.2]; exact Nat.le_of_ble_eq_true rfl⟩, h.2.2.2.2.1 _ n_w1081, h.2.2.2.2.1 _ n_w1082⟩ (Cn := RX12) (fun a S V hP => by obtain ⟨u0, u1, rfl, e, -⟩ := hP; exact ⟨u0, _, 12, _, _, TX12, 31, rfl, rfl, by rw [e]; decide, by rw [e]; rfl, rfl⟩)
theorem KL_727 {C : qCx} {G : jG} {mc ms : Nat} {p : Int → Int → Int → jS → jH → Prop} {q : Int → Int → Int → jS → jH → Int → jS → jH → Prop} (h : xL C G) (hrm : C.2.2.2.1.frames = 10 ∧ C.2.2.2.1.locals = 396) (hM : M1_16 C.2.1 mc ms p q) : j_Call C b_L n_KT G.1 G.2.1 4 (.invokevirtual 78) mc ms (fun a S V => ∃ u0 u1 u2 : Int, a = [(2, u0), (0, u1), (0, u2)] ∧ S.1 u0 = 31 ∧ p u0 u1 u2 S V) (fun a S V rs S' V' => ∃ u0 u1 u2 r : Int, a = [(2, u0), (0, u1), (0, u2)] ∧ rs = [(0, r)] ∧ q u0 u1 u2 S V r S' V') := j_callV n_NWk h.2.2.2.2.2 h.1 hM ⟨h.2.1.1, h.2.1.2, h.2.2.1, h.2.2.2.1, h.2.2.2.2.1⟩ ⟨n_CB (y := y_1_16) (bytes := b_1_16) 2 h.2.2.2.2.1 n_w667 n_w664 n_w1 ⟨by decide, by decide, by decide +kernel⟩ rfl rfl ⟨by rw [hrm.1]; exact Nat.le_of_ble_eq_true rfl, by rw [hrm.2]; exact Nat.le_of_ble_eq_true rfl⟩, h.2.2.2.2.1 _ n_w665, h.2.2.2.2.1 _ n_w666⟩ (Cn := RX10) (fun a S V hP => by obtain ⟨u0, u1, u2, rfl, e, -⟩ := hP; exact ⟨u0, _, 10, _, _, TX10, 8, rfl, rfl, by rw [e]; decide, by rw [e]; rfl, rfl⟩)
theorem KL_742 {C : qCx} {G : jG} {mc ms : Nat} {p : Int → Int → Int → jS → jH → Prop} {q : Int → Int → Int → jS → jH → Int → jS → jH → Prop} (h : xL C G) (hrm : C.2.2.2.1.frames = 10 ∧ C.2.2.2.1.locals = 396) (hM : M13_44 C.2.1 mc ms p q) : j_Call C b_L n_KT G.1 G.2.1 4 (.invokevirtual 81) mc ms (fun a S V => ∃ u0 u1 u2 : Int, a = [(2, u0), (0, u1), (0, u2)] ∧ S.1 u0 = 33 ∧ p u0 u1 u2 S V) (fun a S V rs S' V' => ∃ u0 u1 u2 r : Int, a = [(2, u0), (0, u1), (0, u2)] ∧ rs = [(0, r)] ∧ q u0 u1 u2 S V r S' V') := j_callV n_NWk h.2.2.2.2.2 h.1 hM ⟨h.2.1.1, h.2.1.2, h.2.2.1, h.2.2.2.1, h.2.2.2.2.1⟩ ⟨n_CB (y := y_13_44) (bytes := b_13_44) 2 h.2.2.2.2.1 n_w1087 n_w1084 n_w12 ⟨by decide, by decide, by decide +kernel⟩ rfl rfl ⟨by rw [hrm.1]; exact Nat.le_of_ble_eq_true rfl, by rw [hrm.2]; exact Nat.le_of_ble_eq_true rfl⟩, h.2.2.2.2.1 _ n_w1085, h.2.2.2.2.1 _ n_w1086⟩ (Cn := RX12) (fun a S V hP => by obtain ⟨u0, u1, u2, rfl, e, -⟩ := hP; exact ⟨u0, _, 12, _, _, TX12, 31, rfl, rfl, by rw [e]; decide, by rw [e]; rfl, rfl⟩)
theorem KL_775 {C : qCx} {G : jG} {mc ms : Nat} {p : Int → Int → Int → jS → jH → Prop} {q : Int → Int → Int → jS → jH → Int → jS → jH → Prop} (h : xL C G) (hrm : C.2.2.2.1.frames = 10 ∧ C.2.2.2.1.locals = 396) (hM : M1_17 C.2.1 mc ms p q) : j_Call C b_L n_KT G.1 G.2.1 4 (.invokevirtual 82) mc ms (fun a S V => ∃ u0 u1 u2 : Int, a = [(2, u0), (1, u1), (0, u2)] ∧ S.1 u0 = 31 ∧ p u0 u1 u2 S V) (fun a S V rs S' V' => ∃ u0 u1 u2 r : Int, a = [(2, u0), (1, u1), (0, u2)] ∧ rs = [(0, r)] ∧ q u0 u1 u2 S V r S' V') := j_callV n_NWk h.2.2.2.2.2 h.1 hM ⟨h.2.1.1, h.2.1.2, h.2.2.1, h.2.2.2.1, h.2.2.2.2.1⟩ ⟨n_CB (y := y_1_17) (bytes := b_1_17) 2 h.2.2.2.2.1 n_w675 n_w672 n_w1 ⟨by decide, by decide, by decide +kernel⟩ rfl rfl ⟨by rw [hrm.1]; exact Nat.le_of_ble_eq_true rfl, by rw [hrm.2]; exact Nat.le_of_ble_eq_true rfl⟩, h.2.2.2.2.1 _ n_w673, h.2.2.2.2.1 _ n_w674⟩ (Cn := RX10) (fun a S V hP => by obtain ⟨u0, u1, u2, rfl, e, -⟩ := hP; exact ⟨u0, _, 10, _, _, TX10, 8, rfl, rfl, by rw [e]; decide, by rw [e]; rfl, rfl⟩)
theorem KL_805 {C : qCx} {G : jG} {mc ms : Nat} {p : Int → Int → Int → jS → jH → Prop} {q : Int → Int → Int → jS → jH → Int → jS → jH → Prop} (h : xL C G) (hrm : C.2.2.2.1.frames = 10 ∧ C.2.2.2.1.locals = 396) (hM : M13_45 C.2.1 mc ms p q) : j_Call C b_L n_KT G.1 G.2.1 4 (.invokevirtual 86) mc ms (fun a S V => ∃ u0 u1 u2 : Int, a = [(2, u0), (1, u1), (0, u2)] ∧ S.1 u0 = 33 ∧ p u0 u1 u2 S V) (fun a S V rs S' V' => ∃ u0 u1 u2 r : Int, a = [(2, u0), (1, u1), (0, u2)] ∧ rs = [(0, r)] ∧ q u0 u1 u2 S V r S' V') := j_callV n_NWk h.2.2.2.2.2 h.1 hM ⟨h.2.1.1, h.2.1.2, h.2.2.1, h.2.2.2.1, h.2.2.2.2.1⟩ ⟨n_CB (y := y_13_45) (bytes := b_13_45) 2 h.2.2.2.2.1 n_w1095 n_w1092 n_w12 ⟨by decide, by decide, by decide +kernel⟩ rfl rfl ⟨by rw [hrm.1]; exact Nat.le_of_ble_eq_true rfl, by rw [hrm.2]; exact Nat.le_of_ble_eq_true rfl⟩, h.2.2.2.2.1 _ n_w1093, h.2.2.2.2.1 _ n_w1094⟩ (Cn := RX12) (fun a S V hP => by obtain ⟨u0, u1, u2, rfl, e, -⟩ := hP; exact ⟨u0, _, 12, _, _, TX12, 31, rfl, rfl, by rw [e]; decide, by rw [e]; rfl, rfl⟩)
theorem KL_818 {C : qCx} {G : jG} {mc ms : Nat} {p : Int → Int → jS → jH → Prop} {q : Int → Int → jS → jH → Int → jS → jH → Prop} (h : xL C G) (hrm : C.2.2.2.1.frames = 10 ∧ C.2.2.2.1.locals = 396) (hM : M1_18 C.2.1 mc ms p q) : j_Call C b_L n_KT G.1 G.2.1 4 (.invokevirtual 87) mc ms (fun a S V => ∃ u0 u1 : Int, a = [(2, u0), (0, u1)] ∧ S.1 u0 = 31 ∧ p u0 u1 S V) (fun a S V rs S' V' => ∃ u0 u1 r : Int, a = [(2, u0), (0, u1)] ∧ rs = [(0, r)] ∧ q u0 u1 S V r S' V') := j_callV n_NWk h.2.2.2.2.2 h.1 hM ⟨h.2.1.1, h.2.1.2, h.2.2.1, h.2.2.2.1, h.2.2.2.2.1⟩ ⟨n_CB (y := y_1_18) (bytes := b_1_18) 1 h.2.2.2.2.1 n_w680 n_w677 n_w1 ⟨by decide, by decide, by decide +kernel⟩ rfl rfl ⟨by rw [hrm.1]; exact Nat.le_of_ble_eq_true rfl, by rw [hrm.2]; exact Nat.le_of_ble_eq_true rfl⟩, h.2.2.2.2.1 _ n_w678, h.2.2.2.2.1 _ n_w679⟩ (Cn := RX10) (fun a S V hP => by obtain ⟨u0, u1, rfl, e, -⟩ := hP; exact ⟨u0, _, 10, _, _, TX10, 8, rfl, rfl, by rw [e]; decide, by rw [e]; rfl, rfl⟩)
theorem KL_828 {C : qCx} {G : jG} {mc ms : Nat} {p : Int → Int → jS → jH → Prop} {q : Int → Int → jS → jH → Int → jS → jH → Prop} (h : xL C G) (hrm : C.2.2.2.1.frames = 10 ∧ C.2.2.2.1.locals = 396) (hM : M13_34 C.2.1 mc ms p q) : j_Call C b_L n_KT G.1 G.2.1 4 (.invokevirtual 90) mc ms (fun a S V => ∃ u0 u1 : Int, a = [(2, u0), (0, u1)] ∧ S.1 u0 = 33 ∧ p u0 u1 S V) (fun a S V rs S' V' => ∃ u0 u1 r : Int, a = [(2, u0), (0, u1)] ∧ rs = [(0, r)] ∧ q u0 u1 S V r S' V') := j_callV n_NWk h.2.2.2.2.2 h.1 hM ⟨h.2.1.1, h.2.1.2, h.2.2.1, h.2.2.2.1, h.2.2.2.2.1⟩ ⟨n_CB (y := y_13_34) (bytes := b_13_34) 1 h.2.2.2.2.1 n_w1050 n_w1047 n_w12 ⟨by decide, by decide, by decide +kernel⟩ rfl rfl ⟨by rw [hrm.1]; exact Nat.le_of_ble_eq_true rfl, by rw [hrm.2]; exact Nat.le_of_ble_eq_true rfl⟩, h.2.2.2.2.1 _ n_w1048, h.2.2.2.2.1 _ n_w1049⟩ (Cn := RX12) (fun a S V hP => by obtain ⟨u0, u1, rfl, e, -⟩ := hP; exact ⟨u0, _, 12, _, _, TX12, 31, rfl, rfl, by rw [e]; decide, by rw [e]; rfl, rfl⟩)
theorem KL_846 {C : qCx} {G : jG} {mc ms : Nat} {p : Int → Int → Int → jS → jH → Prop} {q : Int → Int → Int → jS → jH → Int → jS → jH → Prop} (h : xL C G) (hrm : C.2.2.2.1.frames = 10 ∧ C.2.2.2.1.locals = 396) (hM : M1_19 C.2.1 mc ms p q) : j_Call C b_L n_KT G.1 G.2.1 4 (.invokevirtual 91) mc ms (fun a S V => ∃ u0 u1 u2 : Int, a = [(2, u0), (0, u1), (0, u2)] ∧ S.1 u0 = 31 ∧ p u0 u1 u2 S V) (fun a S V rs S' V' => ∃ u0 u1 u2 r : Int, a = [(2, u0), (0, u1), (0, u2)] ∧ rs = [(0, r)] ∧ q u0 u1 u2 S V r S' V') := j_callV n_NWk h.2.2.2.2.2 h.1 hM ⟨h.2.1.1, h.2.1.2, h.2.2.1, h.2.2.2.1, h.2.2.2.2.1⟩ ⟨n_CB (y := y_1_19) (bytes := b_1_19) 2 h.2.2.2.2.1 n_w692 n_w689 n_w1 ⟨by decide, by decide, by decide +kernel⟩ rfl rfl ⟨by rw [hrm.1]; exact Nat.le_of_ble_eq_true rfl, by rw [hrm.2]; exact Nat.le_of_ble_eq_true rfl⟩, h.2.2.2.2.1 _ n_w690, h.2.2.2.2.1 _ n_w691⟩ (Cn := RX10) (fun a S V hP => by obtain ⟨u0, u1, u2, rfl, e, -⟩ := hP; exact ⟨u0, _, 10, _, _, TX10, 8, rfl, rfl, by rw [e]; decide, by rw [e]; rfl, rfl⟩)
theorem KL_861 {C : qCx} {G : jG} {mc ms : Nat} {p : Int → Int → Int → jS → jH → Prop} {q : Int → Int → Int → jS → jH → Int → jS → jH → Prop} (h : xL C G) (hrm : C.2.2.2.1.frames = 10 ∧ C.2.2.2.1.locals = 396) (hM : M13_47 C.2.1 mc ms p q) : j_Call C b_L n_KT G.1 G.2.1 4 (.invokevirtual 94) mc ms (fun a S V => ∃ u0 u1 u2 : Int, a = [(2, u0), (0, u1), (0, u2)] ∧ S.1 u0 = 33 ∧ p u0 u1 u2 S V) (fun a S V rs S' V' => ∃ u0 u1 u2 r : Int, a = [(2, u0), (0, u1), (0, u2)] ∧ rs = [(0, r)] ∧ q u0 u1 u2 S V r S' V') := j_callV n_NWk h.2.2.2.2.2 h.1 hM ⟨h.2.1.1, h.2.1.2, h.2.2.1, h.2.2.2.1, h.2.2.2.2.1⟩ ⟨n_CB (y := y_13_47) (bytes := b_13_47) 2 h.2.2.2.2.1 n_w1100 n_w1097 n_w12 ⟨by decide, by decide, by decide +kernel⟩ rfl rfl ⟨by rw [hrm.1]; exact Nat.le_of_ble_eq_true rfl, by rw [hrm.2]; exact Nat.le_of_ble_eq_true rfl⟩, h.2.2.2.2.1 _ n_w1098, h.2.2.2.2.1 _ n_w1099⟩ (Cn := RX12) (fun a S V hP => by obtain ⟨u0, u1, u2, rfl, e, -⟩ := hP; exact ⟨u0, _, 12, _, _, TX12, 31, rfl, rfl, by rw [e]; decide, by rw [e]; rfl, rfl⟩)
theorem KL_874 {C : qCx} {G : jG} {mc ms : Nat} {p : Int → Int → jS → jH → Prop} {q : Int → Int → jS → jH → Int → jS → jH → Prop} (h : xL C G) (hrm : C.2.2.2.1.frames = 10 ∧ C.2.2.2.1.locals = 396) (hM : M1_20 C.2.1 mc ms p q) : j_Call C b_L n_KT G.1 G.2.1 4 (.invokevirtual 95) mc ms (fun a S V => ∃ u0 u1 : Int, a = [(2, u0), (0, u1)] ∧ S.1 u0 = 31 ∧ p u0 u1 S V) (fun a S V rs S' V' => ∃ u0 u1 r : Int, a = [(2, u0), (0, u1)] ∧ rs = [(0, r)] ∧ q u0 u1 S V r S' V') := j_callV n_NWk h.2.2.2.2.2 h.1 hM ⟨h.2.1.1, h.2.1.2, h.2.2.1, h.2.2.2.1, h.2.2.2.2.1⟩ ⟨n_CB (y := y_1_20) (bytes := b_1_20) 1 h.2.2.2.2.1 n_w696 n_w693 n_w1 ⟨by decide, by decide, by decide +kernel⟩ rfl rfl ⟨by rw [hrm.1]; exact Nat.le_of_ble_eq_true rfl, by rw [hrm.2]; exact Nat.le_of_ble_eq_true rfl⟩, h.2.2.2.2.1 _ n_w694, h.2.2.2.2.1 _ n_w695⟩ (Cn := RX10) (fun a S V hP => by obtain ⟨u0, u1, rfl, e, -⟩ := hP; exact ⟨u0, _, 10, _, _, TX10, 8, rfl, rfl, by rw [e]; decide, by rw [e]; rfl, rfl⟩)
theorem KL_884 {C : qCx} {G : jG} {mc ms : Nat} {p : Int → Int → jS → jH → Prop} {q : Int → Int → jS → jH → Int → jS → jH → Prop} (h : xL C G) (hrm : C.2.2.2.1.frames = 10 ∧ C.2.2.2.1.locals = 396) (hM : M13_48 C.2.1 mc ms p q) : j_Call C b_L n_KT G.1 G.2.1 4 (.invokevirtual 98) mc ms (fun a S V => ∃ u0 u1 : Int, a = [(2, u0), (0, u1)] ∧ S.1 u0 = 33 ∧ p u0 u1 S V) (fun a S V rs S' V' => ∃ u0 u1 r : Int, a = [(2, u0), (0, u1)] ∧ rs = [(0, r)] ∧ q u0 u1 S V r S' V') := j_callV n_NWk h.2.2.2.2.2 h.1 hM ⟨h.2.1.1, h.2.1.2, h.2.2.1, h.2.2.2.1, h.2.2.2.2.1⟩ ⟨n_CB (y := y_13_48) (bytes := b_13_48) 1 h.2.2.2.2.1 n_w1108 n_w1105 n_w12 ⟨by decide, by decide, by decide +kernel⟩ rfl rfl ⟨by rw [hrm.1]; exact Nat.le_of_ble_eq_true rfl, by rw [hrm.2]; exact Nat.le_of_ble_eq_true rfl⟩, h.2.2.2.2.1 _ n_w1106, h.2.2.2.2.1 _ n_w1107⟩ (Cn := RX12) (fun a S V hP => by obtain ⟨u0, u1, rfl, e, -⟩ := hP; exact ⟨u0, _, 12, _, _, TX12, 31, rfl, rfl, by rw [e]; decide, by rw [e]; rfl, rfl⟩)
theorem KL_897 {C : qCx} {G : jG} {mc ms : Nat} {p : Int → Int → jS → jH → Prop} {q : Int → Int → jS → jH → Int → jS → jH → Prop} (h : xL C G) (hrm : C.2.2.2.1.frames = 10 ∧ C.2.2.2.1.locals = 396) (hM : M1_21 C.2.1 mc ms p q) : j_Call C b_L n_KT G.1 G.2.1 4 (.invokevirtual 99) mc ms (fun a S V => ∃ u0 u1 : Int, a = [(2, u0), (0, u1)] ∧ S.1 u0 = 31 ∧ p u0 u1 S V) (fun a S V rs S' V' => ∃ u0 u1 r : Int, a = [(2, u0), (0, u1)] ∧ rs = [(0, r)] ∧ q u0 u1 S V r S' V') := j_callV n_NWk h.2.2.2.2.2 h.1 hM ⟨h.2.1.1, h.2.1.2, h.2.2.1, h.2.2.2.1, h.2.2.2.2.1⟩ ⟨n_CB (y := y_1_21) (bytes := b_1_21) 1 h.2.2.2.2.1 n_w704 n_w701 n_w1 ⟨by decide, by decide, by decide +kernel⟩ rfl rfl ⟨by rw [hrm.1]; exact Nat.le_of_ble_eq_true rfl, by rw [hrm.2]; exact Nat.le_of_ble_eq_true rfl⟩, h.2.2.2.2.1 _ n_w702, h.2.2.2.2.1 _ n_w703⟩ (Cn := RX10) (fun a S V hP => by obtain ⟨u0, u1, rfl, e, -⟩ := hP; exact ⟨u0, _, 10, _, _, TX10, 8, rfl, rfl, by rw [e]; decide, by rw [e]; rfl, rfl⟩)
theorem KL_907 {C : qCx} {G : jG} {mc ms : Nat} {p : Int → Int → jS → jH → Prop} {q : Int → Int → jS → jH → Int → jS → jH → Prop} (h : xL C G) (hrm : C.2.2.2.1.frames = 10 ∧ C.2.2.2.1.locals = 396) (hM : M13_49 C.2.1 mc ms p q) : j_Call C b_L n_KT G.1 G.2.1 4 (.invokevirtual 102) mc ms (fun a S V => ∃ u0 u1 : Int, a = [(2, u0), (0, u1)] ∧ S.1 u0 = 33 ∧ p u0 u1 S V) (fun a S V rs S' V' => ∃ u0 u1 r : Int, a = [(2, u0), (0, u1)] ∧ rs = [(0, r)] ∧ q u0 u1 S V r S' V') := j_callV n_NWk h.2.2.2.2.2 h.1 hM ⟨h.2.1.1, h.2.1.2, h.2.2.1, h.2.2.2.1, h.2.2.2.2.1⟩ ⟨n_CB (y := y_13_49) (bytes := b_13_49) 1 h.2.2.2.2.1 n_w1112 n_w1109 n_w12 ⟨by decide, by decide, by decide +kernel⟩ rfl rfl ⟨by rw [hrm.1]; exact Nat.le_of_ble_eq_true rfl, by rw [hrm.2]; exact Nat.le_of_ble_eq_true rfl⟩, h.2.2.2.2.1 _ n_w1110, h.2.2.2.2.1 _ n_w1111⟩ (Cn := RX12) (fun a S V hP => by obtain ⟨u0, u1, rfl, e, -⟩ := hP; exact ⟨u0, _, 12, _, _, TX12, 31, rfl, rfl, by rw [e]; decide, by rw [e]; rfl, rfl⟩)
theorem KL_920 {C : qCx} {G : jG} {mc ms : Nat} {p : Int → Int → jS → jH → Prop} {q : Int → Int → jS → jH → Int → jS → jH → Prop} (h : xL C G) (hrm : C.2.2.2.1.frames = 10 ∧ C.2.2.2.1.locals = 396) (hM : M1_22 C.2.1 mc ms p q) : j_Call C b_L n_KT G.1 G.2.1 4 (.invokevirtual 103) mc ms (fun a S V => ∃ u0 u1 : Int, a = [(2, u0), (0, u1)] ∧ S.1 u0 = 31 ∧ p u0 u1 S V) (fun a S V rs S' V' => ∃ u0 u1 r : Int, a = [(2, u0), (0, u1)] ∧ rs = [(0, r)] ∧ q u0 u1 S V r S' V') := j_callV n_NWk h.2.2.2.2.2 h.1 hM ⟨h.2.1.1, h.2.1.2, h.2.2.1, h.2.2.2.1, h.2.2.2.2.1⟩ ⟨n_CB (y := y_1_22) (bytes := b_1_22) 1 h.2.2.2.2.1 n_w708 n_w705 n_w1 ⟨by decide, by decide, by decide +kernel⟩ rfl rfl ⟨by rw [hrm.1]; exact Nat.le_of_ble_eq_true rfl, by rw [hrm.2]; exact Nat.le_of_ble_eq_true rfl⟩, h.2.2.2.2.1 _ n_w706, h.2.2.2.2.1 _ n_w707⟩ (Cn := RX10) (fun a S V hP => by obtain ⟨u0, u1, rfl, e, -⟩ := hP; exact ⟨u0, _, 10, _, _, TX10, 8, rfl, rfl, by rw [e]; decide, by rw [e]; rfl, rfl⟩)
theorem KL_930 {C : qCx} {G : jG} {mc ms : Nat} {p : Int → Int → jS → jH → Prop} {q : Int → Int → jS → jH → Int → jS → jH → Prop} (h : xL C G) (hrm : C.2.2.2.1.frames = 10 ∧ C.2.2.2.1.locals = 396) (hM : M13_50 C.2.1 mc ms p q) : j_Call C b_L n_KT G.1 G.2.1 4 (.invokevirtual 106) mc ms (fun a S V => ∃ u0 u1 : Int, a = [(2, u0), (0, u1)] ∧ S.1 u0 = 33 ∧ p u0 u1 S V) (fun a S V rs S' V' => ∃ u0 u1 r : Int, a = [(2, u0), (0, u1)] ∧ rs = [(0, r)] ∧ q u0 u1 S V r S' V') := j_callV n_NWk h.2.2.2.2.2 h.1 hM ⟨h.2.1.1, h.2.1.2, h.2.2.1, h.2.2.2.1, h.2.2.2.2.1⟩ ⟨n_CB (y := y_13_50) (bytes := b_13_50) 1 h.2.2.2.2.1 n_w1116 n_w1113 n_w12 ⟨by decide, by decide, by decide +kernel⟩ rfl rfl ⟨by rw [hrm.1]; exact Nat.le_of_ble_eq_true rfl, by rw [hrm.2]; exact Nat.le_of_ble_eq_true rfl⟩, h.2.2.2.2.1 _ n_w1114, h.2.2.2.2.1 _ n_w1115⟩ (Cn := RX12) (fun a S V hP => by obtain ⟨u0, u1, rfl, e, -⟩ := hP; exact ⟨u0, _, 12, _, _, TX12, 31, rfl, rfl, by rw [e]; decide, by rw [e]; rfl, rfl⟩)
theorem KL_938 {C : qCx} {G : jG} {mc ms : Nat} {p : Int → jS → jH → Prop} {q : Int → jS → jH → Int → jS → jH → Prop} (h : xL C G) (hrm : C.2.2.2.1.frames = 10 ∧ C.2.2.2.1.locals = 396) (hM : M1_23 C.2.1 mc ms p q) : j_Call C b_L n_KT G.1 G.2.1 4 (.invokevirtual 107) mc ms (fun a S V => ∃ u0 : Int, a = [(2, u0)] ∧ S.1 u0 = 31 ∧ p u0 S V) (fun a S V rs S' V' => ∃ u0 r : Int, a = [(2, u0)] ∧ rs = [(0, r)] ∧ q u0 S V r S' V') := j_callV n_NWk h.2.2.2.2.2 h.1 hM ⟨h.2.1.1, h.2.1.2, h.2.2.1, h.2.2.2.1, h.2.2.2.2.1⟩ ⟨n_CB (y := y_1_23) (bytes := b_1_23) 0 h.2.2.2.2.1 n_w712 n_w709 n_w1 ⟨by decide, by decide, by decide +kernel⟩ rfl rfl ⟨by rw [hrm.1]; exact Nat.le_of_ble_eq_true rfl, by rw [hrm.2]; exact Nat.le_of_ble_eq_true rfl⟩, h.2.2.2.2.1 _ n_w710, h.2.2.2.2.1 _ n_w711⟩ (Cn := RX10) (fun a S V hP => by obtain ⟨u0, rfl, e, -⟩ := hP; exact ⟨u0, _, 10, _, _, TX10, 8, rfl, rfl, by rw [e]; decide, by rw [e]; rfl, rfl⟩)
theorem KL_942 {C : qCx} {G : jG} {mc ms : Nat} {p : Int → jS → jH → Prop} {q : Int → jS → jH → Int → jS → jH → Prop} (h : xL C G) (hrm : C.2.2.2.1.frames = 10 ∧ C.2.2.2.1.locals = 396) (hM : M13_51 C.2.1 mc ms p q) : j_Call C b_L n_KT G.1 G.2.1 4 (.invokevirtual 111) mc ms (fun a S V => ∃ u0 : Int, a = [(2, u0)] ∧ S.1 u0 = 33 ∧ p u0 S V) (fun a S V rs S' V' => ∃ u0 r : Int, a = [(2, u0)] ∧ rs = [(0, r)] ∧ q u0 S V r S' V') := j_callV n_NWk h.2.2.2.2.2 h.1 hM ⟨h.2.1.1, h.2.1.2, h.2.2.1, h.2.2.2.1, h.2.2.2.2.1⟩ ⟨n_CB (y := y_13_51) (bytes := b_13_51) 0 h.2.2.2.2.1 n_w1120 n_w1117 n_w12 ⟨by decide, by decide, by decide +kernel⟩ rfl rfl ⟨by rw [hrm.1]; exact Nat.le_of_ble_eq_true rfl, by rw [hrm.2]; exact Nat.le_of_ble_eq_true rfl⟩, h.2.2.2.2.1 _ n_w1118, h.2.2.2.2.1 _ n_w1119⟩ (Cn := RX12) (fun a S V hP => by obtain ⟨u0, rfl, e, -⟩ := hP; exact ⟨u0, _, 12, _, _, TX12, 31, rfl, rfl, by rw [e]; decide, by rw [e]; rfl, rfl⟩)
theorem KL_951 {C : qCx} {G : jG} {mc ms : Nat} {p : Int → jS → jH → Prop} {q : Int → jS → jH → Int → jS → jH → Prop} (h : xL C G) (hrm : C.2.2.2.1.frames = 10 ∧ C.2.2.2.1.locals = 396) (hM : M1_24 C.2.1 mc ms p q) : j_Call C b_L n_KT G.1 G.2.1 4 (.invokevirtual 112) mc ms (fun a S V => ∃ u0 : Int, a = [(2, u0)] ∧ S.1 u0 = 31 ∧ p u0 S V) (fun a S V rs S' V' => ∃ u0 r : Int, a = [(2, u0)] ∧ rs = [(0, r)] ∧ q u0 S V r S' V') := j_callV n_NWk h.2.2.2.2.2 h.1 hM ⟨h.2.1.1, h.2.1.2, h.2.2.1, h.2.2.2.1, h.2.2.2.2.1⟩ ⟨n_CB (y := y_1_24) (bytes := b_1_24) 0 h.2.2.2.2.1 n_w716 n_w713 n_w1 ⟨by decide, by decide, by decide +kernel⟩ rfl rfl ⟨by rw [hrm.1]; exact Nat.le_of_ble_eq_true rfl, by rw [hrm.2]; exact Nat.le_of_ble_eq_true rfl⟩, h.2.2.2.2.1 _ n_w714, h.2.2.2.2.1 _ n_w715⟩ (Cn := RX10) (fun a S V hP => by obtain ⟨u0, rfl, e, -⟩ := hP; exact ⟨u0, _, 10, _, _, TX10, 8, rfl, rfl, by rw [e]; decide, by rw [e]; rfl, rfl⟩)
theorem KL_956 {C : qCx} {G : jG} {mc ms : Nat} {p : Int → jS → jH → Prop} {q : Int → jS → jH → Int → jS → jH → Prop} (h : xL C G) (hrm : C.2.2.2.1.frames = 10 ∧ C.2.2.2.1.locals = 396) (hM : M13_52 C.2.1 mc ms p q) : j_Call C b_L n_KT G.1 G.2.1 4 (.invokevirtual 115) mc ms (fun a S V => ∃ u0 : Int, a = [(2, u0)] ∧ S.1 u0 = 33 ∧ p u0 S V) (fun a S V rs S' V' => ∃ u0 r : Int, a = [(2, u0)] ∧ rs = [(0, r)] ∧ q u0 S V r S' V') := j_callV n_NWk h.2.2.2.2.2 h.1 hM ⟨h.2.1.1, h.2.1.2, h.2.2.1, h.2.2.2.1, h.2.2.2.2.1⟩ ⟨n_CB (y := y_13_52) (bytes := b_13_52) 0 h.2.2.2.2.1 n_w1124 n_w1121 n_w12 ⟨by decide, by decide, by decide +kernel⟩ rfl rfl ⟨by rw [hrm.1]; exact Nat.le_of_ble_eq_true rfl, by rw [hrm.2]; exact Nat.le_of_ble_eq_true rfl⟩, h.2.2.2.2.1 _ n_w1122, h.2.2.2.2.1 _ n_w1123⟩ (Cn := RX12) (fun a S V hP => by obtain ⟨u0, rfl, e, -⟩ := hP; exact ⟨u0, _, 12, _, _, TX12, 31, rfl, rfl, by rw [e]; decide, by rw [e]; rfl, rfl⟩)
theorem KL_964 {C : qCx} {G : jG} {mc ms : Nat} {p : Int → jS → jH → Prop} {q : Int → jS → jH → Int → jS → jH → Prop} (h : xL C G) (hrm : C.2.2.2.1.frames = 10 ∧ C.2.2.2.1.locals = 396) (hM : M1_25 C.2.1 mc ms p q) : j_Call C b_L n_KT G.1 G.2.1 4 (.invokevirtual 116) mc ms (fun a S V => ∃ u0 : Int, a = [(2, u0)] ∧ S.1 u0 = 31 ∧ p u0 S V) (fun a S V rs S' V' => ∃ u0 r : Int, a = [(2, u0)] ∧ rs = [(0, r)] ∧ q u0 S V r S' V') := j_callV n_NWk h.2.2.2.2.2 h.1 hM ⟨h.2.1.1, h.2.1.2, h.2.2.1, h.2.2.2.1, h.2.2.2.2.1⟩ ⟨n_CB (y := y_1_25) (bytes := b_1_25) 0 h.2.2.2.2.1 n_w743 n_w740 n_w1 ⟨by decide, by decide, by decide +kernel⟩ rfl rfl ⟨by rw [hrm.1]; exact Nat.le_of_ble_eq_true rfl, by rw [hrm.2]; exact Nat.le_of_ble_eq_true rfl⟩, h.2.2.2.2.1 _ n_w741, h.2.2.2.2.1 _ n_w742⟩ (Cn := RX10) (fun a S V hP => by obtain ⟨u0, rfl, e, -⟩ := hP; exact ⟨u0, _, 10, _, _, TX10, 8, rfl, rfl, by rw [e]; decide, by rw [e]; rfl, rfl⟩)
theorem KL_969 {C : qCx} {G : jG} {mc ms : Nat} {p : Int → jS → jH → Prop} {q : Int → jS → jH → Int → jS → jH → Prop} (h : xL C G) (hrm : C.2.2.2.1.frames = 10 ∧ C.2.2.2.1.locals = 396) (hM : M13_53 C.2.1 mc ms p q) : j_Call C b_L n_KT G.1 G.2.1 4 (.invokevirtual 119) mc ms (fun a S V => ∃ u0 : Int, a = [(2, u0)] ∧ S.1 u0 = 33 ∧ p u0 S V) (fun a S V rs S' V' => ∃ u0 r : Int, a = [(2, u0)] ∧ rs = [(0, r)] ∧ q u0 S V r S' V') := j_callV n_NWk h.2.2.2.2.2 h.1 hM ⟨h.2.1.1, h.2.1.2, h.2.2.1, h.2.2.2.1, h.2.2.2.2.1⟩ ⟨n_CB (y := y_13_53) (bytes := b_13_53) 0 h.2.2.2.2.1 n_w1135 n_w1132 n_w12 ⟨by decide, by decide, by decide +kernel⟩ rfl rfl ⟨by rw [hrm.1]; exact Nat.le_of_ble_eq_true rfl, by rw [hrm.2]; exact Nat.le_of_ble_eq_true rfl⟩, h.2.2.2.2.1 _ n_w1133, h.2.2.2.2.1 _ n_w1134⟩ (Cn := RX12) (fun a S V hP => by obtain ⟨u0, rfl, e, -⟩ := hP; exact ⟨u0, _, 12, _, _, TX12, 31, rfl, rfl, by rw [e]; decide, by rw [e]; rfl, rfl⟩)
theorem KL_982 {C : qCx} {G : jG} {mc ms : Nat} {p : Int → Int → jS → jH → Prop} {q : Int → Int → jS → jH → Int → jS → jH → Prop} (h : xL C G) (hrm : C.2.2.2.1.frames = 10 ∧ C.2.2.2.1.locals = 396) (hM : M1_26 C.2.1 mc ms p q) : j_Call C b_L n_KT G.1 G.2.1 4 (.invokevirtual 120) mc ms (fun a S V => ∃ u0 u1 : Int, a = [(2, u0), (0, u1)] ∧ S.1 u0 = 31 ∧ p u0 u1 S V) (fun a S V rs S' V' => ∃ u0 u1 r : Int, a = [(2, u0), (0, u1)] ∧ rs = [(0, r)] ∧ q u0 u1 S V r S' V') := j_callV n_NWk h.2.2.2.2.2 h.1 hM ⟨h.2.1.1, h.2.1.2, h.2.2.1, h.2.2.2.1, h.2.2.2.2.1⟩ ⟨n_CB (y := y_1_26) (bytes := b_1_26) 1 h.2.2.2.2.1 n_w747 n_w744 n_w1 ⟨by decide, by decide, by decide +kernel⟩ rfl rfl ⟨by rw [hrm.1]; exact Nat.le_of_ble_eq_true rfl, by rw [hrm.2]; exact Nat.le_of_ble_eq_true rfl⟩, h.2.2.2.2.1 _ n_w745, h.2.2.2.2.1 _ n_w746⟩ (Cn := RX10) (fun a S V hP => by obtain ⟨u0, u1, rfl, e, -⟩ := hP; exact ⟨u0, _, 10, _, _, TX10, 8, rfl, rfl, by rw [e]; decide, by rw [e]; rfl, rfl⟩)
theorem KL_992 {C : qCx} {G : jG} {mc ms : Nat} {p : Int → Int → jS → jH → Prop} {q : Int → Int → jS → jH → Int → jS → jH → Prop} (h : xL C G) (hrm : C.2.2.2.1.frames = 10 ∧ C.2.2.2.1.locals = 396) (hM : M13_54 C.2.1 mc ms p q) : j_Call C b_L n_KT G.1 G.2.1 4 (.invokevirtual 123) mc ms (fun a S V => ∃ u0 u1 : Int, a = [(2, u0), (0, u1)] ∧ S.1 u0 = 33 ∧ p u0 u1 S V) (fun a S V rs S' V' => ∃ u0 u1 r : Int, a = [(2, u0), (0, u1)] ∧ rs = [(0, r)] ∧ q u0 u1 S V r S' V') := j_callV n_NWk h.2.2.2.2.2 h.1 hM ⟨h.2.1.1, h.2.1.2, h.2.2.1, h.2.2.2.1, h.2.2.2.2.1⟩ ⟨n_CB (y := y_13_54) (bytes := b_13_54) 1 h.2.2.2.2.1 n_w1139 n_w1136 n_w12 ⟨by decide, by decide, by decide +kernel⟩ rfl rfl ⟨by rw [hrm.1]; exact Nat.le_of_ble_eq_true rfl, by rw [hrm.2]; exact Nat.le_of_ble_eq_true rfl⟩, h.2.2.2.2.1 _ n_w1137, h.2.2.2.2.1 _ n_w1138⟩ (Cn := RX12) (fun a S V hP => by obtain ⟨u0, u1, rfl, e, -⟩ := hP; exact ⟨u0, _, 12, _, _, TX12, 31, rfl, rfl, by rw [e]; decide, by rw [e]; rfl, rfl⟩)
theorem tL_0 {C : qCx} {G : jG} {S : jS} {V : jH} {nc ns : Nat} {a1 : Int} {b L : Nat} {xs : Nat → Int32} {mc ms : Nat} {pp : Int → jS → jH → Prop} {qq : Int → jS → jH → jS → jH → Prop} (h : xL C G) (hX : j_X C G b L xs) (hrm : C.2.2.2.1.frames = 10 ∧ C.2.2.2.1.locals = 396) (c1 : 0 ≤ a1) (c2 : S.1 a1 = 0) (c3 : nc + 1 ≤ C.2.2.2.1.cells) (c4 : ns + 8 ≤ C.2.2.2.1.slots) (hM : M1_1 C.2.1 mc ms pp qq) (hp : pp a1 (j_ns S a1 31) (j_nv V a1)) (hc : (nc + 1) + mc ≤ C.2.2.2.1.cells) (hs : (ns + 8) + ms ≤ C.2.2.2.1.slots) (k : ∀ (S' : jS) (V' : jH), qq a1 (j_ns S a1 31) (j_nv V a1) S' V' → j_ok n_KT 4 C G 7 [(0, (9, (b : Int)))] [(2, a1)] S' V' ((nc + 1) + mc) ((ns + 8) + ms)) : j_ok n_KT 4 C G 0 [(0, (9, (b : Int)))] [] S V nc ns := by
  have E := n_E h
  refine j_new (k := 31) E (fnL_7 h) dL_0 a1 c1 c2 (by decide) rfl (by decide) (by decide) (by decide) c3 c4 ?_
  refine j_dup E dL_3 rfl ?_
  refine j_call E (KL_4 h hrm hM) dL_4 (a := [(2, a1)]) (sk := [(2, a1)]) rfl ⟨a1, rfl, (j_nsa _ _ _), hp⟩ (Nat.le_of_ble_eq_true rfl) hc hs ?_
  rintro rs S' V' ⟨z0, e1, rfl, q⟩
  simp only [List.cons.injEq, Prod.mk.injEq, and_true, true_and] at e1
  obtain ⟨rfl⟩ := e1
  exact j_pick [0] rfl (k S' V' q)
theorem tL_7 {C : qCx} {G : jG} {S : jS} {V : jH} {nc ns : Nat} {s0 a1 : Int} {b L : Nat} {xs : Nat → Int32} {mc ms : Nat} {pp : Int → jS → jH → Prop} {qq : Int → jS → jH → jS → jH → Prop} (h : xL C G) (hX : j_X C G b L xs) (hrm : C.2.2.2.1.frames = 10 ∧ C.2.2.2.1.locals = 396) (c1 : 0 ≤ a1) (c2 : S.1 a1 = 0) (c3 : nc + 1 ≤ C.2.2.2.1.cells) (c4 : ns + 31 ≤ C.2.2.2.1.slots) (hM : M13_1 C.2.1 mc ms pp qq) (hp : pp a1 (j_ns S a1 33) (j_nv V a1)) (hc : (nc + 1) + mc ≤ C.2.2.2.1.cells) (hs : (ns + 31) + ms ≤ C.2.2.2.1.slots) (k : ∀ (S' : jS) (V' : jH), qq a1 (j_ns S a1 33) (j_nv V a1) S' V' → j_ok n_KT 4 C G 15 [(0, (9, (b : Int))), (1, (2, s0))] [(2, a1)] S' V' ((nc + 1) + mc) ((ns + 31) + ms)) : j_ok n_KT 4 C G 7 [(0, (9, (b : Int)))] [(2, s0)] S V nc ns := by
  have E := n_E h
  refine j_astore_n E dL_7 rfl (by decide) (lo1 := [(0, (9, (b : Int)))]) rfl ?_
  refine j_new (k := 33) E (fnL_10 h) dL_8 a1 c1 c2 (by decide) rfl (by decide) (by decide) (by decide) c3 c4 ?_
  refine j_dup E dL_11 rfl ?_
  refine j_call E (KL_12 h hrm hM) dL_12 (a := [(2, a1)]) (sk := [(2, a1)]) rfl ⟨a1, rfl, (j_nsa _ _ _), hp⟩ (Nat.le_of_ble_eq_true rfl) hc hs ?_
  rintro rs S' V' ⟨z0, e1, rfl, q⟩
  simp only [List.cons.injEq, Prod.mk.injEq, and_true, true_and] at e1
  obtain ⟨rfl⟩ := e1
  exact j_pick [1, 0] rfl (k S' V' q)
theorem tL_15 {C : qCx} {G : jG} {S : jS} {V : jH} {nc ns : Nat} {l1 s0 : Int} {b L : Nat} {xs : Nat → Int32} (h : xL C G) (hX : j_X C G b L xs)  (k : j_ok n_KT 4 C G 18 [(0, (9, (b : Int))), (1, (2, l1)), (2, (2, s0)), (3, (0, 0))] [] S V nc ns) : j_ok n_KT 4 C G 15 [(0, (9, (b : Int))), (1, (2, l1))] [(2, s0)] S V nc ns := by
  have E := n_E h
  refine j_astore_n E dL_15 rfl (by decide) (lo1 := [(0, (9, (b : Int))), (1, (2, l1))]) rfl ?_
  refine j_iconst E dL_16 (by decide) ?_
  refine j_istore_n E dL_17 rfl (by decide) (lo1 := [(2, (2, s0)), (0, (9, (b : Int))), (1, (2, l1))]) rfl ?_
  exact j_pick [2, 3, 1, 0] rfl k
theorem tL_18 {C : qCx} {G : jG} {S : jS} {V : jH} {nc ns : Nat} {l1 l2 l3 : Int} {b L : Nat} {xs : Nat → Int32} (h : xL C G) (hX : j_X C G b L xs) (c1 : -2147483648 ≤ ((L : Int)) - 5 ∧ ((L : Int)) - 5 ≤ 2147483647) (k : ((L : Int)) - 5 < l3 → j_ok n_KT 4 C G 1005 [] [] S V nc ns) (k' : l3 ≤ ((L : Int)) - 5 → j_ok n_KT 4 C G 26 [(0, (9, (b : Int))), (1, (2, l1)), (2, (2, l2)), (3, (0, l3))] [] S V nc ns) : j_ok n_KT 4 C G 18 [(0, (9, (b : Int))), (1, (2, l1)), (2, (2, l2)), (3, (0, l3))] [] S V nc ns := by
  have E := n_E h
  refine j_iload_n E dL_18 rfl 3 rfl ?_
  refine j_aload_nR E dL_19 rfl 0 rfl ?_
  refine j_rlen E hX dL_20 ?_
  refine j_iconst E dL_21 (by decide) ?_
  refine j_isub E dL_22 c1 ?_
  exact j_icmp_gt E dL_23 (t := 1005) rfl (fun q => j_pick [] rfl (k q)) (fun q => j_pick [0, 1, 2, 3] rfl (k' q))
theorem tL_26 {C : qCx} {G : jG} {S : jS} {V : jH} {nc ns : Nat} {l1 l2 l3 : Int} {b L : Nat} {xs : Nat → Int32} (h : xL C G) (hX : j_X C G b L xs) (c1 : 0 ≤ l3) (c2 : l3 < (L : Int)) (k : (j_scr xs l3) % 32 < 0 ∨ 24 < (j_scr xs l3) % 32 → j_ok n_KT 4 C G 999 [(0, (9, (b : Int))), (1, (2, l1)), (2, (2, l2)), (3, (0, l3))] [] S V nc ns) (k0 : (j_scr xs l3) % 32 = 0 → j_ok n_KT 4 C G 148 [(0, (9, (b : Int))), (1, (2, l1)), (2, (2, l2)), (3, (0, l3))] [] S V nc ns) (k1 : (j_scr xs l3) % 32 = 1 → j_ok n_KT 4 C G 221 [(0, (9, (b : Int))), (1, (2, l1)), (2, (2, l2)), (3, (0, l3))] [] S V nc ns) (k2 : (j_scr xs l3) % 32 = 2 → j_ok n_KT 4 C G 244 [(0, (9, (b : Int))), (1, (2, l1)), (2, (2, l2)), (3, (0, l3))] [] S V nc ns) (k3 : (j_scr xs l3) % 32 = 3 → j_ok n_KT 4 C G 277 [(0, (9, (b : Int))), (1, (2, l1)), (2, (2, l2)), (3, (0, l3))] [] S V nc ns) (k4 : (j_scr xs l3) % 32 = 4 → j_ok n_KT 4 C G 330 [(0, (9, (b : Int))), (1, (2, l1)), (2, (2, l2)), (3, (0, l3))] [] S V nc ns) (k5 : (j_scr xs l3) % 32 = 5 → j_ok n_KT 4 C G 363 [(0, (9, (b : Int))), (1, (2, l1)), (2, (2, l2)), (3, (0, l3))] [] S V nc ns) (k6 : (j_scr xs l3) % 32 = 6 → j_ok n_KT 4 C G 406 [(0, (9, (b : Int))), (1, (2, l1)), (2, (2, l2)), (3, (0, l3))] [] S V nc ns) (k7 : (j_scr xs l3) % 32 = 7 → j_ok n_KT 4 C G 439 [(0, (9, (b : Int))), (1, (2, l1)), (2, (2, l2)), (3, (0, l3))] [] S V nc ns) (k8 : (j_scr xs l3) % 32 = 8 → j_ok n_KT 4 C G 508 [(0, (9, (b : Int))), (1, (2, l1)), (2, (2, l2)), (3, (0, l3))] [] S V nc ns) (k9 : (j_scr xs l3) % 32 = 9 → j_ok n_KT 4 C G 551 [(0, (9, (b : Int))), (1, (2, l1)), (2, (2, l2)), (3, (0, l3))] [] S V nc ns) (k10 : (j_scr xs l3) % 32 = 10 → j_ok n_KT 4 C G 584 [(0, (9, (b : Int))), (1, (2, l1)), (2, (2, l2)), (3, (0, l3))] [] S V nc ns) (k11 : (j_scr xs l3) % 32 = 11 → j_ok n_KT 4 C G 627 [(0, (9, (b : Int))), (1, (2, l1)), (2, (2, l2)), (3, (0, l3))] [] S V nc ns) (k12 : (j_scr xs l3) % 32 = 12 → j_ok n_KT 4 C G 670 [(0, (9, (b : Int))), (1, (2, l1)), (2, (2, l2)), (3, (0, l3))] [] S V nc ns) (k13 : (j_scr xs l3) % 32 = 13 → j_ok n_KT 4 C G 693 [(0, (9, (b : Int))), (1, (2, l1)), (2, (2, l2)), (3, (0, l3))] [] S V nc ns) (k14 : (j_scr xs l3) % 32 = 14 → j_ok n_KT 4 C G 716 [(0, (9, (b : Int))), (1, (2, l1)), (2, (2, l2)), (3, (0, l3))] [] S V nc ns) (k15 : (j_scr xs l3) % 32 = 15 → j_ok n_KT 4 C G 749 [(0, (9, (b : Int))), (1, (2, l1)), (2, (2, l2)), (3, (0, l3))] [] S V nc ns) (k16 : (j_scr xs l3) % 32 = 16 → j_ok n_KT 4 C G 812 [(0, (9, (b : Int))), (1, (2, l1)), (2, (2, l2)), (3, (0, l3))] [] S V nc ns) (k17 : (j_scr xs l3) % 32 = 17 → j_ok n_KT 4 C G 835 [(0, (9, (b : Int))), (1, (2, l1)), (2, (2, l2)), (3, (0, l3))] [] S V nc ns) (k18 : (j_scr xs l3) % 32 = 18 → j_ok n_KT 4 C G 868 [(0, (9, (b : Int))), (1, (2, l1)), (2, (2, l2)), (3, (0, l3))] [] S V nc ns) (k19 : (j_scr xs l3) % 32 = 19 → j_ok n_KT 4 C G 891 [(0, (9, (b : Int))), (1, (2, l1)), (2, (2, l2)), (3, (0, l3))] [] S V nc ns) (k20 : (j_scr xs l3) % 32 = 20 → j_ok n_KT 4 C G 914 [(0, (9, (b : Int))), (1, (2, l1)), (2, (2, l2)), (3, (0, l3))] [] S V nc ns) (k21 : (j_scr xs l3) % 32 = 21 → j_ok n_KT 4 C G 937 [(0, (9, (b : Int))), (1, (2, l1)), (2, (2, l2)), (3, (0, l3))] [] S V nc ns) (k22 : (j_scr xs l3) % 32 = 22 → j_ok n_KT 4 C G 950 [(0, (9, (b : Int))), (1, (2, l1)), (2, (2, l2)), (3, (0, l3))] [] S V nc ns) (k23 : (j_scr xs l3) % 32 = 23 → j_ok n_KT 4 C G 963 [(0, (9, (b : Int))), (1, (2, l1)), (2, (2, l2)), (3, (0, l3))] [] S V nc ns) (k24 : (j_scr xs l3) % 32 = 24 → j_ok n_KT 4 C G 976 [(0, (9, (b : Int))), (1, (2, l1)), (2, (2, l2)), (3, (0, l3))] [] S V nc ns) : j_ok n_KT 4 C G 26 [(0, (9, (b : Int))), (1, (2, l1)), (2, (2, l2)), (3, (0, l3))] [] S V nc ns := by
  have E := n_E h
  refine j_aload_nR E dL_26 rfl 0 rfl ?_
  refine j_iload_n E dL_27 rfl 3 rfl ?_
  refine j_rld E hX dL_28 c1 c2 ?_
  refine j_bipush E dL_29 (by decide) ?_
  refine j_iand31 E dL_31 rfl ?_
  by_cases q : (j_scr xs l3) % 32 < 0 ∨ 24 < (j_scr xs l3) % 32
  · exact j_tableOut E dL_32 q (t := 999) rfl (j_pick [0, 1, 2, 3] rfl (k q))
  by_cases q0 : (j_scr xs l3) % 32 = 0
  · exact j_tableIn E dL_32 (off := 116) (by omega) (by omega) (by rw [q0]; rfl) (t := 148) rfl (j_pick [0, 1, 2, 3] rfl (k0 q0))
  by_cases q1 : (j_scr xs l3) % 32 = 1
  · exact j_tableIn E dL_32 (off := 189) (by omega) (by omega) (by rw [q1]; rfl) (t := 221) rfl (j_pick [0, 1, 2, 3] rfl (k1 q1))
  by_cases q2 : (j_scr xs l3) % 32 = 2
  · exact j_tableIn E dL_32 (off := 212) (by omega) (by omega) (by rw [q2]; rfl) (t := 244) rfl (j_pick [0, 1, 2, 3] rfl (k2 q2))
  by_cases q3 : (j_scr xs l3) % 32 = 3
  · exact j_tableIn E dL_32 (off := 245) (by omega) (by omega) (by rw [q3]; rfl) (t := 277) rfl (j_pick [0, 1, 2, 3] rfl (k3 q3))
  by_cases q4 : (j_scr xs l3) % 32 = 4
  · exact j_tableIn E dL_32 (off := 298) (by omega) (by omega) (by rw [q4]; rfl) (t := 330) rfl (j_pick [0, 1, 2, 3] rfl (k4 q4))
  by_cases q5 : (j_scr xs l3) % 32 = 5
  · exact j_tableIn E dL_32 (off := 331) (by omega) (by omega) (by rw [q5]; rfl) (t := 363) rfl (j_pick [0, 1, 2, 3] rfl (k5 q5))
  by_cases q6 : (j_scr xs l3) % 32 = 6
  · exact j_tableIn E dL_32 (off := 374) (by omega) (by omega) (by rw [q6]; rfl) (t := 406) rfl (j_pick [0, 1, 2, 3] rfl (k6 q6))
  by_cases q7 : (j_scr xs l3) % 32 = 7
  · exact j_tableIn E dL_32 (off := 407) (by omega) (by omega) (by rw [q7]; rfl) (t := 439) rfl (j_pick [0, 1, 2, 3] rfl (k7 q7))
  by_cases q8 : (j_scr xs l3) % 32 = 8
  · exact j_tableIn E dL_32 (off := 476) (by omega) (by omega) (by rw [q8]; rfl) (t := 508) rfl (j_pick [0, 1, 2, 3] rfl (k8 q8))
  by_cases q9 : (j_scr xs l3) % 32 = 9
  · exact j_tableIn E dL_32 (off := 519) (by omega) (by omega) (by rw [q9]; rfl) (t := 551) rfl (j_pick [0, 1, 2, 3] rfl (k9 q9))
  by_cases q10 : (j_scr xs l3) % 32 = 10
  · exact j_tableIn E dL_32 (off := 552) (by omega) (by omega) (by rw [q10]; rfl) (t := 584) rfl (j_pick [0, 1, 2, 3] rfl (k10 q10))
  by_cases q11 : (j_scr xs l3) % 32 = 11
  · exact j_tableIn E dL_32 (off := 595) (by omega) (by omega) (by rw [q11]; rfl) (t := 627) rfl (j_pick [0, 1, 2, 3] rfl (k11 q11))
  by_cases q12 : (j_scr xs l3) % 32 = 12
  · exact j_tableIn E dL_32 (off := 638) (by omega) (by omega) (by rw [q12]; rfl) (t := 670) rfl (j_pick [0, 1, 2, 3] rfl (k12 q12))
  by_cases q13 : (j_scr xs l3) % 32 = 13
  · exact j_tableIn E dL_32 (off := 661) (by omega) (by omega) (by rw [q13]; rfl) (t := 693) rfl (j_pick [0, 1, 2, 3] rfl (k13 q13))
  by_cases q14 : (j_scr xs l3) % 32 = 14
  · exact j_tableIn E dL_32 (off := 684) (by omega) (by omega) (by rw [q14]; rfl) (t := 716) rfl (j_pick [0, 1, 2, 3] rfl (k14 q14))
  by_cases q15 : (j_scr xs l3) % 32 = 15
  · exact j_tableIn E dL_32 (off := 717) (by omega) (by omega) (by rw [q15]; rfl) (t := 749) rfl (j_pick [0, 1, 2, 3] rfl (k15 q15))
  by_cases q16 : (j_scr xs l3) % 32 = 16
  · exact j_tableIn E dL_32 (off := 780) (by omega) (by omega) (by rw [q16]; rfl) (t := 812) rfl (j_pick [0, 1, 2, 3] rfl (k16 q16))
  by_cases q17 : (j_scr xs l3) % 32 = 17
  · exact j_tableIn E dL_32 (off := 803) (by omega) (by omega) (by rw [q17]; rfl) (t := 835) rfl (j_pick [0, 1, 2, 3] rfl (k17 q17))
  by_cases q18 : (j_scr xs l3) % 32 = 18
  · exact j_tableIn E dL_32 (off := 836) (by omega) (by omega) (by rw [q18]; rfl) (t := 868) rfl (j_pick [0, 1, 2, 3] rfl (k18 q18))
  by_cases q19 : (j_scr xs l3) % 32 = 19
  · exact j_tableIn E dL_32 (off := 859) (by omega) (by omega) (by rw [q19]; rfl) (t := 891) rfl (j_pick [0, 1, 2, 3] rfl (k19 q19))
  by_cases q20 : (j_scr xs l3) % 32 = 20
  · exact j_tableIn E dL_32 (off := 882) (by omega) (by omega) (by rw [q20]; rfl) (t := 914) rfl (j_pick [0, 1, 2, 3] rfl (k20 q20))
  by_cases q21 : (j_scr xs l3) % 32 = 21
  · exact j_tableIn E dL_32 (off := 905) (by omega) (by omega) (by rw [q21]; rfl) (t := 937) rfl (j_pick [0, 1, 2, 3] rfl (k21 q21))
  by_cases q22 : (j_scr xs l3) % 32 = 22
  · exact j_tableIn E dL_32 (off := 918) (by omega) (by omega) (by rw [q22]; rfl) (t := 950) rfl (j_pick [0, 1, 2, 3] rfl (k22 q22))
  by_cases q23 : (j_scr xs l3) % 32 = 23
  · exact j_tableIn E dL_32 (off := 931) (by omega) (by omega) (by rw [q23]; rfl) (t := 963) rfl (j_pick [0, 1, 2, 3] rfl (k23 q23))
  have q24 : (j_scr xs l3) % 32 = 24 := by omega
  exact j_tableIn E dL_32 (off := 944) (by omega) (by omega) (by rw [q24]; rfl) (t := 976) rfl (j_pick [0, 1, 2, 3] rfl (k24 q24))
theorem tL_148 {C : qCx} {G : jG} {S : jS} {V : jH} {nc ns : Nat} {l1 l2 l3 : Int} {b L : Nat} {xs : Nat → Int32} {mc ms : Nat} {pp : Int → Int → Int → Int → jS → jH → Prop} {qq : Int → Int → Int → Int → jS → jH → Int → jS → jH → Prop} (h : xL C G) (hX : j_X C G b L xs) (hrm : C.2.2.2.1.frames = 10 ∧ C.2.2.2.1.locals = 396) (c1 : -2147483648 ≤ l3 + 1 ∧ l3 + 1 ≤ 2147483647) (c2 : 0 ≤ l3 + 1) (c3 : l3 + 1 < (L : Int)) (c4 : -2147483648 ≤ l3 + 2 ∧ l3 + 2 ≤ 2147483647) (c5 : 0 ≤ l3 + 2) (c6 : l3 + 2 < (L : Int)) (c7 : -2147483648 ≤ j_scr xs (l3 + 2)) (c8 : j_scr xs (l3 + 2) ≤ 2147483647) (c9 : -2147483648 ≤ l3 + 3 ∧ l3 + 3 ≤ 2147483647) (c10 : 0 ≤ l3 + 3) (c11 : l3 + 3 < (L : Int)) (c12 : (4294967296 * (j_scr xs (l3 + 2))) % 4294967296 = 0) (c13 : 0 ≤ (j_scr xs (l3 + 3)) % 4294967296) (c14 : (j_scr xs (l3 + 3)) % 4294967296 < 4294967296) (c15 : -2147483648 ≤ l3 + 4 ∧ l3 + 4 ≤ 2147483647) (c16 : 0 ≤ l3 + 4) (c17 : l3 + 4 < (L : Int)) (c18 : S.1 l1 = 31) (hM : M1_2 C.2.1 mc ms pp qq) (hp : pp l1 (j_scr xs (l3 + 1)) ((4294967296 * (j_scr xs (l3 + 2))) + ((j_scr xs (l3 + 3)) % 4294967296)) (j_scr xs (l3 + 4)) S V) (hc : nc + mc ≤ C.2.2.2.1.cells) (hs : ns + ms ≤ C.2.2.2.1.slots) (k : ∀ (r : Int) (S' : jS) (V' : jH), qq l1 (j_scr xs (l3 + 1)) ((4294967296 * (j_scr xs (l3 + 2))) + ((j_scr xs (l3 + 3)) % 4294967296)) (j_scr xs (l3 + 4)) S V r S' V' → j_ok n_KT 4 C G 182 [(0, (9, (b : Int))), (1, (2, l1)), (2, (2, l2)), (3, (0, l3))] [(0, r)] S' V' (nc + mc) (ns + ms)) : j_ok n_KT 4 C G 148 [(0, (9, (b : Int))), (1, (2, l1)), (2, (2, l2)), (3, (0, l3))] [] S V nc ns := by
  have E := n_E h
  refine j_aload_n E dL_148 rfl 1 rfl ?_
  refine j_aload_nR E dL_149 rfl 0 rfl ?_
  refine j_iload_n E dL_150 rfl 3 rfl ?_
  refine j_iconst E dL_151 (by decide) ?_
  refine j_iadd E dL_152 c1 ?_
  refine j_rld E hX dL_153 c2 c3 ?_
  refine j_aload_nR E dL_154 rfl 0 rfl ?_
  refine j_iload_n E dL_155 rfl 3 rfl ?_
  refine j_iconst E dL_156 (by decide) ?_
  refine j_iadd E dL_157 c4 ?_
  refine j_rld E hX dL_158 c5 c6 ?_
  refine j_i2l E dL_159 ?_
  refine j_bipush E dL_160 (by decide) ?_
  refine j_lshl E dL_162 rfl c7 c8 ?_
  refine j_aload_nR E dL_163 rfl 0 rfl ?_
  refine j_iload_n E dL_164 rfl 3 rfl ?_
  refine j_iconst E dL_165 (by decide) ?_
  refine j_iadd E dL_166 c9 ?_
  refine j_rld E hX dL_167 c10 c11 ?_
  refine j_i2l E dL_168 ?_
  refine j_ldc2 (n := 4294967295) (flL_13 h) rfl dL_169 ?_
  refine j_land32 E dL_172 rfl ?_
  refine j_lor E dL_173 c12 c13 c14 ?_
  refine j_aload_nR E dL_174 rfl 0 rfl ?_
  refine j_iload_n E dL_175 rfl 3 rfl ?_
  refine j_iconst E dL_176 (by decide) ?_
  refine j_iadd E dL_177 c15 ?_
  refine j_rld E hX dL_178 c16 c17 ?_
  refine j_call E (KL_179 h hrm hM) dL_179 (a := [(2, l1), (0, j_scr xs (l3 + 1)), (1, (4294967296 * (j_scr xs (l3 + 2))) + ((j_scr xs (l3 + 3)) % 4294967296)), (0, j_scr xs (l3 + 4))]) (sk := []) rfl ⟨l1, j_scr xs (l3 + 1), (4294967296 * (j_scr xs (l3 + 2))) + ((j_scr xs (l3 + 3)) % 4294967296), j_scr xs (l3 + 4), rfl, c18, hp⟩ (Nat.le_of_ble_eq_true rfl) hc hs ?_
  rintro rs S' V' ⟨z0, z1, z2, z3, r, e1, rfl, q⟩
  simp only [List.cons.injEq, Prod.mk.injEq, and_true, true_and] at e1
  obtain ⟨rfl, rfl, rfl, rfl⟩ := e1
  exact j_pick [0, 1, 2, 3] rfl (k r S' V' q)
theorem tL_182 {C : qCx} {G : jG} {S : jS} {V : jH} {nc ns : Nat} {l1 l2 l3 s0 : Int} {b L : Nat} {xs : Nat → Int32} {mc ms : Nat} {pp : Int → Int → Int → Int → jS → jH → Prop} {qq : Int → Int → Int → Int → jS → jH → Int → jS → jH → Prop} (h : xL C G) (hX : j_X C G b L xs) (hrm : C.2.2.2.1.frames = 10 ∧ C.2.2.2.1.locals = 396) (c1 : -2147483648 ≤ l3 + 1 ∧ l3 + 1 ≤ 2147483647) (c2 : 0 ≤ l3 + 1) (c3 : l3 + 1 < (L : Int)) (c4 : -2147483648 ≤ l3 + 2 ∧ l3 + 2 ≤ 2147483647) (c5 : 0 ≤ l3 + 2) (c6 : l3 + 2 < (L : Int)) (c7 : -2147483648 ≤ j_scr xs (l3 + 2)) (c8 : j_scr xs (l3 + 2) ≤ 2147483647) (c9 : -2147483648 ≤ l3 + 3 ∧ l3 + 3 ≤ 2147483647) (c10 : 0 ≤ l3 + 3) (c11 : l3 + 3 < (L : Int)) (c12 : (4294967296 * (j_scr xs (l3 + 2))) % 4294967296 = 0) (c13 : 0 ≤ (j_scr xs (l3 + 3)) % 4294967296) (c14 : (j_scr xs (l3 + 3)) % 4294967296 < 4294967296) (c15 : -2147483648 ≤ l3 + 4 ∧ l3 + 4 ≤ 2147483647) (c16 : 0 ≤ l3 + 4) (c17 : l3 + 4 < (L : Int)) (c18 : S.1 l2 = 33) (hM : M13_6 C.2.1 mc ms pp qq) (hp : pp l2 (j_scr xs (l3 + 1)) ((4294967296 * (j_scr xs (l3 + 2))) + ((j_scr xs (l3 + 3)) % 4294967296)) (j_scr xs (l3 + 4)) S V) (hc : nc + mc ≤ C.2.2.2.1.cells) (hs : ns + ms ≤ C.2.2.2.1.slots) (k : ∀ (r : Int) (S' : jS) (V' : jH), qq l2 (j_scr xs (l3 + 1)) ((4294967296 * (j_scr xs (l3 + 2))) + ((j_scr xs (l3 + 3)) % 4294967296)) (j_scr xs (l3 + 4)) S V r S' V' → j_ok n_KT 4 C G 217 [(0, (9, (b : Int))), (1, (2, l1)), (2, (2, l2)), (3, (0, l3))] [(0, r)] S' V' (nc + mc) (ns + ms)) : j_ok n_KT 4 C G 182 [(0, (9, (b : Int))), (1, (2, l1)), (2, (2, l2)), (3, (0, l3))] [(0, s0)] S V nc ns := by
  have E := n_E h
  refine j_pop E dL_182 rfl ?_
  refine j_aload_n E dL_183 rfl 2 rfl ?_
  refine j_aload_nR E dL_184 rfl 0 rfl ?_
  refine j_iload_n E dL_185 rfl 3 rfl ?_
  refine j_iconst E dL_186 (by decide) ?_
  refine j_iadd E dL_187 c1 ?_
  refine j_rld E hX dL_188 c2 c3 ?_
  refine j_aload_nR E dL_189 rfl 0 rfl ?_
  refine j_iload_n E dL_190 rfl 3 rfl ?_
  refine j_iconst E dL_191 (by decide) ?_
  refine j_iadd E dL_192 c4 ?_
  refine j_rld E hX dL_193 c5 c6 ?_
  refine j_i2l E dL_194 ?_
  refine j_bipush E dL_195 (by decide) ?_
  refine j_lshl E dL_197 rfl c7 c8 ?_
  refine j_aload_nR E dL_198 rfl 0 rfl ?_
  refine j_iload_n E dL_199 rfl 3 rfl ?_
  refine j_iconst E dL_200 (by decide) ?_
  refine j_iadd E dL_201 c9 ?_
  refine j_rld E hX dL_202 c10 c11 ?_
  refine j_i2l E dL_203 ?_
  refine j_ldc2 (n := 4294967295) (flL_13 h) rfl dL_204 ?_
  refine j_land32 E dL_207 rfl ?_
  refine j_lor E dL_208 c12 c13 c14 ?_
  refine j_aload_nR E dL_209 rfl 0 rfl ?_
  refine j_iload_n E dL_210 rfl 3 rfl ?_
  refine j_iconst E dL_211 (by decide) ?_
  refine j_iadd E dL_212 c15 ?_
  refine j_rld E hX dL_213 c16 c17 ?_
  refine j_call E (KL_214 h hrm hM) dL_214 (a := [(2, l2), (0, j_scr xs (l3 + 1)), (1, (4294967296 * (j_scr xs (l3 + 2))) + ((j_scr xs (l3 + 3)) % 4294967296)), (0, j_scr xs (l3 + 4))]) (sk := []) rfl ⟨l2, j_scr xs (l3 + 1), (4294967296 * (j_scr xs (l3 + 2))) + ((j_scr xs (l3 + 3)) % 4294967296), j_scr xs (l3 + 4), rfl, c18, hp⟩ (Nat.le_of_ble_eq_true rfl) hc hs ?_
  rintro rs S' V' ⟨z0, z1, z2, z3, r, e1, rfl, q⟩
  simp only [List.cons.injEq, Prod.mk.injEq, and_true, true_and] at e1
  obtain ⟨rfl, rfl, rfl, rfl⟩ := e1
  exact j_pick [0, 1, 2, 3] rfl (k r S' V' q)
theorem tL_217 {C : qCx} {G : jG} {S : jS} {V : jH} {nc ns : Nat} {l1 l2 l3 s0 : Int} {b L : Nat} {xs : Nat → Int32} (h : xL C G) (hX : j_X C G b L xs)  (k : j_ok n_KT 4 C G 999 [(0, (9, (b : Int))), (1, (2, l1)), (2, (2, l2)), (3, (0, l3))] [] S V nc ns) : j_ok n_KT 4 C G 217 [(0, (9, (b : Int))), (1, (2, l1)), (2, (2, l2)), (3, (0, l3))] [(0, s0)] S V nc ns := by
  have E := n_E h
  refine j_pop E dL_217 rfl ?_
  refine j_goto E dL_218 (t := 999) rfl ?_
  exact j_pick [0, 1, 2, 3] rfl k
theorem tL_221 {C : qCx} {G : jG} {S : jS} {V : jH} {nc ns : Nat} {l1 l2 l3 : Int} {b L : Nat} {xs : Nat → Int32} {mc ms : Nat} {pp : Int → Int → jS → jH → Prop} {qq : Int → Int → jS → jH → Int → jS → jH → Prop} (h : xL C G) (hX : j_X C G b L xs) (hrm : C.2.2.2.1.frames = 10 ∧ C.2.2.2.1.locals = 396) (c1 : -2147483648 ≤ l3 + 1 ∧ l3 + 1 ≤ 2147483647) (c2 : 0 ≤ l3 + 1) (c3 : l3 + 1 < (L : Int)) (c4 : S.1 l1 = 31) (hM : M1_3 C.2.1 mc ms pp qq) (hp : pp l1 (j_scr xs (l3 + 1)) S V) (hc : nc + mc ≤ C.2.2.2.1.cells) (hs : ns + ms ≤ C.2.2.2.1.slots) (k : ∀ (r : Int) (S' : jS) (V' : jH), qq l1 (j_scr xs (l3 + 1)) S V r S' V' → j_ok n_KT 4 C G 230 [(0, (9, (b : Int))), (1, (2, l1)), (2, (2, l2)), (3, (0, l3))] [(0, r)] S' V' (nc + mc) (ns + ms)) : j_ok n_KT 4 C G 221 [(0, (9, (b : Int))), (1, (2, l1)), (2, (2, l2)), (3, (0, l3))] [] S V nc ns := by
  have E := n_E h
  refine j_aload_n E dL_221 rfl 1 rfl ?_
  refine j_aload_nR E dL_222 rfl 0 rfl ?_
  refine j_iload_n E dL_223 rfl 3 rfl ?_
  refine j_iconst E dL_224 (by decide) ?_
  refine j_iadd E dL_225 c1 ?_
  refine j_rld E hX dL_226 c2 c3 ?_
  refine j_call E (KL_227 h hrm hM) dL_227 (a := [(2, l1), (0, j_scr xs (l3 + 1))]) (sk := []) rfl ⟨l1, j_scr xs (l3 + 1), rfl, c4, hp⟩ (Nat.le_of_ble_eq_true rfl) hc hs ?_
  rintro rs S' V' ⟨z0, z1, r, e1, rfl, q⟩
  simp only [List.cons.injEq, Prod.mk.injEq, and_true, true_and] at e1
  obtain ⟨rfl, rfl⟩ := e1
  exact j_pick [0, 1, 2, 3] rfl (k r S' V' q)
theorem tL_230 {C : qCx} {G : jG} {S : jS} {V : jH} {nc ns : Nat} {l1 l2 l3 s0 : Int} {b L : Nat} {xs : Nat → Int32} {mc ms : Nat} {pp : Int → Int → jS → jH → Prop} {qq : Int → Int → jS → jH → Int → jS → jH → Prop} (h : xL C G) (hX : j_X C G b L xs) (hrm : C.2.2.2.1.frames = 10 ∧ C.2.2.2.1.locals = 396) (c1 : -2147483648 ≤ l3 + 1 ∧ l3 + 1 ≤ 2147483647) (c2 : 0 ≤ l3 + 1) (c3 : l3 + 1 < (L : Int)) (c4 : S.1 l2 = 33) (hM : M13_7 C.2.1 mc ms pp qq) (hp : pp l2 (j_scr xs (l3 + 1)) S V) (hc : nc + mc ≤ C.2.2.2.1.cells) (hs : ns + ms ≤ C.2.2.2.1.slots) (k : ∀ (r : Int) (S' : jS) (V' : jH), qq l2 (j_scr xs (l3 + 1)) S V r S' V' → j_ok n_KT 4 C G 240 [(0, (9, (b : Int))), (1, (2, l1)), (2, (2, l2)), (3, (0, l3))] [(0, r)] S' V' (nc + mc) (ns + ms)) : j_ok n_KT 4 C G 230 [(0, (9, (b : Int))), (1, (2, l1)), (2, (2, l2)), (3, (0, l3))] [(0, s0)] S V nc ns := by
  have E := n_E h
  refine j_pop E dL_230 rfl ?_
  refine j_aload_n E dL_231 rfl 2 rfl ?_
  refine j_aload_nR E dL_232 rfl 0 rfl ?_
  refine j_iload_n E dL_233 rfl 3 rfl ?_
  refine j_iconst E dL_234 (by decide) ?_
  refine j_iadd E dL_235 c1 ?_
  refine j_rld E hX dL_236 c2 c3 ?_
  refine j_call E (KL_237 h hrm hM) dL_237 (a := [(2, l2), (0, j_scr xs (l3 + 1))]) (sk := []) rfl ⟨l2, j_scr xs (l3 + 1), rfl, c4, hp⟩ (Nat.le_of_ble_eq_true rfl) hc hs ?_
  rintro rs S' V' ⟨z0, z1, r, e1, rfl, q⟩
  simp only [List.cons.injEq, Prod.mk.injEq, and_true, true_and] at e1
  obtain ⟨rfl, rfl⟩ := e1
  exact j_pick [0, 1, 2, 3] rfl (k r S' V' q)
theorem tL_240 {C : qCx} {G : jG} {S : jS} {V : jH} {nc ns : Nat} {l1 l2 l3 s0 : Int} {b L : Nat} {xs : Nat → Int32} (h : xL C G) (hX : j_X C G b L xs)  (k : j_ok n_KT 4 C G 999 [(0, (9, (b : Int))), (1, (2, l1)), (2, (2, l2)), (3, (0, l3))] [] S V nc ns) : j_ok n_KT 4 C G 240 [(0, (9, (b : Int))), (1, (2, l1)), (2, (2, l2)), (3, (0, l3))] [(0, s0)] S V nc ns := by
  have E := n_E h
  refine j_pop E dL_240 rfl ?_
  refine j_goto E dL_241 (t := 999) rfl ?_
  exact j_pick [0, 1, 2, 3] rfl k
theorem tL_244 {C : qCx} {G : jG} {S : jS} {V : jH} {nc ns : Nat} {l1 l2 l3 : Int} {b L : Nat} {xs : Nat → Int32} {mc ms : Nat} {pp : Int → Int → Int → jS → jH → Prop} {qq : Int → Int → Int → jS → jH → Int → jS → jH → Prop} (h : xL C G) (hX : j_X C G b L xs) (hrm : C.2.2.2.1.frames = 10 ∧ C.2.2.2.1.locals = 396) (c1 : -2147483648 ≤ l3 + 1 ∧ l3 + 1 ≤ 2147483647) (c2 : 0 ≤ l3 + 1) (c3 : l3 + 1 < (L : Int)) (c4 : -2147483648 ≤ l3 + 2 ∧ l3 + 2 ≤ 2147483647) (c5 : 0 ≤ l3 + 2) (c6 : l3 + 2 < (L : Int)) (c7 : S.1 l1 = 31) (hM : M1_4 C.2.1 mc ms pp qq) (hp : pp l1 (j_scr xs (l3 + 1)) (j_scr xs (l3 + 2)) S V) (hc : nc + mc ≤ C.2.2.2.1.cells) (hs : ns + ms ≤ C.2.2.2.1.slots) (k : ∀ (r : Int) (S' : jS) (V' : jH), qq l1 (j_scr xs (l3 + 1)) (j_scr xs (l3 + 2)) S V r S' V' → j_ok n_KT 4 C G 258 [(0, (9, (b : Int))), (1, (2, l1)), (2, (2, l2)), (3, (0, l3))] [(0, r)] S' V' (nc + mc) (ns + ms)) : j_ok n_KT 4 C G 244 [(0, (9, (b : Int))), (1, (2, l1)), (2, (2, l2)), (3, (0, l3))] [] S V nc ns := by
  have E := n_E h
  refine j_aload_n E dL_244 rfl 1 rfl ?_
  refine j_aload_nR E dL_245 rfl 0 rfl ?_
  refine j_iload_n E dL_246 rfl 3 rfl ?_
  refine j_iconst E dL_247 (by decide) ?_
  refine j_iadd E dL_248 c1 ?_
  refine j_rld E hX dL_249 c2 c3 ?_
  refine j_aload_nR E dL_250 rfl 0 rfl ?_
  refine j_iload_n E dL_251 rfl 3 rfl ?_
  refine j_iconst E dL_252 (by decide) ?_
  refine j_iadd E dL_253 c4 ?_
  refine j_rld E hX dL_254 c5 c6 ?_
  refine j_call E (KL_255 h hrm hM) dL_255 (a := [(2, l1), (0, j_scr xs (l3 + 1)), (0, j_scr xs (l3 + 2))]) (sk := []) rfl ⟨l1, j_scr xs (l3 + 1), j_scr xs (l3 + 2), rfl, c7, hp⟩ (Nat.le_of_ble_eq_true rfl) hc hs ?_
  rintro rs S' V' ⟨z0, z1, z2, r, e1, rfl, q⟩
  simp only [List.cons.injEq, Prod.mk.injEq, and_true, true_and] at e1
  obtain ⟨rfl, rfl, rfl⟩ := e1
  exact j_pick [0, 1, 2, 3] rfl (k r S' V' q)
theorem tL_258 {C : qCx} {G : jG} {S : jS} {V : jH} {nc ns : Nat} {l1 l2 l3 s0 : Int} {b L : Nat} {xs : Nat → Int32} {mc ms : Nat} {pp : Int → Int → Int → jS → jH → Prop} {qq : Int → Int → Int → jS → jH → Int → jS → jH → Prop} (h : xL C G) (hX : j_X C G b L xs) (hrm : C.2.2.2.1.frames = 10 ∧ C.2.2.2.1.locals = 396) (c1 : -2147483648 ≤ l3 + 1 ∧ l3 + 1 ≤ 2147483647) (c2 : 0 ≤ l3 + 1) (c3 : l3 + 1 < (L : Int)) (c4 : -2147483648 ≤ l3 + 2 ∧ l3 + 2 ≤ 2147483647) (c5 : 0 ≤ l3 + 2) (c6 : l3 + 2 < (L : Int)) (c7 : S.1 l2 = 33) (hM : M13_8 C.2.1 mc ms pp qq) (hp : pp l2 (j_scr xs (l3 + 1)) (j_scr xs (l3 + 2)) S V) (hc : nc + mc ≤ C.2.2.2.1.cells) (hs : ns + ms ≤ C.2.2.2.1.slots) (k : ∀ (r : Int) (S' : jS) (V' : jH), qq l2 (j_scr xs (l3 + 1)) (j_scr xs (l3 + 2)) S V r S' V' → j_ok n_KT 4 C G 273 [(0, (9, (b : Int))), (1, (2, l1)), (2, (2, l2)), (3, (0, l3))] [(0, r)] S' V' (nc + mc) (ns + ms)) : j_ok n_KT 4 C G 258 [(0, (9, (b : Int))), (1, (2, l1)), (2, (2, l2)), (3, (0, l3))] [(0, s0)] S V nc ns := by
  have E := n_E h
  refine j_pop E dL_258 rfl ?_
  refine j_aload_n E dL_259 rfl 2 rfl ?_
  refine j_aload_nR E dL_260 rfl 0 rfl ?_
  refine j_iload_n E dL_261 rfl 3 rfl ?_
  refine j_iconst E dL_262 (by decide) ?_
  refine j_iadd E dL_263 c1 ?_
  refine j_rld E hX dL_264 c2 c3 ?_
  refine j_aload_nR E dL_265 rfl 0 rfl ?_
  refine j_iload_n E dL_266 rfl 3 rfl ?_
  refine j_iconst E dL_267 (by decide) ?_
  refine j_iadd E dL_268 c4 ?_
  refine j_rld E hX dL_269 c5 c6 ?_
  refine j_call E (KL_270 h hrm hM) dL_270 (a := [(2, l2), (0, j_scr xs (l3 + 1)), (0, j_scr xs (l3 + 2))]) (sk := []) rfl ⟨l2, j_scr xs (l3 + 1), j_scr xs (l3 + 2), rfl, c7, hp⟩ (Nat.le_of_ble_eq_true rfl) hc hs ?_
  rintro rs S' V' ⟨z0, z1, z2, r, e1, rfl, q⟩
  simp only [List.cons.injEq, Prod.mk.injEq, and_true, true_and] at e1
  obtain ⟨rfl, rfl, rfl⟩ := e1
  exact j_pick [0, 1, 2, 3] rfl (k r S' V' q)
theorem tL_273 {C : qCx} {G : jG} {S : jS} {V : jH} {nc ns : Nat} {l1 l2 l3 s0 : Int} {b L : Nat} {xs : Nat → Int32} (h : xL C G) (hX : j_X C G b L xs)  (k : j_ok n_KT 4 C G 999 [(0, (9, (b : Int))), (1, (2, l1)), (2, (2, l2)), (3, (0, l3))] [] S V nc ns) : j_ok n_KT 4 C G 273 [(0, (9, (b : Int))), (1, (2, l1)), (2, (2, l2)), (3, (0, l3))] [(0, s0)] S V nc ns := by
  have E := n_E h
  refine j_pop E dL_273 rfl ?_
  refine j_goto E dL_274 (t := 999) rfl ?_
  exact j_pick [0, 1, 2, 3] rfl k
theorem tL_277 {C : qCx} {G : jG} {S : jS} {V : jH} {nc ns : Nat} {l1 l2 l3 : Int} {b L : Nat} {xs : Nat → Int32} {mc ms : Nat} {pp : Int → Int → Int → Int → Int → jS → jH → Prop} {qq : Int → Int → Int → Int → Int → jS → jH → Int → jS → jH → Prop} (h : xL C G) (hX : j_X C G b L xs) (hrm : C.2.2.2.1.frames = 10 ∧ C.2.2.2.1.locals = 396) (c1 : -2147483648 ≤ l3 + 1 ∧ l3 + 1 ≤ 2147483647) (c2 : 0 ≤ l3 + 1) (c3 : l3 + 1 < (L : Int)) (c4 : -2147483648 ≤ l3 + 2 ∧ l3 + 2 ≤ 2147483647) (c5 : 0 ≤ l3 + 2) (c6 : l3 + 2 < (L : Int)) (c7 : -2147483648 ≤ l3 + 3 ∧ l3 + 3 ≤ 2147483647) (c8 : 0 ≤ l3 + 3) (c9 : l3 + 3 < (L : Int)) (c10 : -2147483648 ≤ l3 + 4 ∧ l3 + 4 ≤ 2147483647) (c11 : 0 ≤ l3 + 4) (c12 : l3 + 4 < (L : Int)) (c13 : S.1 l1 = 31) (hM : M1_5 C.2.1 mc ms pp qq) (hp : pp l1 (j_scr xs (l3 + 1)) (j_scr xs (l3 + 2)) (j_scr xs (l3 + 3)) (j_scr xs (l3 + 4)) S V) (hc : nc + mc ≤ C.2.2.2.1.cells) (hs : ns + ms ≤ C.2.2.2.1.slots) (k : ∀ (r : Int) (S' : jS) (V' : jH), qq l1 (j_scr xs (l3 + 1)) (j_scr xs (l3 + 2)) (j_scr xs (l3 + 3)) (j_scr xs (l3 + 4)) S V r S' V' → j_ok n_KT 4 C G 301 [(0, (9, (b : Int))), (1, (2, l1)), (2, (2, l2)), (3, (0, l3))] [(0, r)] S' V' (nc + mc) (ns + ms)) : j_ok n_KT 4 C G 277 [(0, (9, (b : Int))), (1, (2, l1)), (2, (2, l2)), (3, (0, l3))] [] S V nc ns := by
  have E := n_E h
  refine j_aload_n E dL_277 rfl 1 rfl ?_
  refine j_aload_nR E dL_278 rfl 0 rfl ?_
  refine j_iload_n E dL_279 rfl 3 rfl ?_
  refine j_iconst E dL_280 (by decide) ?_
  refine j_iadd E dL_281 c1 ?_
  refine j_rld E hX dL_282 c2 c3 ?_
  refine j_aload_nR E dL_283 rfl 0 rfl ?_
  refine j_iload_n E dL_284 rfl 3 rfl ?_
  refine j_iconst E dL_285 (by decide) ?_
  refine j_iadd E dL_286 c4 ?_
  refine j_rld E hX dL_287 c5 c6 ?_
  refine j_aload_nR E dL_288 rfl 0 rfl ?_
  refine j_iload_n E dL_289 rfl 3 rfl ?_
  refine j_iconst E dL_290 (by decide) ?_
  refine j_iadd E dL_291 c7 ?_
  refine j_rld E hX dL_292 c8 c9 ?_
  refine j_aload_nR E dL_293 rfl 0 rfl ?_
  refine j_iload_n E dL_294 rfl 3 rfl ?_
  refine j_iconst E dL_295 (by decide) ?_
  refine j_iadd E dL_296 c10 ?_
  refine j_rld E hX dL_297 c11 c12 ?_
  refine j_call E (KL_298 h hrm hM) dL_298 (a := [(2, l1), (0, j_scr xs (l3 + 1)), (0, j_scr xs (l3 + 2)), (0, j_scr xs (l3 + 3)), (0, j_scr xs (l3 + 4))]) (sk := []) rfl ⟨l1, j_scr xs (l3 + 1), j_scr xs (l3 + 2), j_scr xs (l3 + 3), j_scr xs (l3 + 4), rfl, c13, hp⟩ (Nat.le_of_ble_eq_true rfl) hc hs ?_
  rintro rs S' V' ⟨z0, z1, z2, z3, z4, r, e1, rfl, q⟩
  simp only [List.cons.injEq, Prod.mk.injEq, and_true, true_and] at e1
  obtain ⟨rfl, rfl, rfl, rfl, rfl⟩ := e1
  exact j_pick [0, 1, 2, 3] rfl (k r S' V' q)
theorem tL_301 {C : qCx} {G : jG} {S : jS} {V : jH} {nc ns : Nat} {l1 l2 l3 s0 : Int} {b L : Nat} {xs : Nat → Int32} {mc ms : Nat} {pp : Int → Int → Int → Int → Int → jS → jH → Prop} {qq : Int → Int → Int → Int → Int → jS → jH → Int → jS → jH → Prop} (h : xL C G) (hX : j_X C G b L xs) (hrm : C.2.2.2.1.frames = 10 ∧ C.2.2.2.1.locals = 396) (c1 : -2147483648 ≤ l3 + 1 ∧ l3 + 1 ≤ 2147483647) (c2 : 0 ≤ l3 + 1) (c3 : l3 + 1 < (L : Int)) (c4 : -2147483648 ≤ l3 + 2 ∧ l3 + 2 ≤ 2147483647) (c5 : 0 ≤ l3 + 2) (c6 : l3 + 2 < (L : Int)) (c7 : -2147483648 ≤ l3 + 3 ∧ l3 + 3 ≤ 2147483647) (c8 : 0 ≤ l3 + 3) (c9 : l3 + 3 < (L : Int)) (c10 : -2147483648 ≤ l3 + 4 ∧ l3 + 4 ≤ 2147483647) (c11 : 0 ≤ l3 + 4) (c12 : l3 + 4 < (L : Int)) (c13 : S.1 l2 = 33) (hM : M13_9 C.2.1 mc ms pp qq) (hp : pp l2 (j_scr xs (l3 + 1)) (j_scr xs (l3 + 2)) (j_scr xs (l3 + 3)) (j_scr xs (l3 + 4)) S V) (hc : nc + mc ≤ C.2.2.2.1.cells) (hs : ns + ms ≤ C.2.2.2.1.slots) (k : ∀ (r : Int) (S' : jS) (V' : jH), qq l2 (j_scr xs (l3 + 1)) (j_scr xs (l3 + 2)) (j_scr xs (l3 + 3)) (j_scr xs (l3 + 4)) S V r S' V' → j_ok n_KT 4 C G 326 [(0, (9, (b : Int))), (1, (2, l1)), (2, (2, l2)), (3, (0, l3))] [(0, r)] S' V' (nc + mc) (ns + ms)) : j_ok n_KT 4 C G 301 [(0, (9, (b : Int))), (1, (2, l1)), (2, (2, l2)), (3, (0, l3))] [(0, s0)] S V nc ns := by
  have E := n_E h
  refine j_pop E dL_301 rfl ?_
  refine j_aload_n E dL_302 rfl 2 rfl ?_
  refine j_aload_nR E dL_303 rfl 0 rfl ?_
  refine j_iload_n E dL_304 rfl 3 rfl ?_
  refine j_iconst E dL_305 (by decide) ?_
  refine j_iadd E dL_306 c1 ?_
  refine j_rld E hX dL_307 c2 c3 ?_
  refine j_aload_nR E dL_308 rfl 0 rfl ?_
  refine j_iload_n E dL_309 rfl 3 rfl ?_
  refine j_iconst E dL_310 (by decide) ?_
  refine j_iadd E dL_311 c4 ?_
  refine j_rld E hX dL_312 c5 c6 ?_
  refine j_aload_nR E dL_313 rfl 0 rfl ?_
  refine j_iload_n E dL_314 rfl 3 rfl ?_
  refine j_iconst E dL_315 (by decide) ?_
  refine j_iadd E dL_316 c7 ?_
  refine j_rld E hX dL_317 c8 c9 ?_
  refine j_aload_nR E dL_318 rfl 0 rfl ?_
  refine j_iload_n E dL_319 rfl 3 rfl ?_
  refine j_iconst E dL_320 (by decide) ?_
  refine j_iadd E dL_321 c10 ?_
  refine j_rld E hX dL_322 c11 c12 ?_
  refine j_call E (KL_323 h hrm hM) dL_323 (a := [(2, l2), (0, j_scr xs (l3 + 1)), (0, j_scr xs (l3 + 2)), (0, j_scr xs (l3 + 3)), (0, j_scr xs (l3 + 4))]) (sk := []) rfl ⟨l2, j_scr xs (l3 + 1), j_scr xs (l3 + 2), j_scr xs (l3 + 3), j_scr xs (l3 + 4), rfl, c13, hp⟩ (Nat.le_of_ble_eq_true rfl) hc hs ?_
  rintro rs S' V' ⟨z0, z1, z2, z3, z4, r, e1, rfl, q⟩
  simp only [List.cons.injEq, Prod.mk.injEq, and_true, true_and] at e1
  obtain ⟨rfl, rfl, rfl, rfl, rfl⟩ := e1
  exact j_pick [0, 1, 2, 3] rfl (k r S' V' q)
theorem tL_326 {C : qCx} {G : jG} {S : jS} {V : jH} {nc ns : Nat} {l1 l2 l3 s0 : Int} {b L : Nat} {xs : Nat → Int32} (h : xL C G) (hX : j_X C G b L xs)  (k : j_ok n_KT 4 C G 999 [(0, (9, (b : Int))), (1, (2, l1)), (2, (2, l2)), (3, (0, l3))] [] S V nc ns) : j_ok n_KT 4 C G 326 [(0, (9, (b : Int))), (1, (2, l1)), (2, (2, l2)), (3, (0, l3))] [(0, s0)] S V nc ns := by
  have E := n_E h
  refine j_pop E dL_326 rfl ?_
  refine j_goto E dL_327 (t := 999) rfl ?_
  exact j_pick [0, 1, 2, 3] rfl k
theorem tL_330 {C : qCx} {G : jG} {S : jS} {V : jH} {nc ns : Nat} {l1 l2 l3 : Int} {b L : Nat} {xs : Nat → Int32} {mc ms : Nat} {pp : Int → Int → Int → jS → jH → Prop} {qq : Int → Int → Int → jS → jH → Int → jS → jH → Prop} (h : xL C G) (hX : j_X C G b L xs) (hrm : C.2.2.2.1.frames = 10 ∧ C.2.2.2.1.locals = 396) (c1 : -2147483648 ≤ l3 + 1 ∧ l3 + 1 ≤ 2147483647) (c2 : 0 ≤ l3 + 1) (c3 : l3 + 1 < (L : Int)) (c4 : -2147483648 ≤ l3 + 2 ∧ l3 + 2 ≤ 2147483647) (c5 : 0 ≤ l3 + 2) (c6 : l3 + 2 < (L : Int)) (c7 : S.1 l1 = 31) (hM : M1_6 C.2.1 mc ms pp qq) (hp : pp l1 (j_scr xs (l3 + 1)) (j_scr xs (l3 + 2)) S V) (hc : nc + mc ≤ C.2.2.2.1.cells) (hs : ns + ms ≤ C.2.2.2.1.slots) (k : ∀ (r : Int) (S' : jS) (V' : jH), qq l1 (j_scr xs (l3 + 1)) (j_scr xs (l3 + 2)) S V r S' V' → j_ok n_KT 4 C G 344 [(0, (9, (b : Int))), (1, (2, l1)), (2, (2, l2)), (3, (0, l3))] [(0, r)] S' V' (nc + mc) (ns + ms)) : j_ok n_KT 4 C G 330 [(0, (9, (b : Int))), (1, (2, l1)), (2, (2, l2)), (3, (0, l3))] [] S V nc ns := by
  have E := n_E h
  refine j_aload_n E dL_330 rfl 1 rfl ?_
  refine j_aload_nR E dL_331 rfl 0 rfl ?_
  refine j_iload_n E dL_332 rfl 3 rfl ?_
  refine j_iconst E dL_333 (by decide) ?_
  refine j_iadd E dL_334 c1 ?_
  refine j_rld E hX dL_335 c2 c3 ?_
  refine j_aload_nR E dL_336 rfl 0 rfl ?_
  refine j_iload_n E dL_337 rfl 3 rfl ?_
  refine j_iconst E dL_338 (by decide) ?_
  refine j_iadd E dL_339 c4 ?_
  refine j_rld E hX dL_340 c5 c6 ?_
  refine j_call E (KL_341 h hrm hM) dL_341 (a := [(2, l1), (0, j_scr xs (l3 + 1)), (0, j_scr xs (l3 + 2))]) (sk := []) rfl ⟨l1, j_scr xs (l3 + 1), j_scr xs (l3 + 2), rfl, c7, hp⟩ (Nat.le_of_ble_eq_true rfl) hc hs ?_
  rintro rs S' V' ⟨z0, z1, z2, r, e1, rfl, q⟩
  simp only [List.cons.injEq, Prod.mk.injEq, and_true, true_and] at e1
  obtain ⟨rfl, rfl, rfl⟩ := e1
  exact j_pick [0, 1, 2, 3] rfl (k r S' V' q)
theorem tL_344 {C : qCx} {G : jG} {S : jS} {V : jH} {nc ns : Nat} {l1 l2 l3 s0 : Int} {b L : Nat} {xs : Nat → Int32} {mc ms : Nat} {pp : Int → Int → Int → jS → jH → Prop} {qq : Int → Int → Int → jS → jH → Int → jS → jH → Prop} (h : xL C G) (hX : j_X C G b L xs) (hrm : C.2.2.2.1.frames = 10 ∧ C.2.2.2.1.locals = 396) (c1 : -2147483648 ≤ l3 + 1 ∧ l3 + 1 ≤ 2147483647) (c2 : 0 ≤ l3 + 1) (c3 : l3 + 1 < (L : Int)) (c4 : -2147483648 ≤ l3 + 2 ∧ l3 + 2 ≤ 2147483647) (c5 : 0 ≤ l3 + 2) (c6 : l3 + 2 < (L : Int)) (c7 : S.1 l2 = 33) (hM : M13_10 C.2.1 mc ms pp qq) (hp : pp l2 (j_scr xs (l3 + 1)) (j_scr xs (l3 + 2)) S V) (hc : nc + mc ≤ C.2.2.2.1.cells) (hs : ns + ms ≤ C.2.2.2.1.slots) (k : ∀ (r : Int) (S' : jS) (V' : jH), qq l2 (j_scr xs (l3 + 1)) (j_scr xs (l3 + 2)) S V r S' V' → j_ok n_KT 4 C G 359 [(0, (9, (b : Int))), (1, (2, l1)), (2, (2, l2)), (3, (0, l3))] [(0, r)] S' V' (nc + mc) (ns + ms)) : j_ok n_KT 4 C G 344 [(0, (9, (b : Int))), (1, (2, l1)), (2, (2, l2)), (3, (0, l3))] [(0, s0)] S V nc ns := by
  have E := n_E h
  refine j_pop E dL_344 rfl ?_
  refine j_aload_n E dL_345 rfl 2 rfl ?_
  refine j_aload_nR E dL_346 rfl 0 rfl ?_
  refine j_iload_n E dL_347 rfl 3 rfl ?_
  refine j_iconst E dL_348 (by decide) ?_
  refine j_iadd E dL_349 c1 ?_
  refine j_rld E hX dL_350 c2 c3 ?_
  refine j_aload_nR E dL_351 rfl 0 rfl ?_
  refine j_iload_n E dL_352 rfl 3 rfl ?_
  refine j_iconst E dL_353 (by decide) ?_
  refine j_iadd E dL_354 c4 ?_
  refine j_rld E hX dL_355 c5 c6 ?_
  refine j_call E (KL_356 h hrm hM) dL_356 (a := [(2, l2), (0, j_scr xs (l3 + 1)), (0, j_scr xs (l3 + 2))]) (sk := []) rfl ⟨l2, j_scr xs (l3 + 1), j_scr xs (l3 + 2), rfl, c7, hp⟩ (Nat.le_of_ble_eq_true rfl) hc hs ?_
  rintro rs S' V' ⟨z0, z1, z2, r, e1, rfl, q⟩
  simp only [List.cons.injEq, Prod.mk.injEq, and_true, true_and] at e1
  obtain ⟨rfl, rfl, rfl⟩ := e1
  exact j_pick [0, 1, 2, 3] rfl (k r S' V' q)
theorem tL_359 {C : qCx} {G : jG} {S : jS} {V : jH} {nc ns : Nat} {l1 l2 l3 s0 : Int} {b L : Nat} {xs : Nat → Int32} (h : xL C G) (hX : j_X C G b L xs)  (k : j_ok n_KT 4 C G 999 [(0, (9, (b : Int))), (1, (2, l1)), (2, (2, l2)), (3, (0, l3))] [] S V nc ns) : j_ok n_KT 4 C G 359 [(0, (9, (b : Int))), (1, (2, l1)), (2, (2, l2)), (3, (0, l3))] [(0, s0)] S V nc ns := by
  have E := n_E h
  refine j_pop E dL_359 rfl ?_
  refine j_goto E dL_360 (t := 999) rfl ?_
  exact j_pick [0, 1, 2, 3] rfl k
theorem tL_363 {C : qCx} {G : jG} {S : jS} {V : jH} {nc ns : Nat} {l1 l2 l3 : Int} {b L : Nat} {xs : Nat → Int32} {mc ms : Nat} {pp : Int → Int → Int → Int → jS → jH → Prop} {qq : Int → Int → Int → Int → jS → jH → Int → jS → jH → Prop} (h : xL C G) (hX : j_X C G b L xs) (hrm : C.2.2.2.1.frames = 10 ∧ C.2.2.2.1.locals = 396) (c1 : -2147483648 ≤ l3 + 1 ∧ l3 + 1 ≤ 2147483647) (c2 : 0 ≤ l3 + 1) (c3 : l3 + 1 < (L : Int)) (c4 : -2147483648 ≤ l3 + 2 ∧ l3 + 2 ≤ 2147483647) (c5 : 0 ≤ l3 + 2) (c6 : l3 + 2 < (L : Int)) (c7 : -2147483648 ≤ l3 + 3 ∧ l3 + 3 ≤ 2147483647) (c8 : 0 ≤ l3 + 3) (c9 : l3 + 3 < (L : Int)) (c10 : S.1 l1 = 31) (hM : M1_7 C.2.1 mc ms pp qq) (hp : pp l1 (j_scr xs (l3 + 1)) (j_scr xs (l3 + 2)) (j_scr xs (l3 + 3)) S V) (hc : nc + mc ≤ C.2.2.2.1.cells) (hs : ns + ms ≤ C.2.2.2.1.slots) (k : ∀ (r : Int) (S' : jS) (V' : jH), qq l1 (j_scr xs (l3 + 1)) (j_scr xs (l3 + 2)) (j_scr xs (l3 + 3)) S V r S' V' → j_ok n_KT 4 C G 382 [(0, (9, (b : Int))), (1, (2, l1)), (2, (2, l2)), (3, (0, l3))] [(0, r)] S' V' (nc + mc) (ns + ms)) : j_ok n_KT 4 C G 363 [(0, (9, (b : Int))), (1, (2, l1)), (2, (2, l2)), (3, (0, l3))] [] S V nc ns := by
  have E := n_E h
  refine j_aload_n E dL_363 rfl 1 rfl ?_
  refine j_aload_nR E dL_364 rfl 0 rfl ?_
  refine j_iload_n E dL_365 rfl 3 rfl ?_
  refine j_iconst E dL_366 (by decide) ?_
  refine j_iadd E dL_367 c1 ?_
  refine j_rld E hX dL_368 c2 c3 ?_
  refine j_aload_nR E dL_369 rfl 0 rfl ?_
  refine j_iload_n E dL_370 rfl 3 rfl ?_
  refine j_iconst E dL_371 (by decide) ?_
  refine j_iadd E dL_372 c4 ?_
  refine j_rld E hX dL_373 c5 c6 ?_
  refine j_aload_nR E dL_374 rfl 0 rfl ?_
  refine j_iload_n E dL_375 rfl 3 rfl ?_
  refine j_iconst E dL_376 (by decide) ?_
  refine j_iadd E dL_377 c7 ?_
  refine j_rld E hX dL_378 c8 c9 ?_
  refine j_call E (KL_379 h hrm hM) dL_379 (a := [(2, l1), (0, j_scr xs (l3 + 1)), (0, j_scr xs (l3 + 2)), (0, j_scr xs (l3 + 3))]) (sk := []) rfl ⟨l1, j_scr xs (l3 + 1), j_scr xs (l3 + 2), j_scr xs (l3 + 3), rfl, c10, hp⟩ (Nat.le_of_ble_eq_true rfl) hc hs ?_
  rintro rs S' V' ⟨z0, z1, z2, z3, r, e1, rfl, q⟩
  simp only [List.cons.injEq, Prod.mk.injEq, and_true, true_and] at e1
  obtain ⟨rfl, rfl, rfl, rfl⟩ := e1
  exact j_pick [0, 1, 2, 3] rfl (k r S' V' q)
theorem tL_382 {C : qCx} {G : jG} {S : jS} {V : jH} {nc ns : Nat} {l1 l2 l3 s0 : Int} {b L : Nat} {xs : Nat → Int32} {mc ms : Nat} {pp : Int → Int → Int → Int → jS → jH → Prop} {qq : Int → Int → Int → Int → jS → jH → Int → jS → jH → Prop} (h : xL C G) (hX : j_X C G b L xs) (hrm : C.2.2.2.1.frames = 10 ∧ C.2.2.2.1.locals = 396) (c1 : -2147483648 ≤ l3 + 1 ∧ l3 + 1 ≤ 2147483647) (c2 : 0 ≤ l3 + 1) (c3 : l3 + 1 < (L : Int)) (c4 : -2147483648 ≤ l3 + 2 ∧ l3 + 2 ≤ 2147483647) (c5 : 0 ≤ l3 + 2) (c6 : l3 + 2 < (L : Int)) (c7 : -2147483648 ≤ l3 + 3 ∧ l3 + 3 ≤ 2147483647) (c8 : 0 ≤ l3 + 3) (c9 : l3 + 3 < (L : Int)) (c10 : S.1 l2 = 33) (hM : M13_13 C.2.1 mc ms pp qq) (hp : pp l2 (j_scr xs (l3 + 1)) (j_scr xs (l3 + 2)) (j_scr xs (l3 + 3)) S V) (hc : nc + mc ≤ C.2.2.2.1.cells) (hs : ns + ms ≤ C.2.2.2.1.slots) (k : ∀ (r : Int) (S' : jS) (V' : jH), qq l2 (j_scr xs (l3 + 1)) (j_scr xs (l3 + 2)) (j_scr xs (l3 + 3)) S V r S' V' → j_ok n_KT 4 C G 402 [(0, (9, (b : Int))), (1, (2, l1)), (2, (2, l2)), (3, (0, l3))] [(0, r)] S' V' (nc + mc) (ns + ms)) : j_ok n_KT 4 C G 382 [(0, (9, (b : Int))), (1, (2, l1)), (2, (2, l2)), (3, (0, l3))] [(0, s0)] S V nc ns := by
  have E := n_E h
  refine j_pop E dL_382 rfl ?_
  refine j_aload_n E dL_383 rfl 2 rfl ?_
  refine j_aload_nR E dL_384 rfl 0 rfl ?_
  refine j_iload_n E dL_385 rfl 3 rfl ?_
  refine j_iconst E dL_386 (by decide) ?_
  refine j_iadd E dL_387 c1 ?_
  refine j_rld E hX dL_388 c2 c3 ?_
  refine j_aload_nR E dL_389 rfl 0 rfl ?_
  refine j_iload_n E dL_390 rfl 3 rfl ?_
  refine j_iconst E dL_391 (by decide) ?_
  refine j_iadd E dL_392 c4 ?_
  refine j_rld E hX dL_393 c5 c6 ?_
  refine j_aload_nR E dL_394 rfl 0 rfl ?_
  refine j_iload_n E dL_395 rfl 3 rfl ?_
  refine j_iconst E dL_396 (by decide) ?_
  refine j_iadd E dL_397 c7 ?_
  refine j_rld E hX dL_398 c8 c9 ?_
  refine j_call E (KL_399 h hrm hM) dL_399 (a := [(2, l2), (0, j_scr xs (l3 + 1)), (0, j_scr xs (l3 + 2)), (0, j_scr xs (l3 + 3))]) (sk := []) rfl ⟨l2, j_scr xs (l3 + 1), j_scr xs (l3 + 2), j_scr xs (l3 + 3), rfl, c10, hp⟩ (Nat.le_of_ble_eq_true rfl) hc hs ?_
  rintro rs S' V' ⟨z0, z1, z2, z3, r, e1, rfl, q⟩
  simp only [List.cons.injEq, Prod.mk.injEq, and_true, true_and] at e1
  obtain ⟨rfl, rfl, rfl, rfl⟩ := e1
  exact j_pick [0, 1, 2, 3] rfl (k r S' V' q)
theorem tL_402 {C : qCx} {G : jG} {S : jS} {V : jH} {nc ns : Nat} {l1 l2 l3 s0 : Int} {b L : Nat} {xs : Nat → Int32} (h : xL C G) (hX : j_X C G b L xs)  (k : j_ok n_KT 4 C G 999 [(0, (9, (b : Int))), (1, (2, l1)), (2, (2, l2)), (3, (0, l3))] [] S V nc ns) : j_ok n_KT 4 C G 402 [(0, (9, (b : Int))), (1, (2, l1)), (2, (2, l2)), (3, (0, l3))] [(0, s0)] S V nc ns := by
  have E := n_E h
  refine j_pop E dL_402 rfl ?_
  refine j_goto E dL_403 (t := 999) rfl ?_
  exact j_pick [0, 1, 2, 3] rfl k
theorem tL_406 {C : qCx} {G : jG} {S : jS} {V : jH} {nc ns : Nat} {l1 l2 l3 : Int} {b L : Nat} {xs : Nat → Int32} {mc ms : Nat} {pp : Int → Int → Int → jS → jH → Prop} {qq : Int → Int → Int → jS → jH → Int → jS → jH → Prop} (h : xL C G) (hX : j_X C G b L xs) (hrm : C.2.2.2.1.frames = 10 ∧ C.2.2.2.1.locals = 396) (c1 : -2147483648 ≤ l3 + 1 ∧ l3 + 1 ≤ 2147483647) (c2 : 0 ≤ l3 + 1) (c3 : l3 + 1 < (L : Int)) (c4 : -2147483648 ≤ l3 + 2 ∧ l3 + 2 ≤ 2147483647) (c5 : 0 ≤ l3 + 2) (c6 : l3 + 2 < (L : Int)) (c7 : S.1 l1 = 31) (hM : M1_8 C.2.1 mc ms pp qq) (hp : pp l1 (j_scr xs (l3 + 1)) (j_scr xs (l3 + 2)) S V) (hc : nc + mc ≤ C.2.2.2.1.cells) (hs : ns + ms ≤ C.2.2.2.1.slots) (k : ∀ (r : Int) (S' : jS) (V' : jH), qq l1 (j_scr xs (l3 + 1)) (j_scr xs (l3 + 2)) S V r S' V' → j_ok n_KT 4 C G 420 [(0, (9, (b : Int))), (1, (2, l1)), (2, (2, l2)), (3, (0, l3))] [(0, r)] S' V' (nc + mc) (ns + ms)) : j_ok n_KT 4 C G 406 [(0, (9, (b : Int))), (1, (2, l1)), (2, (2, l2)), (3, (0, l3))] [] S V nc ns := by
  have E := n_E h
  refine j_aload_n E dL_406 rfl 1 rfl ?_
  refine j_aload_nR E dL_407 rfl 0 rfl ?_
  refine j_iload_n E dL_408 rfl 3 rfl ?_
  refine j_iconst E dL_409 (by decide) ?_
  refine j_iadd E dL_410 c1 ?_
  refine j_rld E hX dL_411 c2 c3 ?_
  refine j_aload_nR E dL_412 rfl 0 rfl ?_
  refine j_iload_n E dL_413 rfl 3 rfl ?_
  refine j_iconst E dL_414 (by decide) ?_
  refine j_iadd E dL_415 c4 ?_
  refine j_rld E hX dL_416 c5 c6 ?_
  refine j_call E (KL_417 h hrm hM) dL_417 (a := [(2, l1), (0, j_scr xs (l3 + 1)), (0, j_scr xs (l3 + 2))]) (sk := []) rfl ⟨l1, j_scr xs (l3 + 1), j_scr xs (l3 + 2), rfl, c7, hp⟩ (Nat.le_of_ble_eq_true rfl) hc hs ?_
  rintro rs S' V' ⟨z0, z1, z2, r, e1, rfl, q⟩
  simp only [List.cons.injEq, Prod.mk.injEq, and_true, true_and] at e1
  obtain ⟨rfl, rfl, rfl⟩ := e1
  exact j_pick [0, 1, 2, 3] rfl (k r S' V' q)
theorem tL_420 {C : qCx} {G : jG} {S : jS} {V : jH} {nc ns : Nat} {l1 l2 l3 s0 : Int} {b L : Nat} {xs : Nat → Int32} {mc ms : Nat} {pp : Int → Int → Int → jS → jH → Prop} {qq : Int → Int → Int → jS → jH → Int → jS → jH → Prop} (h : xL C G) (hX : j_X C G b L xs) (hrm : C.2.2.2.1.frames = 10 ∧ C.2.2.2.1.locals = 396) (c1 : -2147483648 ≤ l3 + 1 ∧ l3 + 1 ≤ 2147483647) (c2 : 0 ≤ l3 + 1) (c3 : l3 + 1 < (L : Int)) (c4 : -2147483648 ≤ l3 + 2 ∧ l3 + 2 ≤ 2147483647) (c5 : 0 ≤ l3 + 2) (c6 : l3 + 2 < (L : Int)) (c7 : S.1 l2 = 33) (hM : M13_18 C.2.1 mc ms pp qq) (hp : pp l2 (j_scr xs (l3 + 1)) (j_scr xs (l3 + 2)) S V) (hc : nc + mc ≤ C.2.2.2.1.cells) (hs : ns + ms ≤ C.2.2.2.1.slots) (k : ∀ (r : Int) (S' : jS) (V' : jH), qq l2 (j_scr xs (l3 + 1)) (j_scr xs (l3 + 2)) S V r S' V' → j_ok n_KT 4 C G 435 [(0, (9, (b : Int))), (1, (2, l1)), (2, (2, l2)), (3, (0, l3))] [(0, r)] S' V' (nc + mc) (ns + ms)) : j_ok n_KT 4 C G 420 [(0, (9, (b : Int))), (1, (2, l1)), (2, (2, l2)), (3, (0, l3))] [(0, s0)] S V nc ns := by
  have E := n_E h
  refine j_pop E dL_420 rfl ?_
  refine j_aload_n E dL_421 rfl 2 rfl ?_
  refine j_aload_nR E dL_422 rfl 0 rfl ?_
  refine j_iload_n E dL_423 rfl 3 rfl ?_
  refine j_iconst E dL_424 (by decide) ?_
  refine j_iadd E dL_425 c1 ?_
  refine j_rld E hX dL_426 c2 c3 ?_
  refine j_aload_nR E dL_427 rfl 0 rfl ?_
  refine j_iload_n E dL_428 rfl 3 rfl ?_
  refine j_iconst E dL_429 (by decide) ?_
  refine j_iadd E dL_430 c4 ?_
  refine j_rld E hX dL_431 c5 c6 ?_
  refine j_call E (KL_432 h hrm hM) dL_432 (a := [(2, l2), (0, j_scr xs (l3 + 1)), (0, j_scr xs (l3 + 2))]) (sk := []) rfl ⟨l2, j_scr xs (l3 + 1), j_scr xs (l3 + 2), rfl, c7, hp⟩ (Nat.le_of_ble_eq_true rfl) hc hs ?_
  rintro rs S' V' ⟨z0, z1, z2, r, e1, rfl, q⟩
  simp only [List.cons.injEq, Prod.mk.injEq, and_true, true_and] at e1
  obtain ⟨rfl, rfl, rfl⟩ := e1
  exact j_pick [0, 1, 2, 3] rfl (k r S' V' q)
theorem tL_435 {C : qCx} {G : jG} {S : jS} {V : jH} {nc ns : Nat} {l1 l2 l3 s0 : Int} {b L : Nat} {xs : Nat → Int32} (h : xL C G) (hX : j_X C G b L xs)  (k : j_ok n_KT 4 C G 999 [(0, (9, (b : Int))), (1, (2, l1)), (2, (2, l2)), (3, (0, l3))] [] S V nc ns) : j_ok n_KT 4 C G 435 [(0, (9, (b : Int))), (1, (2, l1)), (2, (2, l2)), (3, (0, l3))] [(0, s0)] S V nc ns := by
  have E := n_E h
  refine j_pop E dL_435 rfl ?_
  refine j_goto E dL_436 (t := 999) rfl ?_
  exact j_pick [0, 1, 2, 3] rfl k
theorem tL_439 {C : qCx} {G : jG} {S : jS} {V : jH} {nc ns : Nat} {l1 l2 l3 : Int} {b L : Nat} {xs : Nat → Int32} (h : xL C G) (hX : j_X C G b L xs) (c1 : -2147483648 ≤ l3 + 1 ∧ l3 + 1 ≤ 2147483647) (c2 : 0 ≤ l3 + 1) (c3 : l3 + 1 < (L : Int)) (c4 : -2147483648 ≤ l3 + 2 ∧ l3 + 2 ≤ 2147483647) (c5 : 0 ≤ l3 + 2) (c6 : l3 + 2 < (L : Int)) (c7 : -2147483648 ≤ l3 + 3 ∧ l3 + 3 ≤ 2147483647) (c8 : 0 ≤ l3 + 3) (c9 : l3 + 3 < (L : Int)) (c10 : -2147483648 ≤ l3 + 4 ∧ l3 + 4 ≤ 2147483647) (c11 : 0 ≤ l3 + 4) (c12 : l3 + 4 < (L : Int)) (k : j_scr xs (l3 + 4) = 0 → j_ok n_KT 4 C G 467 [(0, (9, (b : Int))), (1, (2, l1)), (2, (2, l2)), (3, (0, l3))] [(0, j_scr xs (l3 + 3)), (0, j_scr xs (l3 + 2)), (0, j_scr xs (l3 + 1)), (2, l1)] S V nc ns) (k' : ¬ j_scr xs (l3 + 4) = 0 → j_ok n_KT 4 C G 463 [(0, (9, (b : Int))), (1, (2, l1)), (2, (2, l2)), (3, (0, l3))] [(0, j_scr xs (l3 + 3)), (0, j_scr xs (l3 + 2)), (0, j_scr xs (l3 + 1)), (2, l1)] S V nc ns) : j_ok n_KT 4 C G 439 [(0, (9, (b : Int))), (1, (2, l1)), (2, (2, l2)), (3, (0, l3))] [] S V nc ns := by
  have E := n_E h
  refine j_aload_n E dL_439 rfl 1 rfl ?_
  refine j_aload_nR E dL_440 rfl 0 rfl ?_
  refine j_iload_n E dL_441 rfl 3 rfl ?_
  refine j_iconst E dL_442 (by decide) ?_
  refine j_iadd E dL_443 c1 ?_
  refine j_rld E hX dL_444 c2 c3 ?_
  refine j_aload_nR E dL_445 rfl 0 rfl ?_
  refine j_iload_n E dL_446 rfl 3 rfl ?_
  refine j_iconst E dL_447 (by decide) ?_
  refine j_iadd E dL_448 c4 ?_
  refine j_rld E hX dL_449 c5 c6 ?_
  refine j_aload_nR E dL_450 rfl 0 rfl ?_
  refine j_iload_n E dL_451 rfl 3 rfl ?_
  refine j_iconst E dL_452 (by decide) ?_
  refine j_iadd E dL_453 c7 ?_
  refine j_rld E hX dL_454 c8 c9 ?_
  refine j_aload_nR E dL_455 rfl 0 rfl ?_
  refine j_iload_n E dL_456 rfl 3 rfl ?_
  refine j_iconst E dL_457 (by decide) ?_
  refine j_iadd E dL_458 c10 ?_
  refine j_rld E hX dL_459 c11 c12 ?_
  exact j_if_eq E dL_460 (t := 467) rfl (fun q => j_pick [0, 1, 2, 3] rfl (k q)) (fun q => j_pick [0, 1, 2, 3] rfl (k' q))
theorem tL_463 {C : qCx} {G : jG} {S : jS} {V : jH} {nc ns : Nat} {l1 l2 l3 s0 s1 s2 s3 : Int} {b L : Nat} {xs : Nat → Int32} (h : xL C G) (hX : j_X C G b L xs)  (k : j_ok n_KT 4 C G 468 [(0, (9, (b : Int))), (1, (2, l1)), (2, (2, l2)), (3, (0, l3))] [(0, 1), (0, s0), (0, s1), (0, s2), (2, s3)] S V nc ns) : j_ok n_KT 4 C G 463 [(0, (9, (b : Int))), (1, (2, l1)), (2, (2, l2)), (3, (0, l3))] [(0, s0), (0, s1), (0, s2), (2, s3)] S V nc ns := by
  have E := n_E h
  refine j_iconst E dL_463 (by decide) ?_
  refine j_goto E dL_464 (t := 468) rfl ?_
  exact j_pick [0, 1, 2, 3] rfl k
theorem tL_467 {C : qCx} {G : jG} {S : jS} {V : jH} {nc ns : Nat} {l1 l2 l3 s0 s1 s2 s3 : Int} {b L : Nat} {xs : Nat → Int32} (h : xL C G) (hX : j_X C G b L xs)  (k : j_ok n_KT 4 C G 468 [(0, (9, (b : Int))), (1, (2, l1)), (2, (2, l2)), (3, (0, l3))] [(0, 0), (0, s0), (0, s1), (0, s2), (2, s3)] S V nc ns) : j_ok n_KT 4 C G 467 [(0, (9, (b : Int))), (1, (2, l1)), (2, (2, l2)), (3, (0, l3))] [(0, s0), (0, s1), (0, s2), (2, s3)] S V nc ns := by
  have E := n_E h
  refine j_iconst E dL_467 (by decide) ?_
  exact j_pick [0, 1, 2, 3] rfl k
theorem tL_468 {C : qCx} {G : jG} {S : jS} {V : jH} {nc ns : Nat} {l1 l2 l3 s0 s1 s2 s3 s4 : Int} {b L : Nat} {xs : Nat → Int32} {mc ms : Nat} {pp : Int → Int → Int → Int → Int → jS → jH → Prop} {qq : Int → Int → Int → Int → Int → jS → jH → Int → jS → jH → Prop} (h : xL C G) (hX : j_X C G b L xs) (hrm : C.2.2.2.1.frames = 10 ∧ C.2.2.2.1.locals = 396) (c1 : S.1 s4 = 31) (hM : M1_9 C.2.1 mc ms pp qq) (hp : pp s4 s3 s2 s1 s0 S V) (hc : nc + mc ≤ C.2.2.2.1.cells) (hs : ns + ms ≤ C.2.2.2.1.slots) (k : ∀ (r : Int) (S' : jS) (V' : jH), qq s4 s3 s2 s1 s0 S V r S' V' → j_ok n_KT 4 C G 471 [(0, (9, (b : Int))), (1, (2, l1)), (2, (2, l2)), (3, (0, l3))] [(0, r)] S' V' (nc + mc) (ns + ms)) : j_ok n_KT 4 C G 468 [(0, (9, (b : Int))), (1, (2, l1)), (2, (2, l2)), (3, (0, l3))] [(0, s0), (0, s1), (0, s2), (0, s3), (2, s4)] S V nc ns := by
  have E := n_E h
  refine j_call E (KL_468 h hrm hM) dL_468 (a := [(2, s4), (0, s3), (0, s2), (0, s1), (0, s0)]) (sk := []) rfl ⟨s4, s3, s2, s1, s0, rfl, c1, hp⟩ (Nat.le_of_ble_eq_true rfl) hc hs ?_
  rintro rs S' V' ⟨z0, z1, z2, z3, z4, r, e1, rfl, q⟩
  simp only [List.cons.injEq, Prod.mk.injEq, and_true, true_and] at e1
  obtain ⟨rfl, rfl, rfl, rfl, rfl⟩ := e1
  exact j_pick [0, 1, 2, 3] rfl (k r S' V' q)
theorem tL_471 {C : qCx} {G : jG} {S : jS} {V : jH} {nc ns : Nat} {l1 l2 l3 s0 : Int} {b L : Nat} {xs : Nat → Int32} (h : xL C G) (hX : j_X C G b L xs) (c1 : -2147483648 ≤ l3 + 1 ∧ l3 + 1 ≤ 2147483647) (c2 : 0 ≤ l3 + 1) (c3 : l3 + 1 < (L : Int)) (c4 : -2147483648 ≤ l3 + 2 ∧ l3 + 2 ≤ 2147483647) (c5 : 0 ≤ l3 + 2) (c6 : l3 + 2 < (L : Int)) (c7 : -2147483648 ≤ l3 + 3 ∧ l3 + 3 ≤ 2147483647) (c8 : 0 ≤ l3 + 3) (c9 : l3 + 3 < (L : Int)) (c10 : -2147483648 ≤ l3 + 4 ∧ l3 + 4 ≤ 2147483647) (c11 : 0 ≤ l3 + 4) (c12 : l3 + 4 < (L : Int)) (k : j_scr xs (l3 + 4) = 0 → j_ok n_KT 4 C G 500 [(0, (9, (b : Int))), (1, (2, l1)), (2, (2, l2)), (3, (0, l3))] [(0, j_scr xs (l3 + 3)), (0, j_scr xs (l3 + 2)), (0, j_scr xs (l3 + 1)), (2, l2)] S V nc ns) (k' : ¬ j_scr xs (l3 + 4) = 0 → j_ok n_KT 4 C G 496 [(0, (9, (b : Int))), (1, (2, l1)), (2, (2, l2)), (3, (0, l3))] [(0, j_scr xs (l3 + 3)), (0, j_scr xs (l3 + 2)), (0, j_scr xs (l3 + 1)), (2, l2)] S V nc ns) : j_ok n_KT 4 C G 471 [(0, (9, (b : Int))), (1, (2, l1)), (2, (2, l2)), (3, (0, l3))] [(0, s0)] S V nc ns := by
  have E := n_E h
  refine j_pop E dL_471 rfl ?_
  refine j_aload_n E dL_472 rfl 2 rfl ?_
  refine j_aload_nR E dL_473 rfl 0 rfl ?_
  refine j_iload_n E dL_474 rfl 3 rfl ?_
  refine j_iconst E dL_475 (by decide) ?_
  refine j_iadd E dL_476 c1 ?_
  refine j_rld E hX dL_477 c2 c3 ?_
  refine j_aload_nR E dL_478 rfl 0 rfl ?_
  refine j_iload_n E dL_479 rfl 3 rfl ?_
  refine j_iconst E dL_480 (by decide) ?_
  refine j_iadd E dL_481 c4 ?_
  refine j_rld E hX dL_482 c5 c6 ?_
  refine j_aload_nR E dL_483 rfl 0 rfl ?_
  refine j_iload_n E dL_484 rfl 3 rfl ?_
  refine j_iconst E dL_485 (by decide) ?_
  refine j_iadd E dL_486 c7 ?_
  refine j_rld E hX dL_487 c8 c9 ?_
  refine j_aload_nR E dL_488 rfl 0 rfl ?_
  refine j_iload_n E dL_489 rfl 3 rfl ?_
  refine j_iconst E dL_490 (by decide) ?_
  refine j_iadd E dL_491 c10 ?_
  refine j_rld E hX dL_492 c11 c12 ?_
  exact j_if_eq E dL_493 (t := 500) rfl (fun q => j_pick [0, 1, 2, 3] rfl (k q)) (fun q => j_pick [0, 1, 2, 3] rfl (k' q))
theorem tL_496 {C : qCx} {G : jG} {S : jS} {V : jH} {nc ns : Nat} {l1 l2 l3 s0 s1 s2 s3 : Int} {b L : Nat} {xs : Nat → Int32} (h : xL C G) (hX : j_X C G b L xs)  (k : j_ok n_KT 4 C G 501 [(0, (9, (b : Int))), (1, (2, l1)), (2, (2, l2)), (3, (0, l3))] [(0, 1), (0, s0), (0, s1), (0, s2), (2, s3)] S V nc ns) : j_ok n_KT 4 C G 496 [(0, (9, (b : Int))), (1, (2, l1)), (2, (2, l2)), (3, (0, l3))] [(0, s0), (0, s1), (0, s2), (2, s3)] S V nc ns := by
  have E := n_E h
  refine j_iconst E dL_496 (by decide) ?_
  refine j_goto E dL_497 (t := 501) rfl ?_
  exact j_pick [0, 1, 2, 3] rfl k
theorem tL_500 {C : qCx} {G : jG} {S : jS} {V : jH} {nc ns : Nat} {l1 l2 l3 s0 s1 s2 s3 : Int} {b L : Nat} {xs : Nat → Int32} (h : xL C G) (hX : j_X C G b L xs)  (k : j_ok n_KT 4 C G 501 [(0, (9, (b : Int))), (1, (2, l1)), (2, (2, l2)), (3, (0, l3))] [(0, 0), (0, s0), (0, s1), (0, s2), (2, s3)] S V nc ns) : j_ok n_KT 4 C G 500 [(0, (9, (b : Int))), (1, (2, l1)), (2, (2, l2)), (3, (0, l3))] [(0, s0), (0, s1), (0, s2), (2, s3)] S V nc ns := by
  have E := n_E h
  refine j_iconst E dL_500 (by decide) ?_
  exact j_pick [0, 1, 2, 3] rfl k
theorem tL_501 {C : qCx} {G : jG} {S : jS} {V : jH} {nc ns : Nat} {l1 l2 l3 s0 s1 s2 s3 s4 : Int} {b L : Nat} {xs : Nat → Int32} {mc ms : Nat} {pp : Int → Int → Int → Int → Int → jS → jH → Prop} {qq : Int → Int → Int → Int → Int → jS → jH → Int → jS → jH → Prop} (h : xL C G) (hX : j_X C G b L xs) (hrm : C.2.2.2.1.frames = 10 ∧ C.2.2.2.1.locals = 396) (c1 : S.1 s4 = 33) (hM : M13_20 C.2.1 mc ms pp qq) (hp : pp s4 s3 s2 s1 s0 S V) (hc : nc + mc ≤ C.2.2.2.1.cells) (hs : ns + ms ≤ C.2.2.2.1.slots) (k : ∀ (r : Int) (S' : jS) (V' : jH), qq s4 s3 s2 s1 s0 S V r S' V' → j_ok n_KT 4 C G 504 [(0, (9, (b : Int))), (1, (2, l1)), (2, (2, l2)), (3, (0, l3))] [(0, r)] S' V' (nc + mc) (ns + ms)) : j_ok n_KT 4 C G 501 [(0, (9, (b : Int))), (1, (2, l1)), (2, (2, l2)), (3, (0, l3))] [(0, s0), (0, s1), (0, s2), (0, s3), (2, s4)] S V nc ns := by
  have E := n_E h
  refine j_call E (KL_501 h hrm hM) dL_501 (a := [(2, s4), (0, s3), (0, s2), (0, s1), (0, s0)]) (sk := []) rfl ⟨s4, s3, s2, s1, s0, rfl, c1, hp⟩ (Nat.le_of_ble_eq_true rfl) hc hs ?_
  rintro rs S' V' ⟨z0, z1, z2, z3, z4, r, e1, rfl, q⟩
  simp only [List.cons.injEq, Prod.mk.injEq, and_true, true_and] at e1
  obtain ⟨rfl, rfl, rfl, rfl, rfl⟩ := e1
  exact j_pick [0, 1, 2, 3] rfl (k r S' V' q)
theorem tL_504 {C : qCx} {G : jG} {S : jS} {V : jH} {nc ns : Nat} {l1 l2 l3 s0 : Int} {b L : Nat} {xs : Nat → Int32} (h : xL C G) (hX : j_X C G b L xs)  (k : j_ok n_KT 4 C G 999 [(0, (9, (b : Int))), (1, (2, l1)), (2, (2, l2)), (3, (0, l3))] [] S V nc ns) : j_ok n_KT 4 C G 504 [(0, (9, (b : Int))), (1, (2, l1)), (2, (2, l2)), (3, (0, l3))] [(0, s0)] S V nc ns := by
  have E := n_E h
  refine j_pop E dL_504 rfl ?_
  refine j_goto E dL_505 (t := 999) rfl ?_
  exact j_pick [0, 1, 2, 3] rfl k
theorem tL_508 {C : qCx} {G : jG} {S : jS} {V : jH} {nc ns : Nat} {l1 l2 l3 : Int} {b L : Nat} {xs : Nat → Int32} {mc ms : Nat} {pp : Int → Int → Int → Int → jS → jH → Prop} {qq : Int → Int → Int → Int → jS → jH → Int → jS → jH → Prop} (h : xL C G) (hX : j_X C G b L xs) (hrm : C.2.2.2.1.frames = 10 ∧ C.2.2.2.1.locals = 396) (c1 : -2147483648 ≤ l3 + 1 ∧ l3 + 1 ≤ 2147483647) (c2 : 0 ≤ l3 + 1) (c3 : l3 + 1 < (L : Int)) (c4 : -2147483648 ≤ l3 + 2 ∧ l3 + 2 ≤ 2147483647) (c5 : 0 ≤ l3 + 2) (c6 : l3 + 2 < (L : Int)) (c7 : -2147483648 ≤ l3 + 3 ∧ l3 + 3 ≤ 2147483647) (c8 : 0 ≤ l3 + 3) (c9 : l3 + 3 < (L : Int)) (c10 : S.1 l1 = 31) (hM : M1_10 C.2.1 mc ms pp qq) (hp : pp l1 (j_scr xs (l3 + 1)) (j_scr xs (l3 + 2)) (j_scr xs (l3 + 3)) S V) (hc : nc + mc ≤ C.2.2.2.1.cells) (hs : ns + ms ≤ C.2.2.2.1.slots) (k : ∀ (r : Int) (S' : jS) (V' : jH), qq l1 (j_scr xs (l3 + 1)) (j_scr xs (l3 + 2)) (j_scr xs (l3 + 3)) S V r S' V' → j_ok n_KT 4 C G 527 [(0, (9, (b : Int))), (1, (2, l1)), (2, (2, l2)), (3, (0, l3))] [(1, r)] S' V' (nc + mc) (ns + ms)) : j_ok n_KT 4 C G 508 [(0, (9, (b : Int))), (1, (2, l1)), (2, (2, l2)), (3, (0, l3))] [] S V nc ns := by
  have E := n_E h
  refine j_aload_n E dL_508 rfl 1 rfl ?_
  refine j_aload_nR E dL_509 rfl 0 rfl ?_
  refine j_iload_n E dL_510 rfl 3 rfl ?_
  refine j_iconst E dL_511 (by decide) ?_
  refine j_iadd E dL_512 c1 ?_
  refine j_rld E hX dL_513 c2 c3 ?_
  refine j_aload_nR E dL_514 rfl 0 rfl ?_
  refine j_iload_n E dL_515 rfl 3 rfl ?_
  refine j_iconst E dL_516 (by decide) ?_
  refine j_iadd E dL_517 c4 ?_
  refine j_rld E hX dL_518 c5 c6 ?_
  refine j_aload_nR E dL_519 rfl 0 rfl ?_
  refine j_iload_n E dL_520 rfl 3 rfl ?_
  refine j_iconst E dL_521 (by decide) ?_
  refine j_iadd E dL_522 c7 ?_
  refine j_rld E hX dL_523 c8 c9 ?_
  refine j_call E (KL_524 h hrm hM) dL_524 (a := [(2, l1), (0, j_scr xs (l3 + 1)), (0, j_scr xs (l3 + 2)), (0, j_scr xs (l3 + 3))]) (sk := []) rfl ⟨l1, j_scr xs (l3 + 1), j_scr xs (l3 + 2), j_scr xs (l3 + 3), rfl, c10, hp⟩ (Nat.le_of_ble_eq_true rfl) hc hs ?_
  rintro rs S' V' ⟨z0, z1, z2, z3, r, e1, rfl, q⟩
  simp only [List.cons.injEq, Prod.mk.injEq, and_true, true_and] at e1
  obtain ⟨rfl, rfl, rfl, rfl⟩ := e1
  exact j_pick [0, 1, 2, 3] rfl (k r S' V' q)
theorem tL_527 {C : qCx} {G : jG} {S : jS} {V : jH} {nc ns : Nat} {l1 l2 l3 s0 : Int} {b L : Nat} {xs : Nat → Int32} {mc ms : Nat} {pp : Int → Int → Int → Int → jS → jH → Prop} {qq : Int → Int → Int → Int → jS → jH → Int → jS → jH → Prop} (h : xL C G) (hX : j_X C G b L xs) (hrm : C.2.2.2.1.frames = 10 ∧ C.2.2.2.1.locals = 396) (c1 : -2147483648 ≤ l3 + 1 ∧ l3 + 1 ≤ 2147483647) (c2 : 0 ≤ l3 + 1) (c3 : l3 + 1 < (L : Int)) (c4 : -2147483648 ≤ l3 + 2 ∧ l3 + 2 ≤ 2147483647) (c5 : 0 ≤ l3 + 2) (c6 : l3 + 2 < (L : Int)) (c7 : -2147483648 ≤ l3 + 3 ∧ l3 + 3 ≤ 2147483647) (c8 : 0 ≤ l3 + 3) (c9 : l3 + 3 < (L : Int)) (c10 : S.1 l2 = 33) (hM : M13_21 C.2.1 mc ms pp qq) (hp : pp l2 (j_scr xs (l3 + 1)) (j_scr xs (l3 + 2)) (j_scr xs (l3 + 3)) S V) (hc : nc + mc ≤ C.2.2.2.1.cells) (hs : ns + ms ≤ C.2.2.2.1.slots) (k : ∀ (r : Int) (S' : jS) (V' : jH), qq l2 (j_scr xs (l3 + 1)) (j_scr xs (l3 + 2)) (j_scr xs (l3 + 3)) S V r S' V' → j_ok n_KT 4 C G 547 [(0, (9, (b : Int))), (1, (2, l1)), (2, (2, l2)), (3, (0, l3))] [(1, r)] S' V' (nc + mc) (ns + ms)) : j_ok n_KT 4 C G 527 [(0, (9, (b : Int))), (1, (2, l1)), (2, (2, l2)), (3, (0, l3))] [(1, s0)] S V nc ns := by
  have E := n_E h
  refine j_pop2 E dL_527 rfl ?_
  refine j_aload_n E dL_528 rfl 2 rfl ?_
  refine j_aload_nR E dL_529 rfl 0 rfl ?_
  refine j_iload_n E dL_530 rfl 3 rfl ?_
  refine j_iconst E dL_531 (by decide) ?_
  refine j_iadd E dL_532 c1 ?_
  refine j_rld E hX dL_533 c2 c3 ?_
  refine j_aload_nR E dL_534 rfl 0 rfl ?_
  refine j_iload_n E dL_535 rfl 3 rfl ?_
  refine j_iconst E dL_536 (by decide) ?_
  refine j_iadd E dL_537 c4 ?_
  refine j_rld E hX dL_538 c5 c6 ?_
  refine j_aload_nR E dL_539 rfl 0 rfl ?_
  refine j_iload_n E dL_540 rfl 3 rfl ?_
  refine j_iconst E dL_541 (by decide) ?_
  refine j_iadd E dL_542 c7 ?_
  refine j_rld E hX dL_543 c8 c9 ?_
  refine j_call E (KL_544 h hrm hM) dL_544 (a := [(2, l2), (0, j_scr xs (l3 + 1)), (0, j_scr xs (l3 + 2)), (0, j_scr xs (l3 + 3))]) (sk := []) rfl ⟨l2, j_scr xs (l3 + 1), j_scr xs (l3 + 2), j_scr xs (l3 + 3), rfl, c10, hp⟩ (Nat.le_of_ble_eq_true rfl) hc hs ?_
  rintro rs S' V' ⟨z0, z1, z2, z3, r, e1, rfl, q⟩
  simp only [List.cons.injEq, Prod.mk.injEq, and_true, true_and] at e1
  obtain ⟨rfl, rfl, rfl, rfl⟩ := e1
  exact j_pick [0, 1, 2, 3] rfl (k r S' V' q)
theorem tL_547 {C : qCx} {G : jG} {S : jS} {V : jH} {nc ns : Nat} {l1 l2 l3 s0 : Int} {b L : Nat} {xs : Nat → Int32} (h : xL C G) (hX : j_X C G b L xs)  (k : j_ok n_KT 4 C G 999 [(0, (9, (b : Int))), (1, (2, l1)), (2, (2, l2)), (3, (0, l3))] [] S V nc ns) : j_ok n_KT 4 C G 547 [(0, (9, (b : Int))), (1, (2, l1)), (2, (2, l2)), (3, (0, l3))] [(1, s0)] S V nc ns := by
  have E := n_E h
  refine j_pop2 E dL_547 rfl ?_
  refine j_goto E dL_548 (t := 999) rfl ?_
  exact j_pick [0, 1, 2, 3] rfl k
theorem tL_551 {C : qCx} {G : jG} {S : jS} {V : jH} {nc ns : Nat} {l1 l2 l3 : Int} {b L : Nat} {xs : Nat → Int32} {mc ms : Nat} {pp : Int → Int → Int → jS → jH → Prop} {qq : Int → Int → Int → jS → jH → Int → jS → jH → Prop} (h : xL C G) (hX : j_X C G b L xs) (hrm : C.2.2.2.1.frames = 10 ∧ C.2.2.2.1.locals = 396) (c1 : -2147483648 ≤ l3 + 1 ∧ l3 + 1 ≤ 2147483647) (c2 : 0 ≤ l3 + 1) (c3 : l3 + 1 < (L : Int)) (c4 : -2147483648 ≤ l3 + 2 ∧ l3 + 2 ≤ 2147483647) (c5 : 0 ≤ l3 + 2) (c6 : l3 + 2 < (L : Int)) (c7 : S.1 l1 = 31) (hM : M1_11 C.2.1 mc ms pp qq) (hp : pp l1 (j_scr xs (l3 + 1)) (j_scr xs (l3 + 2)) S V) (hc : nc + mc ≤ C.2.2.2.1.cells) (hs : ns + ms ≤ C.2.2.2.1.slots) (k : ∀ (r : Int) (S' : jS) (V' : jH), qq l1 (j_scr xs (l3 + 1)) (j_scr xs (l3 + 2)) S V r S' V' → j_ok n_KT 4 C G 565 [(0, (9, (b : Int))), (1, (2, l1)), (2, (2, l2)), (3, (0, l3))] [(0, r)] S' V' (nc + mc) (ns + ms)) : j_ok n_KT 4 C G 551 [(0, (9, (b : Int))), (1, (2, l1)), (2, (2, l2)), (3, (0, l3))] [] S V nc ns := by
  have E := n_E h
  refine j_aload_n E dL_551 rfl 1 rfl ?_
  refine j_aload_nR E dL_552 rfl 0 rfl ?_
  refine j_iload_n E dL_553 rfl 3 rfl ?_
  refine j_iconst E dL_554 (by decide) ?_
  refine j_iadd E dL_555 c1 ?_
  refine j_rld E hX dL_556 c2 c3 ?_
  refine j_aload_nR E dL_557 rfl 0 rfl ?_
  refine j_iload_n E dL_558 rfl 3 rfl ?_
  refine j_iconst E dL_559 (by decide) ?_
  refine j_iadd E dL_560 c4 ?_
  refine j_rld E hX dL_561 c5 c6 ?_
  refine j_call E (KL_562 h hrm hM) dL_562 (a := [(2, l1), (0, j_scr xs (l3 + 1)), (0, j_scr xs (l3 + 2))]) (sk := []) rfl ⟨l1, j_scr xs (l3 + 1), j_scr xs (l3 + 2), rfl, c7, hp⟩ (Nat.le_of_ble_eq_true rfl) hc hs ?_
  rintro rs S' V' ⟨z0, z1, z2, r, e1, rfl, q⟩
  simp only [List.cons.injEq, Prod.mk.injEq, and_true, true_and] at e1
  obtain ⟨rfl, rfl, rfl⟩ := e1
  exact j_pick [0, 1, 2, 3] rfl (k r S' V' q)
theorem tL_565 {C : qCx} {G : jG} {S : jS} {V : jH} {nc ns : Nat} {l1 l2 l3 s0 : Int} {b L : Nat} {xs : Nat → Int32} {mc ms : Nat} {pp : Int → Int → Int → jS → jH → Prop} {qq : Int → Int → Int → jS → jH → Int → jS → jH → Prop} (h : xL C G) (hX : j_X C G b L xs) (hrm : C.2.2.2.1.frames = 10 ∧ C.2.2.2.1.locals = 396) (c1 : -2147483648 ≤ l3 + 1 ∧ l3 + 1 ≤ 2147483647) (c2 : 0 ≤ l3 + 1) (c3 : l3 + 1 < (L : Int)) (c4 : -2147483648 ≤ l3 + 2 ∧ l3 + 2 ≤ 2147483647) (c5 : 0 ≤ l3 + 2) (c6 : l3 + 2 < (L : Int)) (c7 : S.1 l2 = 33) (hM : M13_22 C.2.1 mc ms pp qq) (hp : pp l2 (j_scr xs (l3 + 1)) (j_scr xs (l3 + 2)) S V) (hc : nc + mc ≤ C.2.2.2.1.cells) (hs : ns + ms ≤ C.2.2.2.1.slots) (k : ∀ (r : Int) (S' : jS) (V' : jH), qq l2 (j_scr xs (l3 + 1)) (j_scr xs (l3 + 2)) S V r S' V' → j_ok n_KT 4 C G 580 [(0, (9, (b : Int))), (1, (2, l1)), (2, (2, l2)), (3, (0, l3))] [(0, r)] S' V' (nc + mc) (ns + ms)) : j_ok n_KT 4 C G 565 [(0, (9, (b : Int))), (1, (2, l1)), (2, (2, l2)), (3, (0, l3))] [(0, s0)] S V nc ns := by
  have E := n_E h
  refine j_pop E dL_565 rfl ?_
  refine j_aload_n E dL_566 rfl 2 rfl ?_
  refine j_aload_nR E dL_567 rfl 0 rfl ?_
  refine j_iload_n E dL_568 rfl 3 rfl ?_
  refine j_iconst E dL_569 (by decide) ?_
  refine j_iadd E dL_570 c1 ?_
  refine j_rld E hX dL_571 c2 c3 ?_
  refine j_aload_nR E dL_572 rfl 0 rfl ?_
  refine j_iload_n E dL_573 rfl 3 rfl ?_
  refine j_iconst E dL_574 (by decide) ?_
  refine j_iadd E dL_575 c4 ?_
  refine j_rld E hX dL_576 c5 c6 ?_
  refine j_call E (KL_577 h hrm hM) dL_577 (a := [(2, l2), (0, j_scr xs (l3 + 1)), (0, j_scr xs (l3 + 2))]) (sk := []) rfl ⟨l2, j_scr xs (l3 + 1), j_scr xs (l3 + 2), rfl, c7, hp⟩ (Nat.le_of_ble_eq_true rfl) hc hs ?_
  rintro rs S' V' ⟨z0, z1, z2, r, e1, rfl, q⟩
  simp only [List.cons.injEq, Prod.mk.injEq, and_true, true_and] at e1
  obtain ⟨rfl, rfl, rfl⟩ := e1
  exact j_pick [0, 1, 2, 3] rfl (k r S' V' q)
theorem tL_580 {C : qCx} {G : jG} {S : jS} {V : jH} {nc ns : Nat} {l1 l2 l3 s0 : Int} {b L : Nat} {xs : Nat → Int32} (h : xL C G) (hX : j_X C G b L xs)  (k : j_ok n_KT 4 C G 999 [(0, (9, (b : Int))), (1, (2, l1)), (2, (2, l2)), (3, (0, l3))] [] S V nc ns) : j_ok n_KT 4 C G 580 [(0, (9, (b : Int))), (1, (2, l1)), (2, (2, l2)), (3, (0, l3))] [(0, s0)] S V nc ns := by
  have E := n_E h
  refine j_pop E dL_580 rfl ?_
  refine j_goto E dL_581 (t := 999) rfl ?_
  exact j_pick [0, 1, 2, 3] rfl k
theorem tL_584 {C : qCx} {G : jG} {S : jS} {V : jH} {nc ns : Nat} {l1 l2 l3 : Int} {b L : Nat} {xs : Nat → Int32} {mc ms : Nat} {pp : Int → Int → Int → Int → jS → jH → Prop} {qq : Int → Int → Int → Int → jS → jH → Int → jS → jH → Prop} (h : xL C G) (hX : j_X C G b L xs) (hrm : C.2.2.2.1.frames = 10 ∧ C.2.2.2.1.locals = 396) (c1 : -2147483648 ≤ l3 + 1 ∧ l3 + 1 ≤ 2147483647) (c2 : 0 ≤ l3 + 1) (c3 : l3 + 1 < (L : Int)) (c4 : -2147483648 ≤ l3 + 2 ∧ l3 + 2 ≤ 2147483647) (c5 : 0 ≤ l3 + 2) (c6 : l3 + 2 < (L : Int)) (c7 : -2147483648 ≤ l3 + 3 ∧ l3 + 3 ≤ 2147483647) (c8 : 0 ≤ l3 + 3) (c9 : l3 + 3 < (L : Int)) (c10 : S.1 l1 = 31) (hM : M1_12 C.2.1 mc ms pp qq) (hp : pp l1 (j_scr xs (l3 + 1)) (j_scr xs (l3 + 2)) (j_scr xs (l3 + 3)) S V) (hc : nc + mc ≤ C.2.2.2.1.cells) (hs : ns + ms ≤ C.2.2.2.1.slots) (k : ∀ (r : Int) (S' : jS) (V' : jH), qq l1 (j_scr xs (l3 + 1)) (j_scr xs (l3 + 2)) (j_scr xs (l3 + 3)) S V r S' V' → j_ok n_KT 4 C G 603 [(0, (9, (b : Int))), (1, (2, l1)), (2, (2, l2)), (3, (0, l3))] [(0, r)] S' V' (nc + mc) (ns + ms)) : j_ok n_KT 4 C G 584 [(0, (9, (b : Int))), (1, (2, l1)), (2, (2, l2)), (3, (0, l3))] [] S V nc ns := by
  have E := n_E h
  refine j_aload_n E dL_584 rfl 1 rfl ?_
  refine j_aload_nR E dL_585 rfl 0 rfl ?_
  refine j_iload_n E dL_586 rfl 3 rfl ?_
  refine j_iconst E dL_587 (by decide) ?_
  refine j_iadd E dL_588 c1 ?_
  refine j_rld E hX dL_589 c2 c3 ?_
  refine j_aload_nR E dL_590 rfl 0 rfl ?_
  refine j_iload_n E dL_591 rfl 3 rfl ?_
  refine j_iconst E dL_592 (by decide) ?_
  refine j_iadd E dL_593 c4 ?_
  refine j_rld E hX dL_594 c5 c6 ?_
  refine j_aload_nR E dL_595 rfl 0 rfl ?_
  refine j_iload_n E dL_596 rfl 3 rfl ?_
  refine j_iconst E dL_597 (by decide) ?_
  refine j_iadd E dL_598 c7 ?_
  refine j_rld E hX dL_599 c8 c9 ?_
  refine j_call E (KL_600 h hrm hM) dL_600 (a := [(2, l1), (0, j_scr xs (l3 + 1)), (0, j_scr xs (l3 + 2)), (0, j_scr xs (l3 + 3))]) (sk := []) rfl ⟨l1, j_scr xs (l3 + 1), j_scr xs (l3 + 2), j_scr xs (l3 + 3), rfl, c10, hp⟩ (Nat.le_of_ble_eq_true rfl) hc hs ?_
  rintro rs S' V' ⟨z0, z1, z2, z3, r, e1, rfl, q⟩
  simp only [List.cons.injEq, Prod.mk.injEq, and_true, true_and] at e1
  obtain ⟨rfl, rfl, rfl, rfl⟩ := e1
  exact j_pick [0, 1, 2, 3] rfl (k r S' V' q)
theorem tL_603 {C : qCx} {G : jG} {S : jS} {V : jH} {nc ns : Nat} {l1 l2 l3 s0 : Int} {b L : Nat} {xs : Nat → Int32} {mc ms : Nat} {pp : Int → Int → Int → Int → jS → jH → Prop} {qq : Int → Int → Int → Int → jS → jH → Int → jS → jH → Prop} (h : xL C G) (hX : j_X C G b L xs) (hrm : C.2.2.2.1.frames = 10 ∧ C.2.2.2.1.locals = 396) (c1 : -2147483648 ≤ l3 + 1 ∧ l3 + 1 ≤ 2147483647) (c2 : 0 ≤ l3 + 1) (c3 : l3 + 1 < (L : Int)) (c4 : -2147483648 ≤ l3 + 2 ∧ l3 + 2 ≤ 2147483647) (c5 : 0 ≤ l3 + 2) (c6 : l3 + 2 < (L : Int)) (c7 : -2147483648 ≤ l3 + 3 ∧ l3 + 3 ≤ 2147483647) (c8 : 0 ≤ l3 + 3) (c9 : l3 + 3 < (L : Int)) (c10 : S.1 l2 = 33) (hM : M13_32 C.2.1 mc ms pp qq) (hp : pp l2 (j_scr xs (l3 + 1)) (j_scr xs (l3 + 2)) (j_scr xs (l3 + 3)) S V) (hc : nc + mc ≤ C.2.2.2.1.cells) (hs : ns + ms ≤ C.2.2.2.1.slots) (k : ∀ (r : Int) (S' : jS) (V' : jH), qq l2 (j_scr xs (l3 + 1)) (j_scr xs (l3 + 2)) (j_scr xs (l3 + 3)) S V r S' V' → j_ok n_KT 4 C G 623 [(0, (9, (b : Int))), (1, (2, l1)), (2, (2, l2)), (3, (0, l3))] [(0, r)] S' V' (nc + mc) (ns + ms)) : j_ok n_KT 4 C G 603 [(0, (9, (b : Int))), (1, (2, l1)), (2, (2, l2)), (3, (0, l3))] [(0, s0)] S V nc ns := by
  have E := n_E h
  refine j_pop E dL_603 rfl ?_
  refine j_aload_n E dL_604 rfl 2 rfl ?_
  refine j_aload_nR E dL_605 rfl 0 rfl ?_
  refine j_iload_n E dL_606 rfl 3 rfl ?_
  refine j_iconst E dL_607 (by decide) ?_
  refine j_iadd E dL_608 c1 ?_
  refine j_rld E hX dL_609 c2 c3 ?_
  refine j_aload_nR E dL_610 rfl 0 rfl ?_
  refine j_iload_n E dL_611 rfl 3 rfl ?_
  refine j_iconst E dL_612 (by decide) ?_
  refine j_iadd E dL_613 c4 ?_
  refine j_rld E hX dL_614 c5 c6 ?_
  refine j_aload_nR E dL_615 rfl 0 rfl ?_
  refine j_iload_n E dL_616 rfl 3 rfl ?_
  refine j_iconst E dL_617 (by decide) ?_
  refine j_iadd E dL_618 c7 ?_
  refine j_rld E hX dL_619 c8 c9 ?_
  refine j_call E (KL_620 h hrm hM) dL_620 (a := [(2, l2), (0, j_scr xs (l3 + 1)), (0, j_scr xs (l3 + 2)), (0, j_scr xs (l3 + 3))]) (sk := []) rfl ⟨l2, j_scr xs (l3 + 1), j_scr xs (l3 + 2), j_scr xs (l3 + 3), rfl, c10, hp⟩ (Nat.le_of_ble_eq_true rfl) hc hs ?_
  rintro rs S' V' ⟨z0, z1, z2, z3, r, e1, rfl, q⟩
  simp only [List.cons.injEq, Prod.mk.injEq, and_true, true_and] at e1
  obtain ⟨rfl, rfl, rfl, rfl⟩ := e1
  exact j_pick [0, 1, 2, 3] rfl (k r S' V' q)
theorem tL_623 {C : qCx} {G : jG} {S : jS} {V : jH} {nc ns : Nat} {l1 l2 l3 s0 : Int} {b L : Nat} {xs : Nat → Int32} (h : xL C G) (hX : j_X C G b L xs)  (k : j_ok n_KT 4 C G 999 [(0, (9, (b : Int))), (1, (2, l1)), (2, (2, l2)), (3, (0, l3))] [] S V nc ns) : j_ok n_KT 4 C G 623 [(0, (9, (b : Int))), (1, (2, l1)), (2, (2, l2)), (3, (0, l3))] [(0, s0)] S V nc ns := by
  have E := n_E h
  refine j_pop E dL_623 rfl ?_
  refine j_goto E dL_624 (t := 999) rfl ?_
  exact j_pick [0, 1, 2, 3] rfl k
theorem tL_627 {C : qCx} {G : jG} {S : jS} {V : jH} {nc ns : Nat} {l1 l2 l3 : Int} {b L : Nat} {xs : Nat → Int32} {mc ms : Nat} {pp : Int → Int → Int → Int → jS → jH → Prop} {qq : Int → Int → Int → Int → jS → jH → Int → jS → jH → Prop} (h : xL C G) (hX : j_X C G b L xs) (hrm : C.2.2.2.1.frames = 10 ∧ C.2.2.2.1.locals = 396) (c1 : -2147483648 ≤ l3 + 1 ∧ l3 + 1 ≤ 2147483647) (c2 : 0 ≤ l3 + 1) (c3 : l3 + 1 < (L : Int)) (c4 : -2147483648 ≤ l3 + 2 ∧ l3 + 2 ≤ 2147483647) (c5 : 0 ≤ l3 + 2) (c6 : l3 + 2 < (L : Int)) (c7 : -2147483648 ≤ l3 + 3 ∧ l3 + 3 ≤ 2147483647) (c8 : 0 ≤ l3 + 3) (c9 : l3 + 3 < (L : Int)) (c10 : S.1 l1 = 31) (hM : M1_13 C.2.1 mc ms pp qq) (hp : pp l1 (j_scr xs (l3 + 1)) (j_scr xs (l3 + 2)) (j_scr xs (l3 + 3)) S V) (hc : nc + mc ≤ C.2.2.2.1.cells) (hs : ns + ms ≤ C.2.2.2.1.slots) (k : ∀ (r : Int) (S' : jS) (V' : jH), qq l1 (j_scr xs (l3 + 1)) (j_scr xs (l3 + 2)) (j_scr xs (l3 + 3)) S V r S' V' → j_ok n_KT 4 C G 646 [(0, (9, (b : Int))), (1, (2, l1)), (2, (2, l2)), (3, (0, l3))] [(0, r)] S' V' (nc + mc) (ns + ms)) : j_ok n_KT 4 C G 627 [(0, (9, (b : Int))), (1, (2, l1)), (2, (2, l2)), (3, (0, l3))] [] S V nc ns := by
  have E := n_E h
  refine j_aload_n E dL_627 rfl 1 rfl ?_
  refine j_aload_nR E dL_628 rfl 0 rfl ?_
  refine j_iload_n E dL_629 rfl 3 rfl ?_
  refine j_iconst E dL_630 (by decide) ?_
  refine j_iadd E dL_631 c1 ?_
  refine j_rld E hX dL_632 c2 c3 ?_
  refine j_aload_nR E dL_633 rfl 0 rfl ?_
  refine j_iload_n E dL_634 rfl 3 rfl ?_
  refine j_iconst E dL_635 (by decide) ?_
  refine j_iadd E dL_636 c4 ?_
  refine j_rld E hX dL_637 c5 c6 ?_
  refine j_aload_nR E dL_638 rfl 0 rfl ?_
  refine j_iload_n E dL_639 rfl 3 rfl ?_
  refine j_iconst E dL_640 (by decide) ?_
  refine j_iadd E dL_641 c7 ?_
  refine j_rld E hX dL_642 c8 c9 ?_
  refine j_call E (KL_643 h hrm hM) dL_643 (a := [(2, l1), (0, j_scr xs (l3 + 1)), (0, j_scr xs (l3 + 2)), (0, j_scr xs (l3 + 3))]) (sk := []) rfl ⟨l1, j_scr xs (l3 + 1), j_scr xs (l3 + 2), j_scr xs (l3 + 3), rfl, c10, hp⟩ (Nat.le_of_ble_eq_true rfl) hc hs ?_
  rintro rs S' V' ⟨z0, z1, z2, z3, r, e1, rfl, q⟩
  simp only [List.cons.injEq, Prod.mk.injEq, and_true, true_and] at e1
  obtain ⟨rfl, rfl, rfl, rfl⟩ := e1
  exact j_pick [0, 1, 2, 3] rfl (k r S' V' q)
theorem tL_646 {C : qCx} {G : jG} {S : jS} {V : jH} {nc ns : Nat} {l1 l2 l3 s0 : Int} {b L : Nat} {xs : Nat → Int32} {mc ms : Nat} {pp : Int → Int → Int → Int → jS → jH → Prop} {qq : Int → Int → Int → Int → jS → jH → Int → jS → jH → Prop} (h : xL C G) (hX : j_X C G b L xs) (hrm : C.2.2.2.1.frames = 10 ∧ C.2.2.2.1.locals = 396) (c1 : -2147483648 ≤ l3 + 1 ∧ l3 + 1 ≤ 2147483647) (c2 : 0 ≤ l3 + 1) (c3 : l3 + 1 < (L : Int)) (c4 : -2147483648 ≤ l3 + 2 ∧ l3 + 2 ≤ 2147483647) (c5 : 0 ≤ l3 + 2) (c6 : l3 + 2 < (L : Int)) (c7 : -2147483648 ≤ l3 + 3 ∧ l3 + 3 ≤ 2147483647) (c8 : 0 ≤ l3 + 3) (c9 : l3 + 3 < (L : Int)) (c10 : S.1 l2 = 33) (hM : M13_33 C.2.1 mc ms pp qq) (hp : pp l2 (j_scr xs (l3 + 1)) (j_scr xs (l3 + 2)) (j_scr xs (l3 + 3)) S V) (hc : nc + mc ≤ C.2.2.2.1.cells) (hs : ns + ms ≤ C.2.2.2.1.slots) (k : ∀ (r : Int) (S' : jS) (V' : jH), qq l2 (j_scr xs (l3 + 1)) (j_scr xs (l3 + 2)) (j_scr xs (l3 + 3)) S V r S' V' → j_ok n_KT 4 C G 666 [(0, (9, (b : Int))), (1, (2, l1)), (2, (2, l2)), (3, (0, l3))] [(0, r)] S' V' (nc + mc) (ns + ms)) : j_ok n_KT 4 C G 646 [(0, (9, (b : Int))), (1, (2, l1)), (2, (2, l2)), (3, (0, l3))] [(0, s0)] S V nc ns := by
  have E := n_E h
  refine j_pop E dL_646 rfl ?_
  refine j_aload_n E dL_647 rfl 2 rfl ?_
  refine j_aload_nR E dL_648 rfl 0 rfl ?_
  refine j_iload_n E dL_649 rfl 3 rfl ?_
  refine j_iconst E dL_650 (by decide) ?_
  refine j_iadd E dL_651 c1 ?_
  refine j_rld E hX dL_652 c2 c3 ?_
  refine j_aload_nR E dL_653 rfl 0 rfl ?_
  refine j_iload_n E dL_654 rfl 3 rfl ?_
  refine j_iconst E dL_655 (by decide) ?_
  refine j_iadd E dL_656 c4 ?_
  refine j_rld E hX dL_657 c5 c6 ?_
  refine j_aload_nR E dL_658 rfl 0 rfl ?_
  refine j_iload_n E dL_659 rfl 3 rfl ?_
  refine j_iconst E dL_660 (by decide) ?_
  refine j_iadd E dL_661 c7 ?_
  refine j_rld E hX dL_662 c8 c9 ?_
  refine j_call E (KL_663 h hrm hM) dL_663 (a := [(2, l2), (0, j_scr xs (l3 + 1)), (0, j_scr xs (l3 + 2)), (0, j_scr xs (l3 + 3))]) (sk := []) rfl ⟨l2, j_scr xs (l3 + 1), j_scr xs (l3 + 2), j_scr xs (l3 + 3), rfl, c10, hp⟩ (Nat.le_of_ble_eq_true rfl) hc hs ?_
  rintro rs S' V' ⟨z0, z1, z2, z3, r, e1, rfl, q⟩
  simp only [List.cons.injEq, Prod.mk.injEq, and_true, true_and] at e1
  obtain ⟨rfl, rfl, rfl, rfl⟩ := e1
  exact j_pick [0, 1, 2, 3] rfl (k r S' V' q)
theorem tL_666 {C : qCx} {G : jG} {S : jS} {V : jH} {nc ns : Nat} {l1 l2 l3 s0 : Int} {b L : Nat} {xs : Nat → Int32} (h : xL C G) (hX : j_X C G b L xs)  (k : j_ok n_KT 4 C G 999 [(0, (9, (b : Int))), (1, (2, l1)), (2, (2, l2)), (3, (0, l3))] [] S V nc ns) : j_ok n_KT 4 C G 666 [(0, (9, (b : Int))), (1, (2, l1)), (2, (2, l2)), (3, (0, l3))] [(0, s0)] S V nc ns := by
  have E := n_E h
  refine j_pop E dL_666 rfl ?_
  refine j_goto E dL_667 (t := 999) rfl ?_
  exact j_pick [0, 1, 2, 3] rfl k
theorem tL_670 {C : qCx} {G : jG} {S : jS} {V : jH} {nc ns : Nat} {l1 l2 l3 : Int} {b L : Nat} {xs : Nat → Int32} {mc ms : Nat} {pp : Int → Int → jS → jH → Prop} {qq : Int → Int → jS → jH → Int → jS → jH → Prop} (h : xL C G) (hX : j_X C G b L xs) (hrm : C.2.2.2.1.frames = 10 ∧ C.2.2.2.1.locals = 396) (c1 : -2147483648 ≤ l3 + 1 ∧ l3 + 1 ≤ 2147483647) (c2 : 0 ≤ l3 + 1) (c3 : l3 + 1 < (L : Int)) (c4 : S.1 l1 = 31) (hM : M1_14 C.2.1 mc ms pp qq) (hp : pp l1 (j_scr xs (l3 + 1)) S V) (hc : nc + mc ≤ C.2.2.2.1.cells) (hs : ns + ms ≤ C.2.2.2.1.slots) (k : ∀ (r : Int) (S' : jS) (V' : jH), qq l1 (j_scr xs (l3 + 1)) S V r S' V' → j_ok n_KT 4 C G 679 [(0, (9, (b : Int))), (1, (2, l1)), (2, (2, l2)), (3, (0, l3))] [(0, r)] S' V' (nc + mc) (ns + ms)) : j_ok n_KT 4 C G 670 [(0, (9, (b : Int))), (1, (2, l1)), (2, (2, l2)), (3, (0, l3))] [] S V nc ns := by
  have E := n_E h
  refine j_aload_n E dL_670 rfl 1 rfl ?_
  refine j_aload_nR E dL_671 rfl 0 rfl ?_
  refine j_iload_n E dL_672 rfl 3 rfl ?_
  refine j_iconst E dL_673 (by decide) ?_
  refine j_iadd E dL_674 c1 ?_
  refine j_rld E hX dL_675 c2 c3 ?_
  refine j_call E (KL_676 h hrm hM) dL_676 (a := [(2, l1), (0, j_scr xs (l3 + 1))]) (sk := []) rfl ⟨l1, j_scr xs (l3 + 1), rfl, c4, hp⟩ (Nat.le_of_ble_eq_true rfl) hc hs ?_
  rintro rs S' V' ⟨z0, z1, r, e1, rfl, q⟩
  simp only [List.cons.injEq, Prod.mk.injEq, and_true, true_and] at e1
  obtain ⟨rfl, rfl⟩ := e1
  exact j_pick [0, 1, 2, 3] rfl (k r S' V' q)
theorem tL_679 {C : qCx} {G : jG} {S : jS} {V : jH} {nc ns : Nat} {l1 l2 l3 s0 : Int} {b L : Nat} {xs : Nat → Int32} {mc ms : Nat} {pp : Int → Int → jS → jH → Prop} {qq : Int → Int → jS → jH → Int → jS → jH → Prop} (h : xL C G) (hX : j_X C G b L xs) (hrm : C.2.2.2.1.frames = 10 ∧ C.2.2.2.1.locals = 396) (c1 : -2147483648 ≤ l3 + 1 ∧ l3 + 1 ≤ 2147483647) (c2 : 0 ≤ l3 + 1) (c3 : l3 + 1 < (L : Int)) (c4 : S.1 l2 = 33) (hM : M13_41 C.2.1 mc ms pp qq) (hp : pp l2 (j_scr xs (l3 + 1)) S V) (hc : nc + mc ≤ C.2.2.2.1.cells) (hs : ns + ms ≤ C.2.2.2.1.slots) (k : ∀ (r : Int) (S' : jS) (V' : jH), qq l2 (j_scr xs (l3 + 1)) S V r S' V' → j_ok n_KT 4 C G 689 [(0, (9, (b : Int))), (1, (2, l1)), (2, (2, l2)), (3, (0, l3))] [(0, r)] S' V' (nc + mc) (ns + ms)) : j_ok n_KT 4 C G 679 [(0, (9, (b : Int))), (1, (2, l1)), (2, (2, l2)), (3, (0, l3))] [(0, s0)] S V nc ns := by
  have E := n_E h
  refine j_pop E dL_679 rfl ?_
  refine j_aload_n E dL_680 rfl 2 rfl ?_
  refine j_aload_nR E dL_681 rfl 0 rfl ?_
  refine j_iload_n E dL_682 rfl 3 rfl ?_
  refine j_iconst E dL_683 (by decide) ?_
  refine j_iadd E dL_684 c1 ?_
  refine j_rld E hX dL_685 c2 c3 ?_
  refine j_call E (KL_686 h hrm hM) dL_686 (a := [(2, l2), (0, j_scr xs (l3 + 1))]) (sk := []) rfl ⟨l2, j_scr xs (l3 + 1), rfl, c4, hp⟩ (Nat.le_of_ble_eq_true rfl) hc hs ?_
  rintro rs S' V' ⟨z0, z1, r, e1, rfl, q⟩
  simp only [List.cons.injEq, Prod.mk.injEq, and_true, true_and] at e1
  obtain ⟨rfl, rfl⟩ := e1
  exact j_pick [0, 1, 2, 3] rfl (k r S' V' q)
theorem tL_689 {C : qCx} {G : jG} {S : jS} {V : jH} {nc ns : Nat} {l1 l2 l3 s0 : Int} {b L : Nat} {xs : Nat → Int32} (h : xL C G) (hX : j_X C G b L xs)  (k : j_ok n_KT 4 C G 999 [(0, (9, (b : Int))), (1, (2, l1)), (2, (2, l2)), (3, (0, l3))] [] S V nc ns) : j_ok n_KT 4 C G 689 [(0, (9, (b : Int))), (1, (2, l1)), (2, (2, l2)), (3, (0, l3))] [(0, s0)] S V nc ns := by
  have E := n_E h
  refine j_pop E dL_689 rfl ?_
  refine j_goto E dL_690 (t := 999) rfl ?_
  exact j_pick [0, 1, 2, 3] rfl k
theorem tL_693 {C : qCx} {G : jG} {S : jS} {V : jH} {nc ns : Nat} {l1 l2 l3 : Int} {b L : Nat} {xs : Nat → Int32} {mc ms : Nat} {pp : Int → Int → jS → jH → Prop} {qq : Int → Int → jS → jH → Int → jS → jH → Prop} (h : xL C G) (hX : j_X C G b L xs) (hrm : C.2.2.2.1.frames = 10 ∧ C.2.2.2.1.locals = 396) (c1 : -2147483648 ≤ l3 + 1 ∧ l3 + 1 ≤ 2147483647) (c2 : 0 ≤ l3 + 1) (c3 : l3 + 1 < (L : Int)) (c4 : S.1 l1 = 31) (hM : M1_15 C.2.1 mc ms pp qq) (hp : pp l1 (j_scr xs (l3 + 1)) S V) (hc : nc + mc ≤ C.2.2.2.1.cells) (hs : ns + ms ≤ C.2.2.2.1.slots) (k : ∀ (r : Int) (S' : jS) (V' : jH), qq l1 (j_scr xs (l3 + 1)) S V r S' V' → j_ok n_KT 4 C G 702 [(0, (9, (b : Int))), (1, (2, l1)), (2, (2, l2)), (3, (0, l3))] [(0, r)] S' V' (nc + mc) (ns + ms)) : j_ok n_KT 4 C G 693 [(0, (9, (b : Int))), (1, (2, l1)), (2, (2, l2)), (3, (0, l3))] [] S V nc ns := by
  have E := n_E h
  refine j_aload_n E dL_693 rfl 1 rfl ?_
  refine j_aload_nR E dL_694 rfl 0 rfl ?_
  refine j_iload_n E dL_695 rfl 3 rfl ?_
  refine j_iconst E dL_696 (by decide) ?_
  refine j_iadd E dL_697 c1 ?_
  refine j_rld E hX dL_698 c2 c3 ?_
  refine j_call E (KL_699 h hrm hM) dL_699 (a := [(2, l1), (0, j_scr xs (l3 + 1))]) (sk := []) rfl ⟨l1, j_scr xs (l3 + 1), rfl, c4, hp⟩ (Nat.le_of_ble_eq_true rfl) hc hs ?_
  rintro rs S' V' ⟨z0, z1, r, e1, rfl, q⟩
  simp only [List.cons.injEq, Prod.mk.injEq, and_true, true_and] at e1
  obtain ⟨rfl, rfl⟩ := e1
  exact j_pick [0, 1, 2, 3] rfl (k r S' V' q)
theorem tL_702 {C : qCx} {G : jG} {S : jS} {V : jH} {nc ns : Nat} {l1 l2 l3 s0 : Int} {b L : Nat} {xs : Nat → Int32} {mc ms : Nat} {pp : Int → Int → jS → jH → Prop} {qq : Int → Int → jS → jH → Int → jS → jH → Prop} (h : xL C G) (hX : j_X C G b L xs) (hrm : C.2.2.2.1.frames = 10 ∧ C.2.2.2.1.locals = 396) (c1 : -2147483648 ≤ l3 + 1 ∧ l3 + 1 ≤ 2147483647) (c2 : 0 ≤ l3 + 1) (c3 : l3 + 1 < (L : Int)) (c4 : S.1 l2 = 33) (hM : M13_42 C.2.1 mc ms pp qq) (hp : pp l2 (j_scr xs (l3 + 1)) S V) (hc : nc + mc ≤ C.2.2.2.1.cells) (hs : ns + ms ≤ C.2.2.2.1.slots) (k : ∀ (r : Int) (S' : jS) (V' : jH), qq l2 (j_scr xs (l3 + 1)) S V r S' V' → j_ok n_KT 4 C G 712 [(0, (9, (b : Int))), (1, (2, l1)), (2, (2, l2)), (3, (0, l3))] [(0, r)] S' V' (nc + mc) (ns + ms)) : j_ok n_KT 4 C G 702 [(0, (9, (b : Int))), (1, (2, l1)), (2, (2, l2)), (3, (0, l3))] [(0, s0)] S V nc ns := by
  have E := n_E h
  refine j_pop E dL_702 rfl ?_
  refine j_aload_n E dL_703 rfl 2 rfl ?_
  refine j_aload_nR E dL_704 rfl 0 rfl ?_
  refine j_iload_n E dL_705 rfl 3 rfl ?_
  refine j_iconst E dL_706 (by decide) ?_
  refine j_iadd E dL_707 c1 ?_
  refine j_rld E hX dL_708 c2 c3 ?_
  refine j_call E (KL_709 h hrm hM) dL_709 (a := [(2, l2), (0, j_scr xs (l3 + 1))]) (sk := []) rfl ⟨l2, j_scr xs (l3 + 1), rfl, c4, hp⟩ (Nat.le_of_ble_eq_true rfl) hc hs ?_
  rintro rs S' V' ⟨z0, z1, r, e1, rfl, q⟩
  simp only [List.cons.injEq, Prod.mk.injEq, and_true, true_and] at e1
  obtain ⟨rfl, rfl⟩ := e1
  exact j_pick [0, 1, 2, 3] rfl (k r S' V' q)
theorem tL_712 {C : qCx} {G : jG} {S : jS} {V : jH} {nc ns : Nat} {l1 l2 l3 s0 : Int} {b L : Nat} {xs : Nat → Int32} (h : xL C G) (hX : j_X C G b L xs)  (k : j_ok n_KT 4 C G 999 [(0, (9, (b : Int))), (1, (2, l1)), (2, (2, l2)), (3, (0, l3))] [] S V nc ns) : j_ok n_KT 4 C G 712 [(0, (9, (b : Int))), (1, (2, l1)), (2, (2, l2)), (3, (0, l3))] [(0, s0)] S V nc ns := by
  have E := n_E h
  refine j_pop E dL_712 rfl ?_
  refine j_goto E dL_713 (t := 999) rfl ?_
  exact j_pick [0, 1, 2, 3] rfl k
theorem tL_716 {C : qCx} {G : jG} {S : jS} {V : jH} {nc ns : Nat} {l1 l2 l3 : Int} {b L : Nat} {xs : Nat → Int32} {mc ms : Nat} {pp : Int → Int → Int → jS → jH → Prop} {qq : Int → Int → Int → jS → jH → Int → jS → jH → Prop} (h : xL C G) (hX : j_X C G b L xs) (hrm : C.2.2.2.1.frames = 10 ∧ C.2.2.2.1.locals = 396) (c1 : -2147483648 ≤ l3 + 1 ∧ l3 + 1 ≤ 2147483647) (c2 : 0 ≤ l3 + 1) (c3 : l3 + 1 < (L : Int)) (c4 : -2147483648 ≤ l3 + 2 ∧ l3 + 2 ≤ 2147483647) (c5 : 0 ≤ l3 + 2) (c6 : l3 + 2 < (L : Int)) (c7 : S.1 l1 = 31) (hM : M1_16 C.2.1 mc ms pp qq) (hp : pp l1 (j_scr xs (l3 + 1)) (j_scr xs (l3 + 2)) S V) (hc : nc + mc ≤ C.2.2.2.1.cells) (hs : ns + ms ≤ C.2.2.2.1.slots) (k : ∀ (r : Int) (S' : jS) (V' : jH), qq l1 (j_scr xs (l3 + 1)) (j_scr xs (l3 + 2)) S V r S' V' → j_ok n_KT 4 C G 730 [(0, (9, (b : Int))), (1, (2, l1)), (2, (2, l2)), (3, (0, l3))] [(0, r)] S' V' (nc + mc) (ns + ms)) : j_ok n_KT 4 C G 716 [(0, (9, (b : Int))), (1, (2, l1)), (2, (2, l2)), (3, (0, l3))] [] S V nc ns := by
  have E := n_E h
  refine j_aload_n E dL_716 rfl 1 rfl ?_
  refine j_aload_nR E dL_717 rfl 0 rfl ?_
  refine j_iload_n E dL_718 rfl 3 rfl ?_
  refine j_iconst E dL_719 (by decide) ?_
  refine j_iadd E dL_720 c1 ?_
  refine j_rld E hX dL_721 c2 c3 ?_
  refine j_aload_nR E dL_722 rfl 0 rfl ?_
  refine j_iload_n E dL_723 rfl 3 rfl ?_
  refine j_iconst E dL_724 (by decide) ?_
  refine j_iadd E dL_725 c4 ?_
  refine j_rld E hX dL_726 c5 c6 ?_
  refine j_call E (KL_727 h hrm hM) dL_727 (a := [(2, l1), (0, j_scr xs (l3 + 1)), (0, j_scr xs (l3 + 2))]) (sk := []) rfl ⟨l1, j_scr xs (l3 + 1), j_scr xs (l3 + 2), rfl, c7, hp⟩ (Nat.le_of_ble_eq_true rfl) hc hs ?_
  rintro rs S' V' ⟨z0, z1, z2, r, e1, rfl, q⟩
  simp only [List.cons.injEq, Prod.mk.injEq, and_true, true_and] at e1
  obtain ⟨rfl, rfl, rfl⟩ := e1
  exact j_pick [0, 1, 2, 3] rfl (k r S' V' q)
theorem tL_730 {C : qCx} {G : jG} {S : jS} {V : jH} {nc ns : Nat} {l1 l2 l3 s0 : Int} {b L : Nat} {xs : Nat → Int32} {mc ms : Nat} {pp : Int → Int → Int → jS → jH → Prop} {qq : Int → Int → Int → jS → jH → Int → jS → jH → Prop} (h : xL C G) (hX : j_X C G b L xs) (hrm : C.2.2.2.1.frames = 10 ∧ C.2.2.2.1.locals = 396) (c1 : -2147483648 ≤ l3 + 1 ∧ l3 + 1 ≤ 2147483647) (c2 : 0 ≤ l3 + 1) (c3 : l3 + 1 < (L : Int)) (c4 : -2147483648 ≤ l3 + 2 ∧ l3 + 2 ≤ 2147483647) (c5 : 0 ≤ l3 + 2) (c6 : l3 + 2 < (L : Int)) (c7 : S.1 l2 = 33) (hM : M13_44 C.2.1 mc ms pp qq) (hp : pp l2 (j_scr xs (l3 + 1)) (j_scr xs (l3 + 2)) S V) (hc : nc + mc ≤ C.2.2.2.1.cells) (hs : ns + ms ≤ C.2.2.2.1.slots) (k : ∀ (r : Int) (S' : jS) (V' : jH), qq l2 (j_scr xs (l3 + 1)) (j_scr xs (l3 + 2)) S V r S' V' → j_ok n_KT 4 C G 745 [(0, (9, (b : Int))), (1, (2, l1)), (2, (2, l2)), (3, (0, l3))] [(0, r)] S' V' (nc + mc) (ns + ms)) : j_ok n_KT 4 C G 730 [(0, (9, (b : Int))), (1, (2, l1)), (2, (2, l2)), (3, (0, l3))] [(0, s0)] S V nc ns := by
  have E := n_E h
  refine j_pop E dL_730 rfl ?_
  refine j_aload_n E dL_731 rfl 2 rfl ?_
  refine j_aload_nR E dL_732 rfl 0 rfl ?_
  refine j_iload_n E dL_733 rfl 3 rfl ?_
  refine j_iconst E dL_734 (by decide) ?_
  refine j_iadd E dL_735 c1 ?_
  refine j_rld E hX dL_736 c2 c3 ?_
  refine j_aload_nR E dL_737 rfl 0 rfl ?_
  refine j_iload_n E dL_738 rfl 3 rfl ?_
  refine j_iconst E dL_739 (by decide) ?_
  refine j_iadd E dL_740 c4 ?_
  refine j_rld E hX dL_741 c5 c6 ?_
  refine j_call E (KL_742 h hrm hM) dL_742 (a := [(2, l2), (0, j_scr xs (l3 + 1)), (0, j_scr xs (l3 + 2))]) (sk := []) rfl ⟨l2, j_scr xs (l3 + 1), j_scr xs (l3 + 2), rfl, c7, hp⟩ (Nat.le_of_ble_eq_true rfl) hc hs ?_
  rintro rs S' V' ⟨z0, z1, z2, r, e1, rfl, q⟩
  simp only [List.cons.injEq, Prod.mk.injEq, and_true, true_and] at e1
  obtain ⟨rfl, rfl, rfl⟩ := e1
  exact j_pick [0, 1, 2, 3] rfl (k r S' V' q)
theorem tL_745 {C : qCx} {G : jG} {S : jS} {V : jH} {nc ns : Nat} {l1 l2 l3 s0 : Int} {b L : Nat} {xs : Nat → Int32} (h : xL C G) (hX : j_X C G b L xs)  (k : j_ok n_KT 4 C G 999 [(0, (9, (b : Int))), (1, (2, l1)), (2, (2, l2)), (3, (0, l3))] [] S V nc ns) : j_ok n_KT 4 C G 745 [(0, (9, (b : Int))), (1, (2, l1)), (2, (2, l2)), (3, (0, l3))] [(0, s0)] S V nc ns := by
  have E := n_E h
  refine j_pop E dL_745 rfl ?_
  refine j_goto E dL_746 (t := 999) rfl ?_
  exact j_pick [0, 1, 2, 3] rfl k
theorem tL_749 {C : qCx} {G : jG} {S : jS} {V : jH} {nc ns : Nat} {l1 l2 l3 : Int} {b L : Nat} {xs : Nat → Int32} {mc ms : Nat} {pp : Int → Int → Int → jS → jH → Prop} {qq : Int → Int → Int → jS → jH → Int → jS → jH → Prop} (h : xL C G) (hX : j_X C G b L xs) (hrm : C.2.2.2.1.frames = 10 ∧ C.2.2.2.1.locals = 396) (c1 : -2147483648 ≤ l3 + 1 ∧ l3 + 1 ≤ 2147483647) (c2 : 0 ≤ l3 + 1) (c3 : l3 + 1 < (L : Int)) (c4 : -2147483648 ≤ j_scr xs (l3 + 1)) (c5 : j_scr xs (l3 + 1) ≤ 2147483647) (c6 : -2147483648 ≤ l3 + 2 ∧ l3 + 2 ≤ 2147483647) (c7 : 0 ≤ l3 + 2) (c8 : l3 + 2 < (L : Int)) (c9 : (4294967296 * (j_scr xs (l3 + 1))) % 4294967296 = 0) (c10 : 0 ≤ (j_scr xs (l3 + 2)) % 4294967296) (c11 : (j_scr xs (l3 + 2)) % 4294967296 < 4294967296) (c12 : -2147483648 ≤ l3 + 3 ∧ l3 + 3 ≤ 2147483647) (c13 : 0 ≤ l3 + 3) (c14 : l3 + 3 < (L : Int)) (c15 : S.1 l1 = 31) (hM : M1_17 C.2.1 mc ms pp qq) (hp : pp l1 ((4294967296 * (j_scr xs (l3 + 1))) + ((j_scr xs (l3 + 2)) % 4294967296)) (j_scr xs (l3 + 3)) S V) (hc : nc + mc ≤ C.2.2.2.1.cells) (hs : ns + ms ≤ C.2.2.2.1.slots) (k : ∀ (r : Int) (S' : jS) (V' : jH), qq l1 ((4294967296 * (j_scr xs (l3 + 1))) + ((j_scr xs (l3 + 2)) % 4294967296)) (j_scr xs (l3 + 3)) S V r S' V' → j_ok n_KT 4 C G 778 [(0, (9, (b : Int))), (1, (2, l1)), (2, (2, l2)), (3, (0, l3))] [(0, r)] S' V' (nc + mc) (ns + ms)) : j_ok n_KT 4 C G 749 [(0, (9, (b : Int))), (1, (2, l1)), (2, (2, l2)), (3, (0, l3))] [] S V nc ns := by
  have E := n_E h
  refine j_aload_n E dL_749 rfl 1 rfl ?_
  refine j_aload_nR E dL_750 rfl 0 rfl ?_
  refine j_iload_n E dL_751 rfl 3 rfl ?_
  refine j_iconst E dL_752 (by decide) ?_
  refine j_iadd E dL_753 c1 ?_
  refine j_rld E hX dL_754 c2 c3 ?_
  refine j_i2l E dL_755 ?_
  refine j_bipush E dL_756 (by decide) ?_
  refine j_lshl E dL_758 rfl c4 c5 ?_
  refine j_aload_nR E dL_759 rfl 0 rfl ?_
  refine j_iload_n E dL_760 rfl 3 rfl ?_
  refine j_iconst E dL_761 (by decide) ?_
  refine j_iadd E dL_762 c6 ?_
  refine j_rld E hX dL_763 c7 c8 ?_
  refine j_i2l E dL_764 ?_
  refine j_ldc2 (n := 4294967295) (flL_13 h) rfl dL_765 ?_
  refine j_land32 E dL_768 rfl ?_
  refine j_lor E dL_769 c9 c10 c11 ?_
  refine j_aload_nR E dL_770 rfl 0 rfl ?_
  refine j_iload_n E dL_771 rfl 3 rfl ?_
  refine j_iconst E dL_772 (by decide) ?_
  refine j_iadd E dL_773 c12 ?_
  refine j_rld E hX dL_774 c13 c14 ?_
  refine j_call E (KL_775 h hrm hM) dL_775 (a := [(2, l1), (1, (4294967296 * (j_scr xs (l3 + 1))) + ((j_scr xs (l3 + 2)) % 4294967296)), (0, j_scr xs (l3 + 3))]) (sk := []) rfl ⟨l1, (4294967296 * (j_scr xs (l3 + 1))) + ((j_scr xs (l3 + 2)) % 4294967296), j_scr xs (l3 + 3), rfl, c15, hp⟩ (Nat.le_of_ble_eq_true rfl) hc hs ?_
  rintro rs S' V' ⟨z0, z1, z2, r, e1, rfl, q⟩
  simp only [List.cons.injEq, Prod.mk.injEq, and_true, true_and] at e1
  obtain ⟨rfl, rfl, rfl⟩ := e1
  exact j_pick [0, 1, 2, 3] rfl (k r S' V' q)
theorem tL_778 {C : qCx} {G : jG} {S : jS} {V : jH} {nc ns : Nat} {l1 l2 l3 s0 : Int} {b L : Nat} {xs : Nat → Int32} {mc ms : Nat} {pp : Int → Int → Int → jS → jH → Prop} {qq : Int → Int → Int → jS → jH → Int → jS → jH → Prop} (h : xL C G) (hX : j_X C G b L xs) (hrm : C.2.2.2.1.frames = 10 ∧ C.2.2.2.1.locals = 396) (c1 : -2147483648 ≤ l3 + 1 ∧ l3 + 1 ≤ 2147483647) (c2 : 0 ≤ l3 + 1) (c3 : l3 + 1 < (L : Int)) (c4 : -2147483648 ≤ j_scr xs (l3 + 1)) (c5 : j_scr xs (l3 + 1) ≤ 2147483647) (c6 : -2147483648 ≤ l3 + 2 ∧ l3 + 2 ≤ 2147483647) (c7 : 0 ≤ l3 + 2) (c8 : l3 + 2 < (L : Int)) (c9 : (4294967296 * (j_scr xs (l3 + 1))) % 4294967296 = 0) (c10 : 0 ≤ (j_scr xs (l3 + 2)) % 4294967296) (c11 : (j_scr xs (l3 + 2)) % 4294967296 < 4294967296) (c12 : -2147483648 ≤ l3 + 3 ∧ l3 + 3 ≤ 2147483647) (c13 : 0 ≤ l3 + 3) (c14 : l3 + 3 < (L : Int)) (c15 : S.1 l2 = 33) (hM : M13_45 C.2.1 mc ms pp qq) (hp : pp l2 ((4294967296 * (j_scr xs (l3 + 1))) + ((j_scr xs (l3 + 2)) % 4294967296)) (j_scr xs (l3 + 3)) S V) (hc : nc + mc ≤ C.2.2.2.1.cells) (hs : ns + ms ≤ C.2.2.2.1.slots) (k : ∀ (r : Int) (S' : jS) (V' : jH), qq l2 ((4294967296 * (j_scr xs (l3 + 1))) + ((j_scr xs (l3 + 2)) % 4294967296)) (j_scr xs (l3 + 3)) S V r S' V' → j_ok n_KT 4 C G 808 [(0, (9, (b : Int))), (1, (2, l1)), (2, (2, l2)), (3, (0, l3))] [(0, r)] S' V' (nc + mc) (ns + ms)) : j_ok n_KT 4 C G 778 [(0, (9, (b : Int))), (1, (2, l1)), (2, (2, l2)), (3, (0, l3))] [(0, s0)] S V nc ns := by
  have E := n_E h
  refine j_pop E dL_778 rfl ?_
  refine j_aload_n E dL_779 rfl 2 rfl ?_
  refine j_aload_nR E dL_780 rfl 0 rfl ?_
  refine j_iload_n E dL_781 rfl 3 rfl ?_
  refine j_iconst E dL_782 (by decide) ?_
  refine j_iadd E dL_783 c1 ?_
  refine j_rld E hX dL_784 c2 c3 ?_
  refine j_i2l E dL_785 ?_
  refine j_bipush E dL_786 (by decide) ?_
  refine j_lshl E dL_788 rfl c4 c5 ?_
  refine j_aload_nR E dL_789 rfl 0 rfl ?_
  refine j_iload_n E dL_790 rfl 3 rfl ?_
  refine j_iconst E dL_791 (by decide) ?_
  refine j_iadd E dL_792 c6 ?_
  refine j_rld E hX dL_793 c7 c8 ?_
  refine j_i2l E dL_794 ?_
  refine j_ldc2 (n := 4294967295) (flL_13 h) rfl dL_795 ?_
  refine j_land32 E dL_798 rfl ?_
  refine j_lor E dL_799 c9 c10 c11 ?_
  refine j_aload_nR E dL_800 rfl 0 rfl ?_
  refine j_iload_n E dL_801 rfl 3 rfl ?_
  refine j_iconst E dL_802 (by decide) ?_
  refine j_iadd E dL_803 c12 ?_
  refine j_rld E hX dL_804 c13 c14 ?_
  refine j_call E (KL_805 h hrm hM) dL_805 (a := [(2, l2), (1, (4294967296 * (j_scr xs (l3 + 1))) + ((j_scr xs (l3 + 2)) % 4294967296)), (0, j_scr xs (l3 + 3))]) (sk := []) rfl ⟨l2, (4294967296 * (j_scr xs (l3 + 1))) + ((j_scr xs (l3 + 2)) % 4294967296), j_scr xs (l3 + 3), rfl, c15, hp⟩ (Nat.le_of_ble_eq_true rfl) hc hs ?_
  rintro rs S' V' ⟨z0, z1, z2, r, e1, rfl, q⟩
  simp only [List.cons.injEq, Prod.mk.injEq, and_true, true_and] at e1
  obtain ⟨rfl, rfl, rfl⟩ := e1
  exact j_pick [0, 1, 2, 3] rfl (k r S' V' q)
theorem tL_808 {C : qCx} {G : jG} {S : jS} {V : jH} {nc ns : Nat} {l1 l2 l3 s0 : Int} {b L : Nat} {xs : Nat → Int32} (h : xL C G) (hX : j_X C G b L xs)  (k : j_ok n_KT 4 C G 999 [(0, (9, (b : Int))), (1, (2, l1)), (2, (2, l2)), (3, (0, l3))] [] S V nc ns) : j_ok n_KT 4 C G 808 [(0, (9, (b : Int))), (1, (2, l1)), (2, (2, l2)), (3, (0, l3))] [(0, s0)] S V nc ns := by
  have E := n_E h
  refine j_pop E dL_808 rfl ?_
  refine j_goto E dL_809 (t := 999) rfl ?_
  exact j_pick [0, 1, 2, 3] rfl k
theorem tL_812 {C : qCx} {G : jG} {S : jS} {V : jH} {nc ns : Nat} {l1 l2 l3 : Int} {b L : Nat} {xs : Nat → Int32} {mc ms : Nat} {pp : Int → Int → jS → jH → Prop} {qq : Int → Int → jS → jH → Int → jS → jH → Prop} (h : xL C G) (hX : j_X C G b L xs) (hrm : C.2.2.2.1.frames = 10 ∧ C.2.2.2.1.locals = 396) (c1 : -2147483648 ≤ l3 + 1 ∧ l3 + 1 ≤ 2147483647) (c2 : 0 ≤ l3 + 1) (c3 : l3 + 1 < (L : Int)) (c4 : S.1 l1 = 31) (hM : M1_18 C.2.1 mc ms pp qq) (hp : pp l1 (j_scr xs (l3 + 1)) S V) (hc : nc + mc ≤ C.2.2.2.1.cells) (hs : ns + ms ≤ C.2.2.2.1.slots) (k : ∀ (r : Int) (S' : jS) (V' : jH), qq l1 (j_scr xs (l3 + 1)) S V r S' V' → j_ok n_KT 4 C G 821 [(0, (9, (b : Int))), (1, (2, l1)), (2, (2, l2)), (3, (0, l3))] [(0, r)] S' V' (nc + mc) (ns + ms)) : j_ok n_KT 4 C G 812 [(0, (9, (b : Int))), (1, (2, l1)), (2, (2, l2)), (3, (0, l3))] [] S V nc ns := by
  have E := n_E h
  refine j_aload_n E dL_812 rfl 1 rfl ?_
  refine j_aload_nR E dL_813 rfl 0 rfl ?_
  refine j_iload_n E dL_814 rfl 3 rfl ?_
  refine j_iconst E dL_815 (by decide) ?_
  refine j_iadd E dL_816 c1 ?_
  refine j_rld E hX dL_817 c2 c3 ?_
  refine j_call E (KL_818 h hrm hM) dL_818 (a := [(2, l1), (0, j_scr xs (l3 + 1))]) (sk := []) rfl ⟨l1, j_scr xs (l3 + 1), rfl, c4, hp⟩ (Nat.le_of_ble_eq_true rfl) hc hs ?_
  rintro rs S' V' ⟨z0, z1, r, e1, rfl, q⟩
  simp only [List.cons.injEq, Prod.mk.injEq, and_true, true_and] at e1
  obtain ⟨rfl, rfl⟩ := e1
  exact j_pick [0, 1, 2, 3] rfl (k r S' V' q)
theorem tL_821 {C : qCx} {G : jG} {S : jS} {V : jH} {nc ns : Nat} {l1 l2 l3 s0 : Int} {b L : Nat} {xs : Nat → Int32} {mc ms : Nat} {pp : Int → Int → jS → jH → Prop} {qq : Int → Int → jS → jH → Int → jS → jH → Prop} (h : xL C G) (hX : j_X C G b L xs) (hrm : C.2.2.2.1.frames = 10 ∧ C.2.2.2.1.locals = 396) (c1 : -2147483648 ≤ l3 + 1 ∧ l3 + 1 ≤ 2147483647) (c2 : 0 ≤ l3 + 1) (c3 : l3 + 1 < (L : Int)) (c4 : S.1 l2 = 33) (hM : M13_34 C.2.1 mc ms pp qq) (hp : pp l2 (j_scr xs (l3 + 1)) S V) (hc : nc + mc ≤ C.2.2.2.1.cells) (hs : ns + ms ≤ C.2.2.2.1.slots) (k : ∀ (r : Int) (S' : jS) (V' : jH), qq l2 (j_scr xs (l3 + 1)) S V r S' V' → j_ok n_KT 4 C G 831 [(0, (9, (b : Int))), (1, (2, l1)), (2, (2, l2)), (3, (0, l3))] [(0, r)] S' V' (nc + mc) (ns + ms)) : j_ok n_KT 4 C G 821 [(0, (9, (b : Int))), (1, (2, l1)), (2, (2, l2)), (3, (0, l3))] [(0, s0)] S V nc ns := by
  have E := n_E h
  refine j_pop E dL_821 rfl ?_
  refine j_aload_n E dL_822 rfl 2 rfl ?_
  refine j_aload_nR E dL_823 rfl 0 rfl ?_
  refine j_iload_n E dL_824 rfl 3 rfl ?_
  refine j_iconst E dL_825 (by decide) ?_
  refine j_iadd E dL_826 c1 ?_
  refine j_rld E hX dL_827 c2 c3 ?_
  refine j_call E (KL_828 h hrm hM) dL_828 (a := [(2, l2), (0, j_scr xs (l3 + 1))]) (sk := []) rfl ⟨l2, j_scr xs (l3 + 1), rfl, c4, hp⟩ (Nat.le_of_ble_eq_true rfl) hc hs ?_
  rintro rs S' V' ⟨z0, z1, r, e1, rfl, q⟩
  simp only [List.cons.injEq, Prod.mk.injEq, and_true, true_and] at e1
  obtain ⟨rfl, rfl⟩ := e1
  exact j_pick [0, 1, 2, 3] rfl (k r S' V' q)
theorem tL_831 {C : qCx} {G : jG} {S : jS} {V : jH} {nc ns : Nat} {l1 l2 l3 s0 : Int} {b L : Nat} {xs : Nat → Int32} (h : xL C G) (hX : j_X C G b L xs)  (k : j_ok n_KT 4 C G 999 [(0, (9, (b : Int))), (1, (2, l1)), (2, (2, l2)), (3, (0, l3))] [] S V nc ns) : j_ok n_KT 4 C G 831 [(0, (9, (b : Int))), (1, (2, l1)), (2, (2, l2)), (3, (0, l3))] [(0, s0)] S V nc ns := by
  have E := n_E h
  refine j_pop E dL_831 rfl ?_
  refine j_goto E dL_832 (t := 999) rfl ?_
  exact j_pick [0, 1, 2, 3] rfl k
theorem tL_835 {C : qCx} {G : jG} {S : jS} {V : jH} {nc ns : Nat} {l1 l2 l3 : Int} {b L : Nat} {xs : Nat → Int32} {mc ms : Nat} {pp : Int → Int → Int → jS → jH → Prop} {qq : Int → Int → Int → jS → jH → Int → jS → jH → Prop} (h : xL C G) (hX : j_X C G b L xs) (hrm : C.2.2.2.1.frames = 10 ∧ C.2.2.2.1.locals = 396) (c1 : -2147483648 ≤ l3 + 1 ∧ l3 + 1 ≤ 2147483647) (c2 : 0 ≤ l3 + 1) (c3 : l3 + 1 < (L : Int)) (c4 : -2147483648 ≤ l3 + 2 ∧ l3 + 2 ≤ 2147483647) (c5 : 0 ≤ l3 + 2) (c6 : l3 + 2 < (L : Int)) (c7 : S.1 l1 = 31) (hM : M1_19 C.2.1 mc ms pp qq) (hp : pp l1 (j_scr xs (l3 + 1)) (j_scr xs (l3 + 2)) S V) (hc : nc + mc ≤ C.2.2.2.1.cells) (hs : ns + ms ≤ C.2.2.2.1.slots) (k : ∀ (r : Int) (S' : jS) (V' : jH), qq l1 (j_scr xs (l3 + 1)) (j_scr xs (l3 + 2)) S V r S' V' → j_ok n_KT 4 C G 849 [(0, (9, (b : Int))), (1, (2, l1)), (2, (2, l2)), (3, (0, l3))] [(0, r)] S' V' (nc + mc) (ns + ms)) : j_ok n_KT 4 C G 835 [(0, (9, (b : Int))), (1, (2, l1)), (2, (2, l2)), (3, (0, l3))] [] S V nc ns := by
  have E := n_E h
  refine j_aload_n E dL_835 rfl 1 rfl ?_
  refine j_aload_nR E dL_836 rfl 0 rfl ?_
  refine j_iload_n E dL_837 rfl 3 rfl ?_
  refine j_iconst E dL_838 (by decide) ?_
  refine j_iadd E dL_839 c1 ?_
  refine j_rld E hX dL_840 c2 c3 ?_
  refine j_aload_nR E dL_841 rfl 0 rfl ?_
  refine j_iload_n E dL_842 rfl 3 rfl ?_
  refine j_iconst E dL_843 (by decide) ?_
  refine j_iadd E dL_844 c4 ?_
  refine j_rld E hX dL_845 c5 c6 ?_
  refine j_call E (KL_846 h hrm hM) dL_846 (a := [(2, l1), (0, j_scr xs (l3 + 1)), (0, j_scr xs (l3 + 2))]) (sk := []) rfl ⟨l1, j_scr xs (l3 + 1), j_scr xs (l3 + 2), rfl, c7, hp⟩ (Nat.le_of_ble_eq_true rfl) hc hs ?_
  rintro rs S' V' ⟨z0, z1, z2, r, e1, rfl, q⟩
  simp only [List.cons.injEq, Prod.mk.injEq, and_true, true_and] at e1
  obtain ⟨rfl, rfl, rfl⟩ := e1
  exact j_pick [0, 1, 2, 3] rfl (k r S' V' q)
theorem tL_849 {C : qCx} {G : jG} {S : jS} {V : jH} {nc ns : Nat} {l1 l2 l3 s0 : Int} {b L : Nat} {xs : Nat → Int32} {mc ms : Nat} {pp : Int → Int → Int → jS → jH → Prop} {qq : Int → Int → Int → jS → jH → Int → jS → jH → Prop} (h : xL C G) (hX : j_X C G b L xs) (hrm : C.2.2.2.1.frames = 10 ∧ C.2.2.2.1.locals = 396) (c1 : -2147483648 ≤ l3 + 1 ∧ l3 + 1 ≤ 2147483647) (c2 : 0 ≤ l3 + 1) (c3 : l3 + 1 < (L : Int)) (c4 : -2147483648 ≤ l3 + 2 ∧ l3 + 2 ≤ 2147483647) (c5 : 0 ≤ l3 + 2) (c6 : l3 + 2 < (L : Int)) (c7 : S.1 l2 = 33) (hM : M13_47 C.2.1 mc ms pp qq) (hp : pp l2 (j_scr xs (l3 + 1)) (j_scr xs (l3 + 2)) S V) (hc : nc + mc ≤ C.2.2.2.1.cells) (hs : ns + ms ≤ C.2.2.2.1.slots) (k : ∀ (r : Int) (S' : jS) (V' : jH), qq l2 (j_scr xs (l3 + 1)) (j_scr xs (l3 + 2)) S V r S' V' → j_ok n_KT 4 C G 864 [(0, (9, (b : Int))), (1, (2, l1)), (2, (2, l2)), (3, (0, l3))] [(0, r)] S' V' (nc + mc) (ns + ms)) : j_ok n_KT 4 C G 849 [(0, (9, (b : Int))), (1, (2, l1)), (2, (2, l2)), (3, (0, l3))] [(0, s0)] S V nc ns := by
  have E := n_E h
  refine j_pop E dL_849 rfl ?_
  refine j_aload_n E dL_850 rfl 2 rfl ?_
  refine j_aload_nR E dL_851 rfl 0 rfl ?_
  refine j_iload_n E dL_852 rfl 3 rfl ?_
  refine j_iconst E dL_853 (by decide) ?_
  refine j_iadd E dL_854 c1 ?_
  refine j_rld E hX dL_855 c2 c3 ?_
  refine j_aload_nR E dL_856 rfl 0 rfl ?_
  refine j_iload_n E dL_857 rfl 3 rfl ?_
  refine j_iconst E dL_858 (by decide) ?_
  refine j_iadd E dL_859 c4 ?_
  refine j_rld E hX dL_860 c5 c6 ?_
  refine j_call E (KL_861 h hrm hM) dL_861 (a := [(2, l2), (0, j_scr xs (l3 + 1)), (0, j_scr xs (l3 + 2))]) (sk := []) rfl ⟨l2, j_scr xs (l3 + 1), j_scr xs (l3 + 2), rfl, c7, hp⟩ (Nat.le_of_ble_eq_true rfl) hc hs ?_
  rintro rs S' V' ⟨z0, z1, z2, r, e1, rfl, q⟩
  simp only [List.cons.injEq, Prod.mk.injEq, and_true, true_and] at e1
  obtain ⟨rfl, rfl, rfl⟩ := e1
  exact j_pick [0, 1, 2, 3] rfl (k r S' V' q)
theorem tL_864 {C : qCx} {G : jG} {S : jS} {V : jH} {nc ns : Nat} {l1 l2 l3 s0 : Int} {b L : Nat} {xs : Nat → Int32} (h : xL C G) (hX : j_X C G b L xs)  (k : j_ok n_KT 4 C G 999 [(0, (9, (b : Int))), (1, (2, l1)), (2, (2, l2)), (3, (0, l3))] [] S V nc ns) : j_ok n_KT 4 C G 864 [(0, (9, (b : Int))), (1, (2, l1)), (2, (2, l2)), (3, (0, l3))] [(0, s0)] S V nc ns := by
  have E := n_E h
  refine j_pop E dL_864 rfl ?_
  refine j_goto E dL_865 (t := 999) rfl ?_
  exact j_pick [0, 1, 2, 3] rfl k
theorem tL_868 {C : qCx} {G : jG} {S : jS} {V : jH} {nc ns : Nat} {l1 l2 l3 : Int} {b L : Nat} {xs : Nat → Int32} {mc ms : Nat} {pp : Int → Int → jS → jH → Prop} {qq : Int → Int → jS → jH → Int → jS → jH → Prop} (h : xL C G) (hX : j_X C G b L xs) (hrm : C.2.2.2.1.frames = 10 ∧ C.2.2.2.1.locals = 396) (c1 : -2147483648 ≤ l3 + 1 ∧ l3 + 1 ≤ 2147483647) (c2 : 0 ≤ l3 + 1) (c3 : l3 + 1 < (L : Int)) (c4 : S.1 l1 = 31) (hM : M1_20 C.2.1 mc ms pp qq) (hp : pp l1 (j_scr xs (l3 + 1)) S V) (hc : nc + mc ≤ C.2.2.2.1.cells) (hs : ns + ms ≤ C.2.2.2.1.slots) (k : ∀ (r : Int) (S' : jS) (V' : jH), qq l1 (j_scr xs (l3 + 1)) S V r S' V' → j_ok n_KT 4 C G 877 [(0, (9, (b : Int))), (1, (2, l1)), (2, (2, l2)), (3, (0, l3))] [(0, r)] S' V' (nc + mc) (ns + ms)) : j_ok n_KT 4 C G 868 [(0, (9, (b : Int))), (1, (2, l1)), (2, (2, l2)), (3, (0, l3))] [] S V nc ns := by
  have E := n_E h
  refine j_aload_n E dL_868 rfl 1 rfl ?_
  refine j_aload_nR E dL_869 rfl 0 rfl ?_
  refine j_iload_n E dL_870 rfl 3 rfl ?_
  refine j_iconst E dL_871 (by decide) ?_
  refine j_iadd E dL_872 c1 ?_
  refine j_rld E hX dL_873 c2 c3 ?_
  refine j_call E (KL_874 h hrm hM) dL_874 (a := [(2, l1), (0, j_scr xs (l3 + 1))]) (sk := []) rfl ⟨l1, j_scr xs (l3 + 1), rfl, c4, hp⟩ (Nat.le_of_ble_eq_true rfl) hc hs ?_
  rintro rs S' V' ⟨z0, z1, r, e1, rfl, q⟩
  simp only [List.cons.injEq, Prod.mk.injEq, and_true, true_and] at e1
  obtain ⟨rfl, rfl⟩ := e1
  exact j_pick [0, 1, 2, 3] rfl (k r S' V' q)
theorem tL_877 {C : qCx} {G : jG} {S : jS} {V : jH} {nc ns : Nat} {l1 l2 l3 s0 : Int} {b L : Nat} {xs : Nat → Int32} {mc ms : Nat} {pp : Int → Int → jS → jH → Prop} {qq : Int → Int → jS → jH → Int → jS → jH → Prop} (h : xL C G) (hX : j_X C G b L xs) (hrm : C.2.2.2.1.frames = 10 ∧ C.2.2.2.1.locals = 396) (c1 : -2147483648 ≤ l3 + 1 ∧ l3 + 1 ≤ 2147483647) (c2 : 0 ≤ l3 + 1) (c3 : l3 + 1 < (L : Int)) (c4 : S.1 l2 = 33) (hM : M13_48 C.2.1 mc ms pp qq) (hp : pp l2 (j_scr xs (l3 + 1)) S V) (hc : nc + mc ≤ C.2.2.2.1.cells) (hs : ns + ms ≤ C.2.2.2.1.slots) (k : ∀ (r : Int) (S' : jS) (V' : jH), qq l2 (j_scr xs (l3 + 1)) S V r S' V' → j_ok n_KT 4 C G 887 [(0, (9, (b : Int))), (1, (2, l1)), (2, (2, l2)), (3, (0, l3))] [(0, r)] S' V' (nc + mc) (ns + ms)) : j_ok n_KT 4 C G 877 [(0, (9, (b : Int))), (1, (2, l1)), (2, (2, l2)), (3, (0, l3))] [(0, s0)] S V nc ns := by
  have E := n_E h
  refine j_pop E dL_877 rfl ?_
  refine j_aload_n E dL_878 rfl 2 rfl ?_
  refine j_aload_nR E dL_879 rfl 0 rfl ?_
  refine j_iload_n E dL_880 rfl 3 rfl ?_
  refine j_iconst E dL_881 (by decide) ?_
  refine j_iadd E dL_882 c1 ?_
  refine j_rld E hX dL_883 c2 c3 ?_
  refine j_call E (KL_884 h hrm hM) dL_884 (a := [(2, l2), (0, j_scr xs (l3 + 1))]) (sk := []) rfl ⟨l2, j_scr xs (l3 + 1), rfl, c4, hp⟩ (Nat.le_of_ble_eq_true rfl) hc hs ?_
  rintro rs S' V' ⟨z0, z1, r, e1, rfl, q⟩
  simp only [List.cons.injEq, Prod.mk.injEq, and_true, true_and] at e1
  obtain ⟨rfl, rfl⟩ := e1
  exact j_pick [0, 1, 2, 3] rfl (k r S' V' q)
theorem tL_887 {C : qCx} {G : jG} {S : jS} {V : jH} {nc ns : Nat} {l1 l2 l3 s0 : Int} {b L : Nat} {xs : Nat → Int32} (h : xL C G) (hX : j_X C G b L xs)  (k : j_ok n_KT 4 C G 999 [(0, (9, (b : Int))), (1, (2, l1)), (2, (2, l2)), (3, (0, l3))] [] S V nc ns) : j_ok n_KT 4 C G 887 [(0, (9, (b : Int))), (1, (2, l1)), (2, (2, l2)), (3, (0, l3))] [(0, s0)] S V nc ns := by
  have E := n_E h
  refine j_pop E dL_887 rfl ?_
  refine j_goto E dL_888 (t := 999) rfl ?_
  exact j_pick [0, 1, 2, 3] rfl k
theorem tL_891 {C : qCx} {G : jG} {S : jS} {V : jH} {nc ns : Nat} {l1 l2 l3 : Int} {b L : Nat} {xs : Nat → Int32} {mc ms : Nat} {pp : Int → Int → jS → jH → Prop} {qq : Int → Int → jS → jH → Int → jS → jH → Prop} (h : xL C G) (hX : j_X C G b L xs) (hrm : C.2.2.2.1.frames = 10 ∧ C.2.2.2.1.locals = 396) (c1 : -2147483648 ≤ l3 + 1 ∧ l3 + 1 ≤ 2147483647) (c2 : 0 ≤ l3 + 1) (c3 : l3 + 1 < (L : Int)) (c4 : S.1 l1 = 31) (hM : M1_21 C.2.1 mc ms pp qq) (hp : pp l1 (j_scr xs (l3 + 1)) S V) (hc : nc + mc ≤ C.2.2.2.1.cells) (hs : ns + ms ≤ C.2.2.2.1.slots) (k : ∀ (r : Int) (S' : jS) (V' : jH), qq l1 (j_scr xs (l3 + 1)) S V r S' V' → j_ok n_KT 4 C G 900 [(0, (9, (b : Int))), (1, (2, l1)), (2, (2, l2)), (3, (0, l3))] [(0, r)] S' V' (nc + mc) (ns + ms)) : j_ok n_KT 4 C G 891 [(0, (9, (b : Int))), (1, (2, l1)), (2, (2, l2)), (3, (0, l3))] [] S V nc ns := by
  have E := n_E h
  refine j_aload_n E dL_891 rfl 1 rfl ?_
  refine j_aload_nR E dL_892 rfl 0 rfl ?_
  refine j_iload_n E dL_893 rfl 3 rfl ?_
  refine j_iconst E dL_894 (by decide) ?_
  refine j_iadd E dL_895 c1 ?_
  refine j_rld E hX dL_896 c2 c3 ?_
  refine j_call E (KL_897 h hrm hM) dL_897 (a := [(2, l1), (0, j_scr xs (l3 + 1))]) (sk := []) rfl ⟨l1, j_scr xs (l3 + 1), rfl, c4, hp⟩ (Nat.le_of_ble_eq_true rfl) hc hs ?_
  rintro rs S' V' ⟨z0, z1, r, e1, rfl, q⟩
  simp only [List.cons.injEq, Prod.mk.injEq, and_true, true_and] at e1
  obtain ⟨rfl, rfl⟩ := e1
  exact j_pick [0, 1, 2, 3] rfl (k r S' V' q)
theorem tL_900 {C : qCx} {G : jG} {S : jS} {V : jH} {nc ns : Nat} {l1 l2 l3 s0 : Int} {b L : Nat} {xs : Nat → Int32} {mc ms : Nat} {pp : Int → Int → jS → jH → Prop} {qq : Int → Int → jS → jH → Int → jS → jH → Prop} (h : xL C G) (hX : j_X C G b L xs) (hrm : C.2.2.2.1.frames = 10 ∧ C.2.2.2.1.locals = 396) (c1 : -2147483648 ≤ l3 + 1 ∧ l3 + 1 ≤ 2147483647) (c2 : 0 ≤ l3 + 1) (c3 : l3 + 1 < (L : Int)) (c4 : S.1 l2 = 33) (hM : M13_49 C.2.1 mc ms pp qq) (hp : pp l2 (j_scr xs (l3 + 1)) S V) (hc : nc + mc ≤ C.2.2.2.1.cells) (hs : ns + ms ≤ C.2.2.2.1.slots) (k : ∀ (r : Int) (S' : jS) (V' : jH), qq l2 (j_scr xs (l3 + 1)) S V r S' V' → j_ok n_KT 4 C G 910 [(0, (9, (b : Int))), (1, (2, l1)), (2, (2, l2)), (3, (0, l3))] [(0, r)] S' V' (nc + mc) (ns + ms)) : j_ok n_KT 4 C G 900 [(0, (9, (b : Int))), (1, (2, l1)), (2, (2, l2)), (3, (0, l3))] [(0, s0)] S V nc ns := by
  have E := n_E h
  refine j_pop E dL_900 rfl ?_
  refine j_aload_n E dL_901 rfl 2 rfl ?_
  refine j_aload_nR E dL_902 rfl 0 rfl ?_
  refine j_iload_n E dL_903 rfl 3 rfl ?_
  refine j_iconst E dL_904 (by decide) ?_
  refine j_iadd E dL_905 c1 ?_
  refine j_rld E hX dL_906 c2 c3 ?_
  refine j_call E (KL_907 h hrm hM) dL_907 (a := [(2, l2), (0, j_scr xs (l3 + 1))]) (sk := []) rfl ⟨l2, j_scr xs (l3 + 1), rfl, c4, hp⟩ (Nat.le_of_ble_eq_true rfl) hc hs ?_
  rintro rs S' V' ⟨z0, z1, r, e1, rfl, q⟩
  simp only [List.cons.injEq, Prod.mk.injEq, and_true, true_and] at e1
  obtain ⟨rfl, rfl⟩ := e1
  exact j_pick [0, 1, 2, 3] rfl (k r S' V' q)
theorem tL_910 {C : qCx} {G : jG} {S : jS} {V : jH} {nc ns : Nat} {l1 l2 l3 s0 : Int} {b L : Nat} {xs : Nat → Int32} (h : xL C G) (hX : j_X C G b L xs)  (k : j_ok n_KT 4 C G 999 [(0, (9, (b : Int))), (1, (2, l1)), (2, (2, l2)), (3, (0, l3))] [] S V nc ns) : j_ok n_KT 4 C G 910 [(0, (9, (b : Int))), (1, (2, l1)), (2, (2, l2)), (3, (0, l3))] [(0, s0)] S V nc ns := by
  have E := n_E h
  refine j_pop E dL_910 rfl ?_
  refine j_goto E dL_911 (t := 999) rfl ?_
  exact j_pick [0, 1, 2, 3] rfl k
theorem tL_914 {C : qCx} {G : jG} {S : jS} {V : jH} {nc ns : Nat} {l1 l2 l3 : Int} {b L : Nat} {xs : Nat → Int32} {mc ms : Nat} {pp : Int → Int → jS → jH → Prop} {qq : Int → Int → jS → jH → Int → jS → jH → Prop} (h : xL C G) (hX : j_X C G b L xs) (hrm : C.2.2.2.1.frames = 10 ∧ C.2.2.2.1.locals = 396) (c1 : -2147483648 ≤ l3 + 1 ∧ l3 + 1 ≤ 2147483647) (c2 : 0 ≤ l3 + 1) (c3 : l3 + 1 < (L : Int)) (c4 : S.1 l1 = 31) (hM : M1_22 C.2.1 mc ms pp qq) (hp : pp l1 (j_scr xs (l3 + 1)) S V) (hc : nc + mc ≤ C.2.2.2.1.cells) (hs : ns + ms ≤ C.2.2.2.1.slots) (k : ∀ (r : Int) (S' : jS) (V' : jH), qq l1 (j_scr xs (l3 + 1)) S V r S' V' → j_ok n_KT 4 C G 923 [(0, (9, (b : Int))), (1, (2, l1)), (2, (2, l2)), (3, (0, l3))] [(0, r)] S' V' (nc + mc) (ns + ms)) : j_ok n_KT 4 C G 914 [(0, (9, (b : Int))), (1, (2, l1)), (2, (2, l2)), (3, (0, l3))] [] S V nc ns := by
  have E := n_E h
  refine j_aload_n E dL_914 rfl 1 rfl ?_
  refine j_aload_nR E dL_915 rfl 0 rfl ?_
  refine j_iload_n E dL_916 rfl 3 rfl ?_
  refine j_iconst E dL_917 (by decide) ?_
  refine j_iadd E dL_918 c1 ?_
  refine j_rld E hX dL_919 c2 c3 ?_
  refine j_call E (KL_920 h hrm hM) dL_920 (a := [(2, l1), (0, j_scr xs (l3 + 1))]) (sk := []) rfl ⟨l1, j_scr xs (l3 + 1), rfl, c4, hp⟩ (Nat.le_of_ble_eq_true rfl) hc hs ?_
  rintro rs S' V' ⟨z0, z1, r, e1, rfl, q⟩
  simp only [List.cons.injEq, Prod.mk.injEq, and_true, true_and] at e1
  obtain ⟨rfl, rfl⟩ := e1
  exact j_pick [0, 1, 2, 3] rfl (k r S' V' q)
theorem tL_923 {C : qCx} {G : jG} {S : jS} {V : jH} {nc ns : Nat} {l1 l2 l3 s0 : Int} {b L : Nat} {xs : Nat → Int32} {mc ms : Nat} {pp : Int → Int → jS → jH → Prop} {qq : Int → Int → jS → jH → Int → jS → jH → Prop} (h : xL C G) (hX : j_X C G b L xs) (hrm : C.2.2.2.1.frames = 10 ∧ C.2.2.2.1.locals = 396) (c1 : -2147483648 ≤ l3 + 1 ∧ l3 + 1 ≤ 2147483647) (c2 : 0 ≤ l3 + 1) (c3 : l3 + 1 < (L : Int)) (c4 : S.1 l2 = 33) (hM : M13_50 C.2.1 mc ms pp qq) (hp : pp l2 (j_scr xs (l3 + 1)) S V) (hc : nc + mc ≤ C.2.2.2.1.cells) (hs : ns + ms ≤ C.2.2.2.1.slots) (k : ∀ (r : Int) (S' : jS) (V' : jH), qq l2 (j_scr xs (l3 + 1)) S V r S' V' → j_ok n_KT 4 C G 933 [(0, (9, (b : Int))), (1, (2, l1)), (2, (2, l2)), (3, (0, l3))] [(0, r)] S' V' (nc + mc) (ns + ms)) : j_ok n_KT 4 C G 923 [(0, (9, (b : Int))), (1, (2, l1)), (2, (2, l2)), (3, (0, l3))] [(0, s0)] S V nc ns := by
  have E := n_E h
  refine j_pop E dL_923 rfl ?_
  refine j_aload_n E dL_924 rfl 2 rfl ?_
  refine j_aload_nR E dL_925 rfl 0 rfl ?_
  refine j_iload_n E dL_926 rfl 3 rfl ?_
  refine j_iconst E dL_927 (by decide) ?_
  refine j_iadd E dL_928 c1 ?_
  refine j_rld E hX dL_929 c2 c3 ?_
  refine j_call E (KL_930 h hrm hM) dL_930 (a := [(2, l2), (0, j_scr xs (l3 + 1))]) (sk := []) rfl ⟨l2, j_scr xs (l3 + 1), rfl, c4, hp⟩ (Nat.le_of_ble_eq_true rfl) hc hs ?_
  rintro rs S' V' ⟨z0, z1, r, e1, rfl, q⟩
  simp only [List.cons.injEq, Prod.mk.injEq, and_true, true_and] at e1
  obtain ⟨rfl, rfl⟩ := e1
  exact j_pick [0, 1, 2, 3] rfl (k r S' V' q)
theorem tL_933 {C : qCx} {G : jG} {S : jS} {V : jH} {nc ns : Nat} {l1 l2 l3 s0 : Int} {b L : Nat} {xs : Nat → Int32} (h : xL C G) (hX : j_X C G b L xs)  (k : j_ok n_KT 4 C G 999 [(0, (9, (b : Int))), (1, (2, l1)), (2, (2, l2)), (3, (0, l3))] [] S V nc ns) : j_ok n_KT 4 C G 933 [(0, (9, (b : Int))), (1, (2, l1)), (2, (2, l2)), (3, (0, l3))] [(0, s0)] S V nc ns := by
  have E := n_E h
  refine j_pop E dL_933 rfl ?_
  refine j_goto E dL_934 (t := 999) rfl ?_
  exact j_pick [0, 1, 2, 3] rfl k
theorem tL_937 {C : qCx} {G : jG} {S : jS} {V : jH} {nc ns : Nat} {l1 l2 l3 : Int} {b L : Nat} {xs : Nat → Int32} {mc ms : Nat} {pp : Int → jS → jH → Prop} {qq : Int → jS → jH → Int → jS → jH → Prop} (h : xL C G) (hX : j_X C G b L xs) (hrm : C.2.2.2.1.frames = 10 ∧ C.2.2.2.1.locals = 396) (c1 : S.1 l1 = 31) (hM : M1_23 C.2.1 mc ms pp qq) (hp : pp l1 S V) (hc : nc + mc ≤ C.2.2.2.1.cells) (hs : ns + ms ≤ C.2.2.2.1.slots) (k : ∀ (r : Int) (S' : jS) (V' : jH), qq l1 S V r S' V' → j_ok n_KT 4 C G 941 [(0, (9, (b : Int))), (1, (2, l1)), (2, (2, l2)), (3, (0, l3))] [(0, r)] S' V' (nc + mc) (ns + ms)) : j_ok n_KT 4 C G 937 [(0, (9, (b : Int))), (1, (2, l1)), (2, (2, l2)), (3, (0, l3))] [] S V nc ns := by
  have E := n_E h
  refine j_aload_n E dL_937 rfl 1 rfl ?_
  refine j_call E (KL_938 h hrm hM) dL_938 (a := [(2, l1)]) (sk := []) rfl ⟨l1, rfl, c1, hp⟩ (Nat.le_of_ble_eq_true rfl) hc hs ?_
  rintro rs S' V' ⟨z0, r, e1, rfl, q⟩
  simp only [List.cons.injEq, Prod.mk.injEq, and_true, true_and] at e1
  obtain ⟨rfl⟩ := e1
  exact j_pick [0, 1, 2, 3] rfl (k r S' V' q)
theorem tL_941 {C : qCx} {G : jG} {S : jS} {V : jH} {nc ns : Nat} {l1 l2 l3 s0 : Int} {b L : Nat} {xs : Nat → Int32} {mc ms : Nat} {pp : Int → jS → jH → Prop} {qq : Int → jS → jH → Int → jS → jH → Prop} (h : xL C G) (hX : j_X C G b L xs) (hrm : C.2.2.2.1.frames = 10 ∧ C.2.2.2.1.locals = 396) (c1 : S.1 l2 = 33) (hM : M13_51 C.2.1 mc ms pp qq) (hp : pp l2 S V) (hc : nc + mc ≤ C.2.2.2.1.cells) (hs : ns + ms ≤ C.2.2.2.1.slots) (k : ∀ (r : Int) (S' : jS) (V' : jH), qq l2 S V r S' V' → j_ok n_KT 4 C G 945 [(0, (9, (b : Int))), (1, (2, l1)), (2, (2, l2)), (3, (0, l3))] [(0, r), (0, s0)] S' V' (nc + mc) (ns + ms)) : j_ok n_KT 4 C G 941 [(0, (9, (b : Int))), (1, (2, l1)), (2, (2, l2)), (3, (0, l3))] [(0, s0)] S V nc ns := by
  have E := n_E h
  refine j_aload_n E dL_941 rfl 2 rfl ?_
  refine j_call E (KL_942 h hrm hM) dL_942 (a := [(2, l2)]) (sk := [(0, s0)]) rfl ⟨l2, rfl, c1, hp⟩ (Nat.le_of_ble_eq_true rfl) hc hs ?_
  rintro rs S' V' ⟨z0, r, e1, rfl, q⟩
  simp only [List.cons.injEq, Prod.mk.injEq, and_true, true_and] at e1
  obtain ⟨rfl⟩ := e1
  exact j_pick [0, 1, 2, 3] rfl (k r S' V' q)
theorem tL_945 {C : qCx} {G : jG} {S : jS} {V : jH} {nc ns : Nat} {l1 l2 l3 s0 s1 : Int} {b L : Nat} {xs : Nat → Int32} (h : xL C G) (hX : j_X C G b L xs)  (k : s1 = s0 → j_ok n_KT 4 C G 999 [(0, (9, (b : Int))), (1, (2, l1)), (2, (2, l2)), (3, (0, l3))] [] S V nc ns) (k' : ¬ s1 = s0 → j_ok n_KT 4 C G 948 [] [] S V nc ns) : j_ok n_KT 4 C G 945 [(0, (9, (b : Int))), (1, (2, l1)), (2, (2, l2)), (3, (0, l3))] [(0, s0), (0, s1)] S V nc ns := by
  have E := n_E h
  exact j_icmp_eq E dL_945 (t := 999) rfl (fun q => j_pick [0, 1, 2, 3] rfl (k q)) (fun q => j_pick [] rfl (k' q))
theorem tL_948 {C : qCx} {G : jG} {S : jS} {V : jH} {nc ns : Nat} {b L : Nat} {xs : Nat → Int32} {mc ms : Nat} {qf : Int → jS → jH → Prop} (h : xL C G) (hX : j_X C G b L xs)  (R : j_Rz n_KT 4 C G b_L mc ms qf) (q : qf 0 S V) (hc : nc ≤ mc) (hs : ns ≤ ms) : j_ok n_KT 4 C G 948 [] [] S V nc ns := by
  have E := n_E h
  refine j_iconst E dL_948 (by decide) ?_
  exact R _ _ _ _ _ _ _ dL_949 (by decide) q hc hs
theorem tL_950 {C : qCx} {G : jG} {S : jS} {V : jH} {nc ns : Nat} {l1 l2 l3 : Int} {b L : Nat} {xs : Nat → Int32} {mc ms : Nat} {pp : Int → jS → jH → Prop} {qq : Int → jS → jH → Int → jS → jH → Prop} (h : xL C G) (hX : j_X C G b L xs) (hrm : C.2.2.2.1.frames = 10 ∧ C.2.2.2.1.locals = 396) (c1 : S.1 l1 = 31) (hM : M1_24 C.2.1 mc ms pp qq) (hp : pp l1 S V) (hc : nc + mc ≤ C.2.2.2.1.cells) (hs : ns + ms ≤ C.2.2.2.1.slots) (k : ∀ (r : Int) (S' : jS) (V' : jH), qq l1 S V r S' V' → j_ok n_KT 4 C G 954 [(0, (9, (b : Int))), (1, (2, l1)), (2, (2, l2)), (3, (0, l3))] [(0, r)] S' V' (nc + mc) (ns + ms)) : j_ok n_KT 4 C G 950 [(0, (9, (b : Int))), (1, (2, l1)), (2, (2, l2)), (3, (0, l3))] [] S V nc ns := by
  have E := n_E h
  refine j_aload_n E dL_950 rfl 1 rfl ?_
  refine j_call E (KL_951 h hrm hM) dL_951 (a := [(2, l1)]) (sk := []) rfl ⟨l1, rfl, c1, hp⟩ (Nat.le_of_ble_eq_true rfl) hc hs ?_
  rintro rs S' V' ⟨z0, r, e1, rfl, q⟩
  simp only [List.cons.injEq, Prod.mk.injEq, and_true, true_and] at e1
  obtain ⟨rfl⟩ := e1
  exact j_pick [0, 1, 2, 3] rfl (k r S' V' q)
theorem tL_954 {C : qCx} {G : jG} {S : jS} {V : jH} {nc ns : Nat} {l1 l2 l3 s0 : Int} {b L : Nat} {xs : Nat → Int32} {mc ms : Nat} {pp : Int → jS → jH → Prop} {qq : Int → jS → jH → Int → jS → jH → Prop} (h : xL C G) (hX : j_X C G b L xs) (hrm : C.2.2.2.1.frames = 10 ∧ C.2.2.2.1.locals = 396) (c1 : S.1 l2 = 33) (hM : M13_52 C.2.1 mc ms pp qq) (hp : pp l2 S V) (hc : nc + mc ≤ C.2.2.2.1.cells) (hs : ns + ms ≤ C.2.2.2.1.slots) (k : ∀ (r : Int) (S' : jS) (V' : jH), qq l2 S V r S' V' → j_ok n_KT 4 C G 959 [(0, (9, (b : Int))), (1, (2, l1)), (2, (2, l2)), (3, (0, l3))] [(0, r)] S' V' (nc + mc) (ns + ms)) : j_ok n_KT 4 C G 954 [(0, (9, (b : Int))), (1, (2, l1)), (2, (2, l2)), (3, (0, l3))] [(0, s0)] S V nc ns := by
  have E := n_E h
  refine j_pop E dL_954 rfl ?_
  refine j_aload_n E dL_955 rfl 2 rfl ?_
  refine j_call E (KL_956 h hrm hM) dL_956 (a := [(2, l2)]) (sk := []) rfl ⟨l2, rfl, c1, hp⟩ (Nat.le_of_ble_eq_true rfl) hc hs ?_
  rintro rs S' V' ⟨z0, r, e1, rfl, q⟩
  simp only [List.cons.injEq, Prod.mk.injEq, and_true, true_and] at e1
  obtain ⟨rfl⟩ := e1
  exact j_pick [0, 1, 2, 3] rfl (k r S' V' q)
theorem tL_959 {C : qCx} {G : jG} {S : jS} {V : jH} {nc ns : Nat} {l1 l2 l3 s0 : Int} {b L : Nat} {xs : Nat → Int32} (h : xL C G) (hX : j_X C G b L xs)  (k : j_ok n_KT 4 C G 999 [(0, (9, (b : Int))), (1, (2, l1)), (2, (2, l2)), (3, (0, l3))] [] S V nc ns) : j_ok n_KT 4 C G 959 [(0, (9, (b : Int))), (1, (2, l1)), (2, (2, l2)), (3, (0, l3))] [(0, s0)] S V nc ns := by
  have E := n_E h
  refine j_pop E dL_959 rfl ?_
  refine j_goto E dL_960 (t := 999) rfl ?_
  exact j_pick [0, 1, 2, 3] rfl k
theorem tL_963 {C : qCx} {G : jG} {S : jS} {V : jH} {nc ns : Nat} {l1 l2 l3 : Int} {b L : Nat} {xs : Nat → Int32} {mc ms : Nat} {pp : Int → jS → jH → Prop} {qq : Int → jS → jH → Int → jS → jH → Prop} (h : xL C G) (hX : j_X C G b L xs) (hrm : C.2.2.2.1.frames = 10 ∧ C.2.2.2.1.locals = 396) (c1 : S.1 l1 = 31) (hM : M1_25 C.2.1 mc ms pp qq) (hp : pp l1 S V) (hc : nc + mc ≤ C.2.2.2.1.cells) (hs : ns + ms ≤ C.2.2.2.1.slots) (k : ∀ (r : Int) (S' : jS) (V' : jH), qq l1 S V r S' V' → j_ok n_KT 4 C G 967 [(0, (9, (b : Int))), (1, (2, l1)), (2, (2, l2)), (3, (0, l3))] [(0, r)] S' V' (nc + mc) (ns + ms)) : j_ok n_KT 4 C G 963 [(0, (9, (b : Int))), (1, (2, l1)), (2, (2, l2)), (3, (0, l3))] [] S V nc ns := by
  have E := n_E h
  refine j_aload_n E dL_963 rfl 1 rfl ?_
  refine j_call E (KL_964 h hrm hM) dL_964 (a := [(2, l1)]) (sk := []) rfl ⟨l1, rfl, c1, hp⟩ (Nat.le_of_ble_eq_true rfl) hc hs ?_
  rintro rs S' V' ⟨z0, r, e1, rfl, q⟩
  simp only [List.cons.injEq, Prod.mk.injEq, and_true, true_and] at e1
  obtain ⟨rfl⟩ := e1
  exact j_pick [0, 1, 2, 3] rfl (k r S' V' q)
theorem tL_967 {C : qCx} {G : jG} {S : jS} {V : jH} {nc ns : Nat} {l1 l2 l3 s0 : Int} {b L : Nat} {xs : Nat → Int32} {mc ms : Nat} {pp : Int → jS → jH → Prop} {qq : Int → jS → jH → Int → jS → jH → Prop} (h : xL C G) (hX : j_X C G b L xs) (hrm : C.2.2.2.1.frames = 10 ∧ C.2.2.2.1.locals = 396) (c1 : S.1 l2 = 33) (hM : M13_53 C.2.1 mc ms pp qq) (hp : pp l2 S V) (hc : nc + mc ≤ C.2.2.2.1.cells) (hs : ns + ms ≤ C.2.2.2.1.slots) (k : ∀ (r : Int) (S' : jS) (V' : jH), qq l2 S V r S' V' → j_ok n_KT 4 C G 972 [(0, (9, (b : Int))), (1, (2, l1)), (2, (2, l2)), (3, (0, l3))] [(0, r)] S' V' (nc + mc) (ns + ms)) : j_ok n_KT 4 C G 967 [(0, (9, (b : Int))), (1, (2, l1)), (2, (2, l2)), (3, (0, l3))] [(0, s0)] S V nc ns := by
  have E := n_E h
  refine j_pop E dL_967 rfl ?_
  refine j_aload_n E dL_968 rfl 2 rfl ?_
  refine j_call E (KL_969 h hrm hM) dL_969 (a := [(2, l2)]) (sk := []) rfl ⟨l2, rfl, c1, hp⟩ (Nat.le_of_ble_eq_true rfl) hc hs ?_
  rintro rs S' V' ⟨z0, r, e1, rfl, q⟩
  simp only [List.cons.injEq, Prod.mk.injEq, and_true, true_and] at e1
  obtain ⟨rfl⟩ := e1
  exact j_pick [0, 1, 2, 3] rfl (k r S' V' q)
theorem tL_972 {C : qCx} {G : jG} {S : jS} {V : jH} {nc ns : Nat} {l1 l2 l3 s0 : Int} {b L : Nat} {xs : Nat → Int32} (h : xL C G) (hX : j_X C G b L xs)  (k : j_ok n_KT 4 C G 999 [(0, (9, (b : Int))), (1, (2, l1)), (2, (2, l2)), (3, (0, l3))] [] S V nc ns) : j_ok n_KT 4 C G 972 [(0, (9, (b : Int))), (1, (2, l1)), (2, (2, l2)), (3, (0, l3))] [(0, s0)] S V nc ns := by
  have E := n_E h
  refine j_pop E dL_972 rfl ?_
  refine j_goto E dL_973 (t := 999) rfl ?_
  exact j_pick [0, 1, 2, 3] rfl k
theorem tL_976 {C : qCx} {G : jG} {S : jS} {V : jH} {nc ns : Nat} {l1 l2 l3 : Int} {b L : Nat} {xs : Nat → Int32} {mc ms : Nat} {pp : Int → Int → jS → jH → Prop} {qq : Int → Int → jS → jH → Int → jS → jH → Prop} (h : xL C G) (hX : j_X C G b L xs) (hrm : C.2.2.2.1.frames = 10 ∧ C.2.2.2.1.locals = 396) (c1 : -2147483648 ≤ l3 + 1 ∧ l3 + 1 ≤ 2147483647) (c2 : 0 ≤ l3 + 1) (c3 : l3 + 1 < (L : Int)) (c4 : S.1 l1 = 31) (hM : M1_26 C.2.1 mc ms pp qq) (hp : pp l1 (j_scr xs (l3 + 1)) S V) (hc : nc + mc ≤ C.2.2.2.1.cells) (hs : ns + ms ≤ C.2.2.2.1.slots) (k : ∀ (r : Int) (S' : jS) (V' : jH), qq l1 (j_scr xs (l3 + 1)) S V r S' V' → j_ok n_KT 4 C G 985 [(0, (9, (b : Int))), (1, (2, l1)), (2, (2, l2)), (3, (0, l3))] [(0, r)] S' V' (nc + mc) (ns + ms)) : j_ok n_KT 4 C G 976 [(0, (9, (b : Int))), (1, (2, l1)), (2, (2, l2)), (3, (0, l3))] [] S V nc ns := by
  have E := n_E h
  refine j_aload_n E dL_976 rfl 1 rfl ?_
  refine j_aload_nR E dL_977 rfl 0 rfl ?_
  refine j_iload_n E dL_978 rfl 3 rfl ?_
  refine j_iconst E dL_979 (by decide) ?_
  refine j_iadd E dL_980 c1 ?_
  refine j_rld E hX dL_981 c2 c3 ?_
  refine j_call E (KL_982 h hrm hM) dL_982 (a := [(2, l1), (0, j_scr xs (l3 + 1))]) (sk := []) rfl ⟨l1, j_scr xs (l3 + 1), rfl, c4, hp⟩ (Nat.le_of_ble_eq_true rfl) hc hs ?_
  rintro rs S' V' ⟨z0, z1, r, e1, rfl, q⟩
  simp only [List.cons.injEq, Prod.mk.injEq, and_true, true_and] at e1
  obtain ⟨rfl, rfl⟩ := e1
  exact j_pick [0, 1, 2, 3] rfl (k r S' V' q)
theorem tL_985 {C : qCx} {G : jG} {S : jS} {V : jH} {nc ns : Nat} {l1 l2 l3 s0 : Int} {b L : Nat} {xs : Nat → Int32} {mc ms : Nat} {pp : Int → Int → jS → jH → Prop} {qq : Int → Int → jS → jH → Int → jS → jH → Prop} (h : xL C G) (hX : j_X C G b L xs) (hrm : C.2.2.2.1.frames = 10 ∧ C.2.2.2.1.locals = 396) (c1 : -2147483648 ≤ l3 + 1 ∧ l3 + 1 ≤ 2147483647) (c2 : 0 ≤ l3 + 1) (c3 : l3 + 1 < (L : Int)) (c4 : S.1 l2 = 33) (hM : M13_54 C.2.1 mc ms pp qq) (hp : pp l2 (j_scr xs (l3 + 1)) S V) (hc : nc + mc ≤ C.2.2.2.1.cells) (hs : ns + ms ≤ C.2.2.2.1.slots) (k : ∀ (r : Int) (S' : jS) (V' : jH), qq l2 (j_scr xs (l3 + 1)) S V r S' V' → j_ok n_KT 4 C G 995 [(0, (9, (b : Int))), (1, (2, l1)), (2, (2, l2)), (3, (0, l3))] [(0, r)] S' V' (nc + mc) (ns + ms)) : j_ok n_KT 4 C G 985 [(0, (9, (b : Int))), (1, (2, l1)), (2, (2, l2)), (3, (0, l3))] [(0, s0)] S V nc ns := by
  have E := n_E h
  refine j_pop E dL_985 rfl ?_
  refine j_aload_n E dL_986 rfl 2 rfl ?_
  refine j_aload_nR E dL_987 rfl 0 rfl ?_
  refine j_iload_n E dL_988 rfl 3 rfl ?_
  refine j_iconst E dL_989 (by decide) ?_
  refine j_iadd E dL_990 c1 ?_
  refine j_rld E hX dL_991 c2 c3 ?_
  refine j_call E (KL_992 h hrm hM) dL_992 (a := [(2, l2), (0, j_scr xs (l3 + 1))]) (sk := []) rfl ⟨l2, j_scr xs (l3 + 1), rfl, c4, hp⟩ (Nat.le_of_ble_eq_true rfl) hc hs ?_
  rintro rs S' V' ⟨z0, z1, r, e1, rfl, q⟩
  simp only [List.cons.injEq, Prod.mk.injEq, and_true, true_and] at e1
  obtain ⟨rfl, rfl⟩ := e1
  exact j_pick [0, 1, 2, 3] rfl (k r S' V' q)
theorem tL_995 {C : qCx} {G : jG} {S : jS} {V : jH} {nc ns : Nat} {l1 l2 l3 s0 : Int} {b L : Nat} {xs : Nat → Int32} (h : xL C G) (hX : j_X C G b L xs)  (k : j_ok n_KT 4 C G 999 [(0, (9, (b : Int))), (1, (2, l1)), (2, (2, l2)), (3, (0, l3))] [] S V nc ns) : j_ok n_KT 4 C G 995 [(0, (9, (b : Int))), (1, (2, l1)), (2, (2, l2)), (3, (0, l3))] [(0, s0)] S V nc ns := by
  have E := n_E h
  refine j_pop E dL_995 rfl ?_
  refine j_goto E dL_996 (t := 999) rfl ?_
  exact j_pick [0, 1, 2, 3] rfl k
theorem tL_999 {C : qCx} {G : jG} {S : jS} {V : jH} {nc ns : Nat} {l1 l2 l3 : Int} {b L : Nat} {xs : Nat → Int32} (h : xL C G) (hX : j_X C G b L xs) (c1 : -2147483648 ≤ l3 + 5 ∧ l3 + 5 ≤ 2147483647) (k : j_ok n_KT 4 C G 18 [(0, (9, (b : Int))), (1, (2, l1)), (2, (2, l2)), (3, (0, l3 + 5))] [] S V nc ns) : j_ok n_KT 4 C G 999 [(0, (9, (b : Int))), (1, (2, l1)), (2, (2, l2)), (3, (0, l3))] [] S V nc ns := by
  have E := n_E h
  refine j_iinc E dL_999 (by decide) (by decide) 3 rfl (lo1 := [(0, (9, (b : Int))), (1, (2, l1)), (2, (2, l2))]) rfl c1 ?_
  refine j_goto E dL_1002 (t := 18) rfl ?_
  exact j_pick [1, 2, 3, 0] rfl k
theorem tL_1005 {C : qCx} {G : jG} {S : jS} {V : jH} {nc ns : Nat} {b L : Nat} {xs : Nat → Int32} {mc ms : Nat} {qf : Int → jS → jH → Prop} (h : xL C G) (hX : j_X C G b L xs)  (R : j_Rz n_KT 4 C G b_L mc ms qf) (q : qf 1 S V) (hc : nc ≤ mc) (hs : ns ≤ ms) : j_ok n_KT 4 C G 1005 [] [] S V nc ns := by
  have E := n_E h
  refine j_iconst E dL_1005 (by decide) ?_
  exact R _ _ _ _ _ _ _ dL_1006 (by decide) q hc hs
