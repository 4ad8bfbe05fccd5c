theorem kw_17 : Jvm.Cond.classLink "FieldOvensLaw" (7 : Nat) "FieldOvens" ∈ oG := oG_t (List.mem_of_getElem? (i := 17) (by decide +kernel)) rfl
theorem kw_18 : Jvm.Cond.instantiable "FieldOvens" (18 : Nat) ∈ oG := oG_t (List.mem_of_getElem? (i := 18) (by decide +kernel)) rfl
theorem kw_19 : Jvm.Cond.methodLink "FieldOvensLaw" (9 : Nat) ({ cls := "FieldOvens", name := "<init>", desc := "()V" } : Jvm.MethodName) ∈ oG := oG_t (List.mem_of_getElem? (i := 19) (by decide +kernel)) rfl
theorem kw_20 : Jvm.Cond.instanceMethod ({ cls := "FieldOvens", name := "<init>", desc := "()V" } : Jvm.MethodName) ∈ oG := oG_t (List.mem_of_getElem? (i := 20) (by decide +kernel)) rfl
theorem kw_21 : Jvm.Cond.code ({ cls := "FieldOvens", name := "<init>", desc := "()V" } : Jvm.MethodName) prog_1_method_1_code (1 : Nat) (Option.none : Option Jvm.ClassFile.FieldType) ∈ oG := oG_t (List.mem_of_getElem? (i := 21) (by decide +kernel)) rfl
theorem kw_343 : Jvm.Cond.methodLink "FieldOvensLaw" (15 : Nat) ({ cls := "FieldOvens", name := "letters", desc := "(J)I" } : Jvm.MethodName) ∈ oG := oG_t (List.mem_of_getElem? (i := 343) (by decide +kernel)) rfl
theorem kw_344 : Jvm.Cond.instanceMethod ({ cls := "FieldOvens", name := "letters", desc := "(J)I" } : Jvm.MethodName) ∈ oG := oG_t (List.mem_of_getElem? (i := 344) (by decide +kernel)) rfl
theorem kw_345 : Jvm.Cond.selects "FieldOvens" ({ cls := "FieldOvens", name := "letters", desc := "(J)I" } : Jvm.MethodName) ({ cls := "FieldOvens", name := "letters", desc := "(J)I" } : Jvm.MethodName) ∈ oG := oG_t (List.mem_of_getElem? (i := 345) (by decide +kernel)) rfl
theorem kw_346 : Jvm.Cond.code ({ cls := "FieldOvens", name := "letters", desc := "(J)I" } : Jvm.MethodName) prog_1_method_2_code (5 : Nat) (Option.some Jvm.ClassFile.FieldType.int) ∈ oG := oG_t (List.mem_of_getElem? (i := 346) (by decide +kernel)) rfl
theorem kw_354 : Jvm.Cond.methodLink "FieldOvensLaw" (20 : Nat) ({ cls := "FieldOvens", name := "blank", desc := "()I" } : Jvm.MethodName) ∈ oG := oG_t (List.mem_of_getElem? (i := 354) (by decide +kernel)) rfl
theorem kw_355 : Jvm.Cond.instanceMethod ({ cls := "FieldOvens", name := "blank", desc := "()I" } : Jvm.MethodName) ∈ oG := oG_t (List.mem_of_getElem? (i := 355) (by decide +kernel)) rfl
theorem kw_356 : Jvm.Cond.selects "FieldOvens" ({ cls := "FieldOvens", name := "blank", desc := "()I" } : Jvm.MethodName) ({ cls := "FieldOvens", name := "blank", desc := "()I" } : Jvm.MethodName) ∈ oG := oG_t (List.mem_of_getElem? (i := 356) (by decide +kernel)) rfl
theorem kw_357 : Jvm.Cond.code ({ cls := "FieldOvens", name := "blank", desc := "()I" } : Jvm.MethodName) prog_1_method_3_code (2 : Nat) (Option.some Jvm.ClassFile.FieldType.int) ∈ oG := oG_t (List.mem_of_getElem? (i := 357) (by decide +kernel)) rfl
theorem kw_358 : Jvm.Cond.methodLink "FieldOvensLaw" (25 : Nat) ({ cls := "FieldOvens", name := "fault", desc := "(I)I" } : Jvm.MethodName) ∈ oG := oG_t (List.mem_of_getElem? (i := 358) (by decide +kernel)) rfl
theorem kw_359 : Jvm.Cond.instanceMethod ({ cls := "FieldOvens", name := "fault", desc := "(I)I" } : Jvm.MethodName) ∈ oG := oG_t (List.mem_of_getElem? (i := 359) (by decide +kernel)) rfl
theorem kw_360 : Jvm.Cond.selects "FieldOvens" ({ cls := "FieldOvens", name := "fault", desc := "(I)I" } : Jvm.MethodName) ({ cls := "FieldOvens", name := "fault", desc := "(I)I" } : Jvm.MethodName) ∈ oG := oG_t (List.mem_of_getElem? (i := 360) (by decide +kernel)) rfl
theorem kw_361 : Jvm.Cond.code ({ cls := "FieldOvens", name := "fault", desc := "(I)I" } : Jvm.MethodName) prog_1_method_4_code (2 : Nat) (Option.some Jvm.ClassFile.FieldType.int) ∈ oG := oG_t (List.mem_of_getElem? (i := 361) (by decide +kernel)) rfl
theorem kw_431 : Jvm.Cond.methodLink "FieldOvensLaw" (30 : Nat) ({ cls := "FieldOvens", name := "land", desc := "()I" } : Jvm.MethodName) ∈ oG := oG_t (List.mem_of_getElem? (i := 431) (by decide +kernel)) rfl
theorem kw_432 : Jvm.Cond.instanceMethod ({ cls := "FieldOvens", name := "land", desc := "()I" } : Jvm.MethodName) ∈ oG := oG_t (List.mem_of_getElem? (i := 432) (by decide +kernel)) rfl
theorem kw_433 : Jvm.Cond.selects "FieldOvens" ({ cls := "FieldOvens", name := "land", desc := "()I" } : Jvm.MethodName) ({ cls := "FieldOvens", name := "land", desc := "()I" } : Jvm.MethodName) ∈ oG := oG_t (List.mem_of_getElem? (i := 433) (by decide +kernel)) rfl
theorem kw_434 : Jvm.Cond.code ({ cls := "FieldOvens", name := "land", desc := "()I" } : Jvm.MethodName) prog_1_method_5_code (1 : Nat) (Option.some Jvm.ClassFile.FieldType.int) ∈ oG := oG_t (List.mem_of_getElem? (i := 434) (by decide +kernel)) rfl
theorem kw_442 : Jvm.Cond.methodLink "FieldOvensLaw" (34 : Nat) ({ cls := "FieldOvens", name := "march", desc := "()I" } : Jvm.MethodName) ∈ oG := oG_t (List.mem_of_getElem? (i := 442) (by decide +kernel)) rfl
theorem kw_443 : Jvm.Cond.instanceMethod ({ cls := "FieldOvens", name := "march", desc := "()I" } : Jvm.MethodName) ∈ oG := oG_t (List.mem_of_getElem? (i := 443) (by decide +kernel)) rfl
theorem kw_444 : Jvm.Cond.selects "FieldOvens" ({ cls := "FieldOvens", name := "march", desc := "()I" } : Jvm.MethodName) ({ cls := "FieldOvens", name := "march", desc := "()I" } : Jvm.MethodName) ∈ oG := oG_t (List.mem_of_getElem? (i := 444) (by decide +kernel)) rfl
theorem kw_445 : Jvm.Cond.code ({ cls := "FieldOvens", name := "march", desc := "()I" } : Jvm.MethodName) prog_1_method_6_code (1 : Nat) (Option.some Jvm.ClassFile.FieldType.int) ∈ oG := oG_t (List.mem_of_getElem? (i := 445) (by decide +kernel)) rfl
theorem kw_446 : Jvm.Cond.methodLink "FieldOvensLaw" (38 : Nat) ({ cls := "FieldOvens", name := "plan", desc := "(III)I" } : Jvm.MethodName) ∈ oG := oG_t (List.mem_of_getElem? (i := 446) (by decide +kernel)) rfl
theorem kw_447 : Jvm.Cond.instanceMethod ({ cls := "FieldOvens", name := "plan", desc := "(III)I" } : Jvm.MethodName) ∈ oG := oG_t (List.mem_of_getElem? (i := 447) (by decide +kernel)) rfl
theorem kw_448 : Jvm.Cond.selects "FieldOvens" ({ cls := "FieldOvens", name := "plan", desc := "(III)I" } : Jvm.MethodName) ({ cls := "FieldOvens", name := "plan", desc := "(III)I" } : Jvm.MethodName) ∈ oG := oG_t (List.mem_of_getElem? (i := 448) (by decide +kernel)) rfl
theorem kw_449 : Jvm.Cond.code ({ cls := "FieldOvens", name := "plan", desc := "(III)I" } : Jvm.MethodName) prog_1_method_7_code (4 : Nat) (Option.some Jvm.ClassFile.FieldType.int) ∈ oG := oG_t (List.mem_of_getElem? (i := 449) (by decide +kernel)) rfl
theorem kw_495 : Jvm.Cond.methodLink "FieldOvensLaw" (43 : Nat) ({ cls := "FieldOvens", name := "tell", desc := "()I" } : Jvm.MethodName) ∈ oG := oG_t (List.mem_of_getElem? (i := 495) (by decide +kernel)) rfl
theorem kw_496 : Jvm.Cond.instanceMethod ({ cls := "FieldOvens", name := "tell", desc := "()I" } : Jvm.MethodName) ∈ oG := oG_t (List.mem_of_getElem? (i := 496) (by decide +kernel)) rfl
theorem kw_497 : Jvm.Cond.selects "FieldOvens" ({ cls := "FieldOvens", name := "tell", desc := "()I" } : Jvm.MethodName) ({ cls := "FieldOvens", name := "tell", desc := "()I" } : Jvm.MethodName) ∈ oG := oG_t (List.mem_of_getElem? (i := 497) (by decide +kernel)) rfl
theorem kw_498 : Jvm.Cond.code ({ cls := "FieldOvens", name := "tell", desc := "()I" } : Jvm.MethodName) prog_1_method_8_code (2 : Nat) (Option.some Jvm.ClassFile.FieldType.int) ∈ oG := oG_t (List.mem_of_getElem? (i := 498) (by decide +kernel)) rfl
theorem kw_499 : Jvm.Cond.methodLink "FieldOvensLaw" (47 : Nat) ({ cls := "FieldOvens", name := "as", desc := "(II)I" } : Jvm.MethodName) ∈ oG := oG_t (List.mem_of_getElem? (i := 499) (by decide +kernel)) rfl
theorem kw_500 : Jvm.Cond.instanceMethod ({ cls := "FieldOvens", name := "as", desc := "(II)I" } : Jvm.MethodName) ∈ oG := oG_t (List.mem_of_getElem? (i := 500) (by decide +kernel)) rfl
theorem kw_501 : Jvm.Cond.selects "FieldOvens" ({ cls := "FieldOvens", name := "as", desc := "(II)I" } : Jvm.MethodName) ({ cls := "FieldOvens", name := "as", desc := "(II)I" } : Jvm.MethodName) ∈ oG := oG_t (List.mem_of_getElem? (i := 501) (by decide +kernel)) rfl
theorem kw_502 : Jvm.Cond.code ({ cls := "FieldOvens", name := "as", desc := "(II)I" } : Jvm.MethodName) prog_1_method_9_code (4 : Nat) (Option.some Jvm.ClassFile.FieldType.int) ∈ oG := oG_t (List.mem_of_getElem? (i := 502) (by decide +kernel)) rfl
theorem kw_507 : Jvm.Cond.methodLink "FieldOvensLaw" (52 : Nat) ({ cls := "FieldOvens", name := "landTold", desc := "(I)I" } : Jvm.MethodName) ∈ oG := oG_t (List.mem_of_getElem? (i := 507) (by decide +kernel)) rfl
theorem kw_511 : Jvm.Cond.methodLink "FieldOvensLaw" (56 : Nat) ({ cls := "FieldOvens", name := "place", desc := "(II)I" } : Jvm.MethodName) ∈ oG := oG_t (List.mem_of_getElem? (i := 511) (by decide +kernel)) rfl
theorem kw_512 : Jvm.Cond.instanceMethod ({ cls := "FieldOvens", name := "place", desc := "(II)I" } : Jvm.MethodName) ∈ oG := oG_t (List.mem_of_getElem? (i := 512) (by decide +kernel)) rfl
theorem kw_513 : Jvm.Cond.selects "FieldOvens" ({ cls := "FieldOvens", name := "place", desc := "(II)I" } : Jvm.MethodName) ({ cls := "FieldOvens", name := "place", desc := "(II)I" } : Jvm.MethodName) ∈ oG := oG_t (List.mem_of_getElem? (i := 513) (by decide +kernel)) rfl
theorem kw_514 : Jvm.Cond.code ({ cls := "FieldOvens", name := "place", desc := "(II)I" } : Jvm.MethodName) prog_1_method_11_code (3 : Nat) (Option.some Jvm.ClassFile.FieldType.int) ∈ oG := oG_t (List.mem_of_getElem? (i := 514) (by decide +kernel)) rfl
theorem kw_519 : Jvm.Cond.methodLink "FieldOvensLaw" (60 : Nat) ({ cls := "FieldOvens", name := "flour", desc := "(II)I" } : Jvm.MethodName) ∈ oG := oG_t (List.mem_of_getElem? (i := 519) (by decide +kernel)) rfl
theorem kw_520 : Jvm.Cond.instanceMethod ({ cls := "FieldOvens", name := "flour", desc := "(II)I" } : Jvm.MethodName) ∈ oG := oG_t (List.mem_of_getElem? (i := 520) (by decide +kernel)) rfl
theorem kw_521 : Jvm.Cond.selects "FieldOvens" ({ cls := "FieldOvens", name := "flour", desc := "(II)I" } : Jvm.MethodName) ({ cls := "FieldOvens", name := "flour", desc := "(II)I" } : Jvm.MethodName) ∈ oG := oG_t (List.mem_of_getElem? (i := 521) (by decide +kernel)) rfl
theorem kw_522 : Jvm.Cond.code ({ cls := "FieldOvens", name := "flour", desc := "(II)I" } : Jvm.MethodName) prog_1_method_12_code (4 : Nat) (Option.some Jvm.ClassFile.FieldType.int) ∈ oG := oG_t (List.mem_of_getElem? (i := 522) (by decide +kernel)) rfl
theorem kw_523 : Jvm.Cond.methodLink "FieldOvensLaw" (64 : Nat) ({ cls := "FieldOvens", name := "marchTold", desc := "(II)I" } : Jvm.MethodName) ∈ oG := oG_t (List.mem_of_getElem? (i := 523) (by decide +kernel)) rfl
theorem kw_524 : Jvm.Cond.instanceMethod ({ cls := "FieldOvens", name := "marchTold", desc := "(II)I" } : Jvm.MethodName) ∈ oG := oG_t (List.mem_of_getElem? (i := 524) (by decide +kernel)) rfl
theorem kw_525 : Jvm.Cond.selects "FieldOvens" ({ cls := "FieldOvens", name := "marchTold", desc := "(II)I" } : Jvm.MethodName) ({ cls := "FieldOvens", name := "marchTold", desc := "(II)I" } : Jvm.MethodName) ∈ oG := oG_t (List.mem_of_getElem? (i := 525) (by decide +kernel)) rfl
theorem kw_526 : Jvm.Cond.code ({ cls := "FieldOvens", name := "marchTold", desc := "(II)I" } : Jvm.MethodName) prog_1_method_13_code (4 : Nat) (Option.some Jvm.ClassFile.FieldType.int) ∈ oG := oG_t (List.mem_of_getElem? (i := 526) (by decide +kernel)) rfl
theorem kw_531 : Jvm.Cond.methodLink "FieldOvensLaw" (68 : Nat) ({ cls := "FieldOvens", name := "at", desc := "(III)I" } : Jvm.MethodName) ∈ oG := oG_t (List.mem_of_getElem? (i := 531) (by decide +kernel)) rfl
theorem kw_532 : Jvm.Cond.instanceMethod ({ cls := "FieldOvens", name := "at", desc := "(III)I" } : Jvm.MethodName) ∈ oG := oG_t (List.mem_of_getElem? (i := 532) (by decide +kernel)) rfl
theorem kw_533 : Jvm.Cond.selects "FieldOvens" ({ cls := "FieldOvens", name := "at", desc := "(III)I" } : Jvm.MethodName) ({ cls := "FieldOvens", name := "at", desc := "(III)I" } : Jvm.MethodName) ∈ oG := oG_t (List.mem_of_getElem? (i := 533) (by decide +kernel)) rfl
theorem kw_534 : Jvm.Cond.code ({ cls := "FieldOvens", name := "at", desc := "(III)I" } : Jvm.MethodName) prog_1_method_14_code (5 : Nat) (Option.some Jvm.ClassFile.FieldType.int) ∈ oG := oG_t (List.mem_of_getElem? (i := 534) (by decide +kernel)) rfl
theorem kw_550 : Jvm.Cond.methodLink "FieldOvensLaw" (72 : Nat) ({ cls := "FieldOvens", name := "stand", desc := "(III)I" } : Jvm.MethodName) ∈ oG := oG_t (List.mem_of_getElem? (i := 550) (by decide +kernel)) rfl
theorem kw_551 : Jvm.Cond.instanceMethod ({ cls := "FieldOvens", name := "stand", desc := "(III)I" } : Jvm.MethodName) ∈ oG := oG_t (List.mem_of_getElem? (i := 551) (by decide +kernel)) rfl
theorem kw_552 : Jvm.Cond.selects "FieldOvens" ({ cls := "FieldOvens", name := "stand", desc := "(III)I" } : Jvm.MethodName) ({ cls := "FieldOvens", name := "stand", desc := "(III)I" } : Jvm.MethodName) ∈ oG := oG_t (List.mem_of_getElem? (i := 552) (by decide +kernel)) rfl
theorem kw_553 : Jvm.Cond.code ({ cls := "FieldOvens", name := "stand", desc := "(III)I" } : Jvm.MethodName) prog_1_method_15_code (8 : Nat) (Option.some Jvm.ClassFile.FieldType.int) ∈ oG := oG_t (List.mem_of_getElem? (i := 553) (by decide +kernel)) rfl
theorem kw_674 : Jvm.Cond.methodLink "FieldOvensLaw" (76 : Nat) ({ cls := "FieldOvens", name := "bakes", desc := "(IIII)I" } : Jvm.MethodName) ∈ oG := oG_t (List.mem_of_getElem? (i := 674) (by decide +kernel)) rfl
theorem kw_675 : Jvm.Cond.instanceMethod ({ cls := "FieldOvens", name := "bakes", desc := "(IIII)I" } : Jvm.MethodName) ∈ oG := oG_t (List.mem_of_getElem? (i := 675) (by decide +kernel)) rfl
theorem kw_676 : Jvm.Cond.selects "FieldOvens" ({ cls := "FieldOvens", name := "bakes", desc := "(IIII)I" } : Jvm.MethodName) ({ cls := "FieldOvens", name := "bakes", desc := "(IIII)I" } : Jvm.MethodName) ∈ oG := oG_t (List.mem_of_getElem? (i := 676) (by decide +kernel)) rfl
theorem kw_677 : Jvm.Cond.code ({ cls := "FieldOvens", name := "bakes", desc := "(IIII)I" } : Jvm.MethodName) prog_1_method_16_code (6 : Nat) (Option.some Jvm.ClassFile.FieldType.int) ∈ oG := oG_t (List.mem_of_getElem? (i := 677) (by decide +kernel)) rfl
theorem kw_682 : Jvm.Cond.methodLink "FieldOvensLaw" (81 : Nat) ({ cls := "FieldOvens", name := "hungry", desc := "(III)I" } : Jvm.MethodName) ∈ oG := oG_t (List.mem_of_getElem? (i := 682) (by decide +kernel)) rfl
theorem kw_683 : Jvm.Cond.instanceMethod ({ cls := "FieldOvens", name := "hungry", desc := "(III)I" } : Jvm.MethodName) ∈ oG := oG_t (List.mem_of_getElem? (i := 683) (by decide +kernel)) rfl
theorem kw_684 : Jvm.Cond.selects "FieldOvens" ({ cls := "FieldOvens", name := "hungry", desc := "(III)I" } : Jvm.MethodName) ({ cls := "FieldOvens", name := "hungry", desc := "(III)I" } : Jvm.MethodName) ∈ oG := oG_t (List.mem_of_getElem? (i := 684) (by decide +kernel)) rfl
theorem kw_685 : Jvm.Cond.code ({ cls := "FieldOvens", name := "hungry", desc := "(III)I" } : Jvm.MethodName) prog_1_method_17_code (5 : Nat) (Option.some Jvm.ClassFile.FieldType.int) ∈ oG := oG_t (List.mem_of_getElem? (i := 685) (by decide +kernel)) rfl
theorem kw_698 : Jvm.Cond.methodLink "FieldOvensLaw" (85 : Nat) ({ cls := "FieldOvens", name := "carried", desc := "(III)I" } : Jvm.MethodName) ∈ oG := oG_t (List.mem_of_getElem? (i := 698) (by decide +kernel)) rfl
theorem kw_699 : Jvm.Cond.instanceMethod ({ cls := "FieldOvens", name := "carried", desc := "(III)I" } : Jvm.MethodName) ∈ oG := oG_t (List.mem_of_getElem? (i := 699) (by decide +kernel)) rfl
theorem kw_700 : Jvm.Cond.selects "FieldOvens" ({ cls := "FieldOvens", name := "carried", desc := "(III)I" } : Jvm.MethodName) ({ cls := "FieldOvens", name := "carried", desc := "(III)I" } : Jvm.MethodName) ∈ oG := oG_t (List.mem_of_getElem? (i := 700) (by decide +kernel)) rfl
theorem kw_701 : Jvm.Cond.code ({ cls := "FieldOvens", name := "carried", desc := "(III)I" } : Jvm.MethodName) prog_1_method_18_code (5 : Nat) (Option.some Jvm.ClassFile.FieldType.int) ∈ oG := oG_t (List.mem_of_getElem? (i := 701) (by decide +kernel)) rfl
theorem kw_702 : Jvm.Cond.methodLink "FieldOvensLaw" (89 : Nat) ({ cls := "FieldOvens", name := "lack", desc := "(III)I" } : Jvm.MethodName) ∈ oG := oG_t (List.mem_of_getElem? (i := 702) (by decide +kernel)) rfl
theorem kw_703 : Jvm.Cond.instanceMethod ({ cls := "FieldOvens", name := "lack", desc := "(III)I" } : Jvm.MethodName) ∈ oG := oG_t (List.mem_of_getElem? (i := 703) (by decide +kernel)) rfl
theorem kw_704 : Jvm.Cond.selects "FieldOvens" ({ cls := "FieldOvens", name := "lack", desc := "(III)I" } : Jvm.MethodName) ({ cls := "FieldOvens", name := "lack", desc := "(III)I" } : Jvm.MethodName) ∈ oG := oG_t (List.mem_of_getElem? (i := 704) (by decide +kernel)) rfl
theorem kw_705 : Jvm.Cond.code ({ cls := "FieldOvens", name := "lack", desc := "(III)I" } : Jvm.MethodName) prog_1_method_19_code (5 : Nat) (Option.some Jvm.ClassFile.FieldType.int) ∈ oG := oG_t (List.mem_of_getElem? (i := 705) (by decide +kernel)) rfl
theorem kw_710 : Jvm.Cond.methodLink "FieldOvensLaw" (93 : Nat) ({ cls := "FieldOvens", name := "mean", desc := "(IIII)I" } : Jvm.MethodName) ∈ oG := oG_t (List.mem_of_getElem? (i := 710) (by decide +kernel)) rfl
theorem kw_711 : Jvm.Cond.instanceMethod ({ cls := "FieldOvens", name := "mean", desc := "(IIII)I" } : Jvm.MethodName) ∈ oG := oG_t (List.mem_of_getElem? (i := 711) (by decide +kernel)) rfl
theorem kw_712 : Jvm.Cond.selects "FieldOvens" ({ cls := "FieldOvens", name := "mean", desc := "(IIII)I" } : Jvm.MethodName) ({ cls := "FieldOvens", name := "mean", desc := "(IIII)I" } : Jvm.MethodName) ∈ oG := oG_t (List.mem_of_getElem? (i := 712) (by decide +kernel)) rfl
theorem kw_713 : Jvm.Cond.code ({ cls := "FieldOvens", name := "mean", desc := "(IIII)I" } : Jvm.MethodName) prog_1_method_20_code (10 : Nat) (Option.some Jvm.ClassFile.FieldType.int) ∈ oG := oG_t (List.mem_of_getElem? (i := 713) (by decide +kernel)) rfl
theorem kw_730 : Jvm.Cond.methodLink "FieldOvensLaw" (97 : Nat) ({ cls := "FieldOvens", name := "worst", desc := "(III)I" } : Jvm.MethodName) ∈ oG := oG_t (List.mem_of_getElem? (i := 730) (by decide +kernel)) rfl
theorem kw_731 : Jvm.Cond.instanceMethod ({ cls := "FieldOvens", name := "worst", desc := "(III)I" } : Jvm.MethodName) ∈ oG := oG_t (List.mem_of_getElem? (i := 731) (by decide +kernel)) rfl
theorem kw_732 : Jvm.Cond.selects "FieldOvens" ({ cls := "FieldOvens", name := "worst", desc := "(III)I" } : Jvm.MethodName) ({ cls := "FieldOvens", name := "worst", desc := "(III)I" } : Jvm.MethodName) ∈ oG := oG_t (List.mem_of_getElem? (i := 732) (by decide +kernel)) rfl
theorem kw_733 : Jvm.Cond.code ({ cls := "FieldOvens", name := "worst", desc := "(III)I" } : Jvm.MethodName) prog_1_method_21_code (9 : Nat) (Option.some Jvm.ClassFile.FieldType.int) ∈ oG := oG_t (List.mem_of_getElem? (i := 733) (by decide +kernel)) rfl
theorem kw_734 : Jvm.Cond.methodLink "FieldOvensLaw" (101 : Nat) ({ cls := "FieldOvens", name := "run", desc := "(IIII)I" } : Jvm.MethodName) ∈ oG := oG_t (List.mem_of_getElem? (i := 734) (by decide +kernel)) rfl
theorem kw_735 : Jvm.Cond.instanceMethod ({ cls := "FieldOvens", name := "run", desc := "(IIII)I" } : Jvm.MethodName) ∈ oG := oG_t (List.mem_of_getElem? (i := 735) (by decide +kernel)) rfl
theorem kw_736 : Jvm.Cond.selects "FieldOvens" ({ cls := "FieldOvens", name := "run", desc := "(IIII)I" } : Jvm.MethodName) ({ cls := "FieldOvens", name := "run", desc := "(IIII)I" } : Jvm.MethodName) ∈ oG := oG_t (List.mem_of_getElem? (i := 736) (by decide +kernel)) rfl
theorem kw_737 : Jvm.Cond.code ({ cls := "FieldOvens", name := "run", desc := "(IIII)I" } : Jvm.MethodName) prog_1_method_22_code (10 : Nat) (Option.some Jvm.ClassFile.FieldType.int) ∈ oG := oG_t (List.mem_of_getElem? (i := 737) (by decide +kernel)) rfl
theorem kw_745 : Jvm.Cond.methodLink "FieldOvensLaw" (105 : Nat) ({ cls := "FieldOvens", name := "ahead", desc := "(II)I" } : Jvm.MethodName) ∈ oG := oG_t (List.mem_of_getElem? (i := 745) (by decide +kernel)) rfl
theorem kw_746 : Jvm.Cond.instanceMethod ({ cls := "FieldOvens", name := "ahead", desc := "(II)I" } : Jvm.MethodName) ∈ oG := oG_t (List.mem_of_getElem? (i := 746) (by decide +kernel)) rfl
theorem kw_747 : Jvm.Cond.selects "FieldOvens" ({ cls := "FieldOvens", name := "ahead", desc := "(II)I" } : Jvm.MethodName) ({ cls := "FieldOvens", name := "ahead", desc := "(II)I" } : Jvm.MethodName) ∈ oG := oG_t (List.mem_of_getElem? (i := 747) (by decide +kernel)) rfl
theorem kw_748 : Jvm.Cond.code ({ cls := "FieldOvens", name := "ahead", desc := "(II)I" } : Jvm.MethodName) prog_1_method_23_code (6 : Nat) (Option.some Jvm.ClassFile.FieldType.int) ∈ oG := oG_t (List.mem_of_getElem? (i := 748) (by decide +kernel)) rfl
theorem kw_749 : Jvm.Cond.methodLink "FieldOvensLaw" (109 : Nat) ({ cls := "FieldOvens", name := "far", desc := "(II)I" } : Jvm.MethodName) ∈ oG := oG_t (List.mem_of_getElem? (i := 749) (by decide +kernel)) rfl
theorem kw_750 : Jvm.Cond.instanceMethod ({ cls := "FieldOvens", name := "far", desc := "(II)I" } : Jvm.MethodName) ∈ oG := oG_t (List.mem_of_getElem? (i := 750) (by decide +kernel)) rfl
theorem kw_751 : Jvm.Cond.selects "FieldOvens" ({ cls := "FieldOvens", name := "far", desc := "(II)I" } : Jvm.MethodName) ({ cls := "FieldOvens", name := "far", desc := "(II)I" } : Jvm.MethodName) ∈ oG := oG_t (List.mem_of_getElem? (i := 751) (by decide +kernel)) rfl
theorem kw_752 : Jvm.Cond.code ({ cls := "FieldOvens", name := "far", desc := "(II)I" } : Jvm.MethodName) prog_1_method_24_code (5 : Nat) (Option.some Jvm.ClassFile.FieldType.int) ∈ oG := oG_t (List.mem_of_getElem? (i := 752) (by decide +kernel)) rfl
theorem kw_757 : Jvm.Cond.methodLink "FieldOvensLaw" (113 : Nat) ({ cls := "FieldOvens", name := "burnt", desc := "(III)I" } : Jvm.MethodName) ∈ oG := oG_t (List.mem_of_getElem? (i := 757) (by decide +kernel)) rfl
theorem kw_758 : Jvm.Cond.instanceMethod ({ cls := "FieldOvens", name := "burnt", desc := "(III)I" } : Jvm.MethodName) ∈ oG := oG_t (List.mem_of_getElem? (i := 758) (by decide +kernel)) rfl
theorem kw_759 : Jvm.Cond.selects "FieldOvens" ({ cls := "FieldOvens", name := "burnt", desc := "(III)I" } : Jvm.MethodName) ({ cls := "FieldOvens", name := "burnt", desc := "(III)I" } : Jvm.MethodName) ∈ oG := oG_t (List.mem_of_getElem? (i := 759) (by decide +kernel)) rfl
theorem kw_760 : Jvm.Cond.code ({ cls := "FieldOvens", name := "burnt", desc := "(III)I" } : Jvm.MethodName) prog_1_method_25_code (10 : Nat) (Option.some Jvm.ClassFile.FieldType.int) ∈ oG := oG_t (List.mem_of_getElem? (i := 760) (by decide +kernel)) rfl
theorem kw_765 : Jvm.Cond.methodLink "FieldOvensLaw" (117 : Nat) ({ cls := "FieldOvens", name := "more", desc := "(III)I" } : Jvm.MethodName) ∈ oG := oG_t (List.mem_of_getElem? (i := 765) (by decide +kernel)) rfl
theorem kw_766 : Jvm.Cond.instanceMethod ({ cls := "FieldOvens", name := "more", desc := "(III)I" } : Jvm.MethodName) ∈ oG := oG_t (List.mem_of_getElem? (i := 766) (by decide +kernel)) rfl
theorem kw_767 : Jvm.Cond.selects "FieldOvens" ({ cls := "FieldOvens", name := "more", desc := "(III)I" } : Jvm.MethodName) ({ cls := "FieldOvens", name := "more", desc := "(III)I" } : Jvm.MethodName) ∈ oG := oG_t (List.mem_of_getElem? (i := 767) (by decide +kernel)) rfl
theorem kw_768 : Jvm.Cond.code ({ cls := "FieldOvens", name := "more", desc := "(III)I" } : Jvm.MethodName) prog_1_method_26_code (7 : Nat) (Option.some Jvm.ClassFile.FieldType.int) ∈ oG := oG_t (List.mem_of_getElem? (i := 768) (by decide +kernel)) rfl
theorem kw_790 : Jvm.Cond.methodLink "FieldOvensLaw" (121 : Nat) ({ cls := "FieldOvens", name := "which", desc := "(I)I" } : Jvm.MethodName) ∈ oG := oG_t (List.mem_of_getElem? (i := 790) (by decide +kernel)) rfl
theorem kw_791 : Jvm.Cond.instanceMethod ({ cls := "FieldOvens", name := "which", desc := "(I)I" } : Jvm.MethodName) ∈ oG := oG_t (List.mem_of_getElem? (i := 791) (by decide +kernel)) rfl
theorem kw_792 : Jvm.Cond.selects "FieldOvens" ({ cls := "FieldOvens", name := "which", desc := "(I)I" } : Jvm.MethodName) ({ cls := "FieldOvens", name := "which", desc := "(I)I" } : Jvm.MethodName) ∈ oG := oG_t (List.mem_of_getElem? (i := 792) (by decide +kernel)) rfl
theorem kw_793 : Jvm.Cond.code ({ cls := "FieldOvens", name := "which", desc := "(I)I" } : Jvm.MethodName) prog_1_method_27_code (9 : Nat) (Option.some Jvm.ClassFile.FieldType.int) ∈ oG := oG_t (List.mem_of_getElem? (i := 793) (by decide +kernel)) rfl
theorem kw_794 : Jvm.Cond.methodLink "FieldOvensLaw" (125 : Nat) ({ cls := "FieldOvens", name := "image", desc := "()I" } : Jvm.MethodName) ∈ oG := oG_t (List.mem_of_getElem? (i := 794) (by decide +kernel)) rfl
theorem kw_795 : Jvm.Cond.instanceMethod ({ cls := "FieldOvens", name := "image", desc := "()I" } : Jvm.MethodName) ∈ oG := oG_t (List.mem_of_getElem? (i := 795) (by decide +kernel)) rfl
theorem kw_796 : Jvm.Cond.selects "FieldOvens" ({ cls := "FieldOvens", name := "image", desc := "()I" } : Jvm.MethodName) ({ cls := "FieldOvens", name := "image", desc := "()I" } : Jvm.MethodName) ∈ oG := oG_t (List.mem_of_getElem? (i := 796) (by decide +kernel)) rfl
theorem kw_797 : Jvm.Cond.code ({ cls := "FieldOvens", name := "image", desc := "()I" } : Jvm.MethodName) prog_1_method_28_code (1 : Nat) (Option.some Jvm.ClassFile.FieldType.int) ∈ oG := oG_t (List.mem_of_getElem? (i := 797) (by decide +kernel)) rfl
theorem kw_803 : Jvm.Cond.methodLink "FieldOvensLaw" (129 : Nat) ({ cls := "FieldOvens", name := "restore", desc := "()I" } : Jvm.MethodName) ∈ oG := oG_t (List.mem_of_getElem? (i := 803) (by decide +kernel)) rfl
theorem kw_804 : Jvm.Cond.instanceMethod ({ cls := "FieldOvens", name := "restore", desc := "()I" } : Jvm.MethodName) ∈ oG := oG_t (List.mem_of_getElem? (i := 804) (by decide +kernel)) rfl
theorem kw_805 : Jvm.Cond.selects "FieldOvens" ({ cls := "FieldOvens", name := "restore", desc := "()I" } : Jvm.MethodName) ({ cls := "FieldOvens", name := "restore", desc := "()I" } : Jvm.MethodName) ∈ oG := oG_t (List.mem_of_getElem? (i := 805) (by decide +kernel)) rfl
theorem kw_806 : Jvm.Cond.code ({ cls := "FieldOvens", name := "restore", desc := "()I" } : Jvm.MethodName) prog_1_method_29_code (1 : Nat) (Option.some Jvm.ClassFile.FieldType.int) ∈ oG := oG_t (List.mem_of_getElem? (i := 806) (by decide +kernel)) rfl
theorem kw_807 : Jvm.Cond.methodLink "FieldOvensLaw" (133 : Nat) ({ cls := "FieldOvens", name := "count", desc := "(I)I" } : Jvm.MethodName) ∈ oG := oG_t (List.mem_of_getElem? (i := 807) (by decide +kernel)) rfl
theorem kw_811 : Jvm.Cond.methodLink "FieldOvensLaw" (137 : Nat) ({ cls := "FieldOvens", name := "digest", desc := "()J" } : Jvm.MethodName) ∈ oG := oG_t (List.mem_of_getElem? (i := 811) (by decide +kernel)) rfl
theorem kw_812 : Jvm.Cond.instanceMethod ({ cls := "FieldOvens", name := "digest", desc := "()J" } : Jvm.MethodName) ∈ oG := oG_t (List.mem_of_getElem? (i := 812) (by decide +kernel)) rfl
theorem kw_813 : Jvm.Cond.selects "FieldOvens" ({ cls := "FieldOvens", name := "digest", desc := "()J" } : Jvm.MethodName) ({ cls := "FieldOvens", name := "digest", desc := "()J" } : Jvm.MethodName) ∈ oG := oG_t (List.mem_of_getElem? (i := 813) (by decide +kernel)) rfl
theorem kw_814 : Jvm.Cond.code ({ cls := "FieldOvens", name := "digest", desc := "()J" } : Jvm.MethodName) prog_1_method_31_code (4 : Nat) (Option.some Jvm.ClassFile.FieldType.long) ∈ oG := oG_t (List.mem_of_getElem? (i := 814) (by decide +kernel)) rfl
theorem kw_847 : Jvm.Cond.classLink "FieldOvensLaw" (10 : Nat) "FieldOvensModel" ∈ oG := oG_t (List.mem_of_getElem? (i := 847) (by decide +kernel)) rfl
theorem kw_848 : Jvm.Cond.instantiable "FieldOvensModel" (60 : Nat) ∈ oG := oG_t (List.mem_of_getElem? (i := 848) (by decide +kernel)) rfl
theorem kw_849 : Jvm.Cond.methodLink "FieldOvensLaw" (12 : Nat) ({ cls := "FieldOvensModel", name := "<init>", desc := "()V" } : Jvm.MethodName) ∈ oG := oG_t (List.mem_of_getElem? (i := 849) (by decide +kernel)) rfl
theorem kw_850 : Jvm.Cond.instanceMethod ({ cls := "FieldOvensModel", name := "<init>", desc := "()V" } : Jvm.MethodName) ∈ oG := oG_t (List.mem_of_getElem? (i := 850) (by decide +kernel)) rfl
theorem kw_851 : Jvm.Cond.code ({ cls := "FieldOvensModel", name := "<init>", desc := "()V" } : Jvm.MethodName) prog_14_method_1_code (1 : Nat) (Option.none : Option Jvm.ClassFile.FieldType) ∈ oG := oG_t (List.mem_of_getElem? (i := 851) (by decide +kernel)) rfl
theorem kw_1035 : Jvm.Cond.methodLink "FieldOvensLaw" (19 : Nat) ({ cls := "FieldOvensModel", name := "letters", desc := "(J)I" } : Jvm.MethodName) ∈ oG := oG_t (List.mem_of_getElem? (i := 1035) (by decide +kernel)) rfl
theorem kw_1036 : Jvm.Cond.instanceMethod ({ cls := "FieldOvensModel", name := "letters", desc := "(J)I" } : Jvm.MethodName) ∈ oG := oG_t (List.mem_of_getElem? (i := 1036) (by decide +kernel)) rfl
theorem kw_1037 : Jvm.Cond.selects "FieldOvensModel" ({ cls := "FieldOvensModel", name := "letters", desc := "(J)I" } : Jvm.MethodName) ({ cls := "FieldOvensModel", name := "letters", desc := "(J)I" } : Jvm.MethodName) ∈ oG := oG_t (List.mem_of_getElem? (i := 1037) (by decide +kernel)) rfl
theorem kw_1038 : Jvm.Cond.code ({ cls := "FieldOvensModel", name := "letters", desc := "(J)I" } : Jvm.MethodName) prog_14_method_6_code (7 : Nat) (Option.some Jvm.ClassFile.FieldType.int) ∈ oG := oG_t (List.mem_of_getElem? (i := 1038) (by decide +kernel)) rfl
theorem kw_1040 : Jvm.Cond.methodLink "FieldOvensLaw" (24 : Nat) ({ cls := "FieldOvensModel", name := "blank", desc := "()I" } : Jvm.MethodName) ∈ oG := oG_t (List.mem_of_getElem? (i := 1040) (by decide +kernel)) rfl
theorem kw_1041 : Jvm.Cond.instanceMethod ({ cls := "FieldOvensModel", name := "blank", desc := "()I" } : Jvm.MethodName) ∈ oG := oG_t (List.mem_of_getElem? (i := 1041) (by decide +kernel)) rfl
theorem kw_1042 : Jvm.Cond.selects "FieldOvensModel" ({ cls := "FieldOvensModel", name := "blank", desc := "()I" } : Jvm.MethodName) ({ cls := "FieldOvensModel", name := "blank", desc := "()I" } : Jvm.MethodName) ∈ oG := oG_t (List.mem_of_getElem? (i := 1042) (by decide +kernel)) rfl
theorem kw_1043 : Jvm.Cond.code ({ cls := "FieldOvensModel", name := "blank", desc := "()I" } : Jvm.MethodName) prog_14_method_7_code (2 : Nat) (Option.some Jvm.ClassFile.FieldType.int) ∈ oG := oG_t (List.mem_of_getElem? (i := 1043) (by decide +kernel)) rfl
theorem kw_1044 : Jvm.Cond.methodLink "FieldOvensLaw" (29 : Nat) ({ cls := "FieldOvensModel", name := "fault", desc := "(I)I" } : Jvm.MethodName) ∈ oG := oG_t (List.mem_of_getElem? (i := 1044) (by decide +kernel)) rfl
theorem kw_1045 : Jvm.Cond.instanceMethod ({ cls := "FieldOvensModel", name := "fault", desc := "(I)I" } : Jvm.MethodName) ∈ oG := oG_t (List.mem_of_getElem? (i := 1045) (by decide +kernel)) rfl
theorem kw_1046 : Jvm.Cond.selects "FieldOvensModel" ({ cls := "FieldOvensModel", name := "fault", desc := "(I)I" } : Jvm.MethodName) ({ cls := "FieldOvensModel", name := "fault", desc := "(I)I" } : Jvm.MethodName) ∈ oG := oG_t (List.mem_of_getElem? (i := 1046) (by decide +kernel)) rfl
theorem kw_1047 : Jvm.Cond.code ({ cls := "FieldOvensModel", name := "fault", desc := "(I)I" } : Jvm.MethodName) prog_14_method_15_code (2 : Nat) (Option.some Jvm.ClassFile.FieldType.int) ∈ oG := oG_t (List.mem_of_getElem? (i := 1047) (by decide +kernel)) rfl
theorem kw_1082 : Jvm.Cond.methodLink "FieldOvensLaw" (33 : Nat) ({ cls := "FieldOvensModel", name := "land", desc := "()I" } : Jvm.MethodName) ∈ oG := oG_t (List.mem_of_getElem? (i := 1082) (by decide +kernel)) rfl
theorem kw_1083 : Jvm.Cond.instanceMethod ({ cls := "FieldOvensModel", name := "land", desc := "()I" } : Jvm.MethodName) ∈ oG := oG_t (List.mem_of_getElem? (i := 1083) (by decide +kernel)) rfl
theorem kw_1084 : Jvm.Cond.selects "FieldOvensModel" ({ cls := "FieldOvensModel", name := "land", desc := "()I" } : Jvm.MethodName) ({ cls := "FieldOvensModel", name := "land", desc := "()I" } : Jvm.MethodName) ∈ oG := oG_t (List.mem_of_getElem? (i := 1084) (by decide +kernel)) rfl
theorem kw_1085 : Jvm.Cond.code ({ cls := "FieldOvensModel", name := "land", desc := "()I" } : Jvm.MethodName) prog_14_method_16_code (2 : Nat) (Option.some Jvm.ClassFile.FieldType.int) ∈ oG := oG_t (List.mem_of_getElem? (i := 1085) (by decide +kernel)) rfl
theorem kw_1086 : Jvm.Cond.methodLink "FieldOvensLaw" (37 : Nat) ({ cls := "FieldOvensModel", name := "march", desc := "()I" } : Jvm.MethodName) ∈ oG := oG_t (List.mem_of_getElem? (i := 1086) (by decide +kernel)) rfl
theorem kw_1087 : Jvm.Cond.instanceMethod ({ cls := "FieldOvensModel", name := "march", desc := "()I" } : Jvm.MethodName) ∈ oG := oG_t (List.mem_of_getElem? (i := 1087) (by decide +kernel)) rfl
theorem kw_1088 : Jvm.Cond.selects "FieldOvensModel" ({ cls := "FieldOvensModel", name := "march", desc := "()I" } : Jvm.MethodName) ({ cls := "FieldOvensModel", name := "march", desc := "()I" } : Jvm.MethodName) ∈ oG := oG_t (List.mem_of_getElem? (i := 1088) (by decide +kernel)) rfl
theorem kw_1089 : Jvm.Cond.code ({ cls := "FieldOvensModel", name := "march", desc := "()I" } : Jvm.MethodName) prog_14_method_17_code (2 : Nat) (Option.some Jvm.ClassFile.FieldType.int) ∈ oG := oG_t (List.mem_of_getElem? (i := 1089) (by decide +kernel)) rfl
theorem kw_1090 : Jvm.Cond.methodLink "FieldOvensLaw" (42 : Nat) ({ cls := "FieldOvensModel", name := "plan", desc := "(III)I" } : Jvm.MethodName) ∈ oG := oG_t (List.mem_of_getElem? (i := 1090) (by decide +kernel)) rfl
theorem kw_1091 : Jvm.Cond.instanceMethod ({ cls := "FieldOvensModel", name := "plan", desc := "(III)I" } : Jvm.MethodName) ∈ oG := oG_t (List.mem_of_getElem? (i := 1091) (by decide +kernel)) rfl
theorem kw_1092 : Jvm.Cond.selects "FieldOvensModel" ({ cls := "FieldOvensModel", name := "plan", desc := "(III)I" } : Jvm.MethodName) ({ cls := "FieldOvensModel", name := "plan", desc := "(III)I" } : Jvm.MethodName) ∈ oG := oG_t (List.mem_of_getElem? (i := 1092) (by decide +kernel)) rfl
theorem kw_1093 : Jvm.Cond.code ({ cls := "FieldOvensModel", name := "plan", desc := "(III)I" } : Jvm.MethodName) prog_14_method_18_code (6 : Nat) (Option.some Jvm.ClassFile.FieldType.int) ∈ oG := oG_t (List.mem_of_getElem? (i := 1093) (by decide +kernel)) rfl
theorem kw_1094 : Jvm.Cond.methodLink "FieldOvensLaw" (46 : Nat) ({ cls := "FieldOvensModel", name := "tell", desc := "()I" } : Jvm.MethodName) ∈ oG := oG_t (List.mem_of_getElem? (i := 1094) (by decide +kernel)) rfl
theorem kw_1095 : Jvm.Cond.instanceMethod ({ cls := "FieldOvensModel", name := "tell", desc := "()I" } : Jvm.MethodName) ∈ oG := oG_t (List.mem_of_getElem? (i := 1095) (by decide +kernel)) rfl
theorem kw_1096 : Jvm.Cond.selects "FieldOvensModel" ({ cls := "FieldOvensModel", name := "tell", desc := "()I" } : Jvm.MethodName) ({ cls := "FieldOvensModel", name := "tell", desc := "()I" } : Jvm.MethodName) ∈ oG := oG_t (List.mem_of_getElem? (i := 1096) (by decide +kernel)) rfl
theorem kw_1097 : Jvm.Cond.code ({ cls := "FieldOvensModel", name := "tell", desc := "()I" } : Jvm.MethodName) prog_14_method_19_code (2 : Nat) (Option.some Jvm.ClassFile.FieldType.int) ∈ oG := oG_t (List.mem_of_getElem? (i := 1097) (by decide +kernel)) rfl
theorem kw_1098 : Jvm.Cond.methodLink "FieldOvensLaw" (51 : Nat) ({ cls := "FieldOvensModel", name := "as", desc := "(II)I" } : Jvm.MethodName) ∈ oG := oG_t (List.mem_of_getElem? (i := 1098) (by decide +kernel)) rfl
theorem kw_1099 : Jvm.Cond.instanceMethod ({ cls := "FieldOvensModel", name := "as", desc := "(II)I" } : Jvm.MethodName) ∈ oG := oG_t (List.mem_of_getElem? (i := 1099) (by decide +kernel)) rfl
theorem kw_1100 : Jvm.Cond.selects "FieldOvensModel" ({ cls := "FieldOvensModel", name := "as", desc := "(II)I" } : Jvm.MethodName) ({ cls := "FieldOvensModel", name := "as", desc := "(II)I" } : Jvm.MethodName) ∈ oG := oG_t (List.mem_of_getElem? (i := 1100) (by decide +kernel)) rfl
theorem kw_1101 : Jvm.Cond.code ({ cls := "FieldOvensModel", name := "as", desc := "(II)I" } : Jvm.MethodName) prog_14_method_23_code (3 : Nat) (Option.some Jvm.ClassFile.FieldType.int) ∈ oG := oG_t (List.mem_of_getElem? (i := 1101) (by decide +kernel)) rfl
theorem kw_1106 : Jvm.Cond.methodLink "FieldOvensLaw" (55 : Nat) ({ cls := "FieldOvensModel", name := "landTold", desc := "(I)I" } : Jvm.MethodName) ∈ oG := oG_t (List.mem_of_getElem? (i := 1106) (by decide +kernel)) rfl
theorem kw_1107 : Jvm.Cond.instanceMethod ({ cls := "FieldOvensModel", name := "landTold", desc := "(I)I" } : Jvm.MethodName) ∈ oG := oG_t (List.mem_of_getElem? (i := 1107) (by decide +kernel)) rfl
theorem kw_1108 : Jvm.Cond.selects "FieldOvensModel" ({ cls := "FieldOvensModel", name := "landTold", desc := "(I)I" } : Jvm.MethodName) ({ cls := "FieldOvensModel", name := "landTold", desc := "(I)I" } : Jvm.MethodName) ∈ oG := oG_t (List.mem_of_getElem? (i := 1108) (by decide +kernel)) rfl
theorem kw_1109 : Jvm.Cond.code ({ cls := "FieldOvensModel", name := "landTold", desc := "(I)I" } : Jvm.MethodName) prog_14_method_25_code (2 : Nat) (Option.some Jvm.ClassFile.FieldType.int) ∈ oG := oG_t (List.mem_of_getElem? (i := 1109) (by decide +kernel)) rfl
theorem kw_1114 : Jvm.Cond.methodLink "FieldOvensLaw" (59 : Nat) ({ cls := "FieldOvensModel", name := "place", desc := "(II)I" } : Jvm.MethodName) ∈ oG := oG_t (List.mem_of_getElem? (i := 1114) (by decide +kernel)) rfl
theorem kw_1115 : Jvm.Cond.instanceMethod ({ cls := "FieldOvensModel", name := "place", desc := "(II)I" } : Jvm.MethodName) ∈ oG := oG_t (List.mem_of_getElem? (i := 1115) (by decide +kernel)) rfl
theorem kw_1116 : Jvm.Cond.selects "FieldOvensModel" ({ cls := "FieldOvensModel", name := "place", desc := "(II)I" } : Jvm.MethodName) ({ cls := "FieldOvensModel", name := "place", desc := "(II)I" } : Jvm.MethodName) ∈ oG := oG_t (List.mem_of_getElem? (i := 1116) (by decide +kernel)) rfl
theorem kw_1117 : Jvm.Cond.code ({ cls := "FieldOvensModel", name := "place", desc := "(II)I" } : Jvm.MethodName) prog_14_method_26_code (3 : Nat) (Option.some Jvm.ClassFile.FieldType.int) ∈ oG := oG_t (List.mem_of_getElem? (i := 1117) (by decide +kernel)) rfl
theorem kw_1122 : Jvm.Cond.methodLink "FieldOvensLaw" (63 : Nat) ({ cls := "FieldOvensModel", name := "flour", desc := "(II)I" } : Jvm.MethodName) ∈ oG := oG_t (List.mem_of_getElem? (i := 1122) (by decide +kernel)) rfl
theorem kw_1123 : Jvm.Cond.instanceMethod ({ cls := "FieldOvensModel", name := "flour", desc := "(II)I" } : Jvm.MethodName) ∈ oG := oG_t (List.mem_of_getElem? (i := 1123) (by decide +kernel)) rfl
theorem kw_1124 : Jvm.Cond.selects "FieldOvensModel" ({ cls := "FieldOvensModel", name := "flour", desc := "(II)I" } : Jvm.MethodName) ({ cls := "FieldOvensModel", name := "flour", desc := "(II)I" } : Jvm.MethodName) ∈ oG := oG_t (List.mem_of_getElem? (i := 1124) (by decide +kernel)) rfl
theorem kw_1125 : Jvm.Cond.code ({ cls := "FieldOvensModel", name := "flour", desc := "(II)I" } : Jvm.MethodName) prog_14_method_27_code (4 : Nat) (Option.some Jvm.ClassFile.FieldType.int) ∈ oG := oG_t (List.mem_of_getElem? (i := 1125) (by decide +kernel)) rfl
theorem kw_1126 : Jvm.Cond.methodLink "FieldOvensLaw" (67 : Nat) ({ cls := "FieldOvensModel", name := "marchTold", desc := "(II)I" } : Jvm.MethodName) ∈ oG := oG_t (List.mem_of_getElem? (i := 1126) (by decide +kernel)) rfl
theorem kw_1127 : Jvm.Cond.instanceMethod ({ cls := "FieldOvensModel", name := "marchTold", desc := "(II)I" } : Jvm.MethodName) ∈ oG := oG_t (List.mem_of_getElem? (i := 1127) (by decide +kernel)) rfl
theorem kw_1128 : Jvm.Cond.selects "FieldOvensModel" ({ cls := "FieldOvensModel", name := "marchTold", desc := "(II)I" } : Jvm.MethodName) ({ cls := "FieldOvensModel", name := "marchTold", desc := "(II)I" } : Jvm.MethodName) ∈ oG := oG_t (List.mem_of_getElem? (i := 1128) (by decide +kernel)) rfl
theorem kw_1129 : Jvm.Cond.code ({ cls := "FieldOvensModel", name := "marchTold", desc := "(II)I" } : Jvm.MethodName) prog_14_method_28_code (3 : Nat) (Option.some Jvm.ClassFile.FieldType.int) ∈ oG := oG_t (List.mem_of_getElem? (i := 1129) (by decide +kernel)) rfl
theorem kw_1134 : Jvm.Cond.methodLink "FieldOvensLaw" (71 : Nat) ({ cls := "FieldOvensModel", name := "at", desc := "(III)I" } : Jvm.MethodName) ∈ oG := oG_t (List.mem_of_getElem? (i := 1134) (by decide +kernel)) rfl
theorem kw_1135 : Jvm.Cond.instanceMethod ({ cls := "FieldOvensModel", name := "at", desc := "(III)I" } : Jvm.MethodName) ∈ oG := oG_t (List.mem_of_getElem? (i := 1135) (by decide +kernel)) rfl
theorem kw_1136 : Jvm.Cond.selects "FieldOvensModel" ({ cls := "FieldOvensModel", name := "at", desc := "(III)I" } : Jvm.MethodName) ({ cls := "FieldOvensModel", name := "at", desc := "(III)I" } : Jvm.MethodName) ∈ oG := oG_t (List.mem_of_getElem? (i := 1136) (by decide +kernel)) rfl
theorem kw_1137 : Jvm.Cond.code ({ cls := "FieldOvensModel", name := "at", desc := "(III)I" } : Jvm.MethodName) prog_14_method_32_code (4 : Nat) (Option.some Jvm.ClassFile.FieldType.int) ∈ oG := oG_t (List.mem_of_getElem? (i := 1137) (by decide +kernel)) rfl
theorem kw_1150 : Jvm.Cond.methodLink "FieldOvensLaw" (75 : Nat) ({ cls := "FieldOvensModel", name := "stand", desc := "(III)I" } : Jvm.MethodName) ∈ oG := oG_t (List.mem_of_getElem? (i := 1150) (by decide +kernel)) rfl
theorem kw_1151 : Jvm.Cond.instanceMethod ({ cls := "FieldOvensModel", name := "stand", desc := "(III)I" } : Jvm.MethodName) ∈ oG := oG_t (List.mem_of_getElem? (i := 1151) (by decide +kernel)) rfl
theorem kw_1152 : Jvm.Cond.selects "FieldOvensModel" ({ cls := "FieldOvensModel", name := "stand", desc := "(III)I" } : Jvm.MethodName) ({ cls := "FieldOvensModel", name := "stand", desc := "(III)I" } : Jvm.MethodName) ∈ oG := oG_t (List.mem_of_getElem? (i := 1152) (by decide +kernel)) rfl
theorem kw_1153 : Jvm.Cond.code ({ cls := "FieldOvensModel", name := "stand", desc := "(III)I" } : Jvm.MethodName) prog_14_method_50_code (6 : Nat) (Option.some Jvm.ClassFile.FieldType.int) ∈ oG := oG_t (List.mem_of_getElem? (i := 1153) (by decide +kernel)) rfl
theorem kw_1226 : Jvm.Cond.methodLink "FieldOvensLaw" (80 : Nat) ({ cls := "FieldOvensModel", name := "bakes", desc := "(IIII)I" } : Jvm.MethodName) ∈ oG := oG_t (List.mem_of_getElem? (i := 1226) (by decide +kernel)) rfl
theorem kw_1227 : Jvm.Cond.instanceMethod ({ cls := "FieldOvensModel", name := "bakes", desc := "(IIII)I" } : Jvm.MethodName) ∈ oG := oG_t (List.mem_of_getElem? (i := 1227) (by decide +kernel)) rfl
theorem kw_1228 : Jvm.Cond.selects "FieldOvensModel" ({ cls := "FieldOvensModel", name := "bakes", desc := "(IIII)I" } : Jvm.MethodName) ({ cls := "FieldOvensModel", name := "bakes", desc := "(IIII)I" } : Jvm.MethodName) ∈ oG := oG_t (List.mem_of_getElem? (i := 1228) (by decide +kernel)) rfl
theorem kw_1229 : Jvm.Cond.code ({ cls := "FieldOvensModel", name := "bakes", desc := "(IIII)I" } : Jvm.MethodName) prog_14_method_51_code (6 : Nat) (Option.some Jvm.ClassFile.FieldType.int) ∈ oG := oG_t (List.mem_of_getElem? (i := 1229) (by decide +kernel)) rfl
theorem kw_1230 : Jvm.Cond.methodLink "FieldOvensLaw" (84 : Nat) ({ cls := "FieldOvensModel", name := "hungry", desc := "(III)I" } : Jvm.MethodName) ∈ oG := oG_t (List.mem_of_getElem? (i := 1230) (by decide +kernel)) rfl
theorem kw_1231 : Jvm.Cond.instanceMethod ({ cls := "FieldOvensModel", name := "hungry", desc := "(III)I" } : Jvm.MethodName) ∈ oG := oG_t (List.mem_of_getElem? (i := 1231) (by decide +kernel)) rfl
theorem kw_1232 : Jvm.Cond.selects "FieldOvensModel" ({ cls := "FieldOvensModel", name := "hungry", desc := "(III)I" } : Jvm.MethodName) ({ cls := "FieldOvensModel", name := "hungry", desc := "(III)I" } : Jvm.MethodName) ∈ oG := oG_t (List.mem_of_getElem? (i := 1232) (by decide +kernel)) rfl
theorem kw_1233 : Jvm.Cond.code ({ cls := "FieldOvensModel", name := "hungry", desc := "(III)I" } : Jvm.MethodName) prog_14_method_53_code (5 : Nat) (Option.some Jvm.ClassFile.FieldType.int) ∈ oG := oG_t (List.mem_of_getElem? (i := 1233) (by decide +kernel)) rfl
theorem kw_1238 : Jvm.Cond.methodLink "FieldOvensLaw" (88 : Nat) ({ cls := "FieldOvensModel", name := "carried", desc := "(III)I" } : Jvm.MethodName) ∈ oG := oG_t (List.mem_of_getElem? (i := 1238) (by decide +kernel)) rfl
theorem kw_1239 : Jvm.Cond.instanceMethod ({ cls := "FieldOvensModel", name := "carried", desc := "(III)I" } : Jvm.MethodName) ∈ oG := oG_t (List.mem_of_getElem? (i := 1239) (by decide +kernel)) rfl
theorem kw_1240 : Jvm.Cond.selects "FieldOvensModel" ({ cls := "FieldOvensModel", name := "carried", desc := "(III)I" } : Jvm.MethodName) ({ cls := "FieldOvensModel", name := "carried", desc := "(III)I" } : Jvm.MethodName) ∈ oG := oG_t (List.mem_of_getElem? (i := 1240) (by decide +kernel)) rfl
theorem kw_1241 : Jvm.Cond.code ({ cls := "FieldOvensModel", name := "carried", desc := "(III)I" } : Jvm.MethodName) prog_14_method_54_code (5 : Nat) (Option.some Jvm.ClassFile.FieldType.int) ∈ oG := oG_t (List.mem_of_getElem? (i := 1241) (by decide +kernel)) rfl
theorem kw_1242 : Jvm.Cond.methodLink "FieldOvensLaw" (92 : Nat) ({ cls := "FieldOvensModel", name := "lack", desc := "(III)I" } : Jvm.MethodName) ∈ oG := oG_t (List.mem_of_getElem? (i := 1242) (by decide +kernel)) rfl
theorem kw_1243 : Jvm.Cond.instanceMethod ({ cls := "FieldOvensModel", name := "lack", desc := "(III)I" } : Jvm.MethodName) ∈ oG := oG_t (List.mem_of_getElem? (i := 1243) (by decide +kernel)) rfl
theorem kw_1244 : Jvm.Cond.selects "FieldOvensModel" ({ cls := "FieldOvensModel", name := "lack", desc := "(III)I" } : Jvm.MethodName) ({ cls := "FieldOvensModel", name := "lack", desc := "(III)I" } : Jvm.MethodName) ∈ oG := oG_t (List.mem_of_getElem? (i := 1244) (by decide +kernel)) rfl
theorem kw_1245 : Jvm.Cond.code ({ cls := "FieldOvensModel", name := "lack", desc := "(III)I" } : Jvm.MethodName) prog_14_method_55_code (6 : Nat) (Option.some Jvm.ClassFile.FieldType.int) ∈ oG := oG_t (List.mem_of_getElem? (i := 1245) (by decide +kernel)) rfl
theorem kw_1246 : Jvm.Cond.methodLink "FieldOvensLaw" (96 : Nat) ({ cls := "FieldOvensModel", name := "mean", desc := "(IIII)I" } : Jvm.MethodName) ∈ oG := oG_t (List.mem_of_getElem? (i := 1246) (by decide +kernel)) rfl
theorem kw_1247 : Jvm.Cond.instanceMethod ({ cls := "FieldOvensModel", name := "mean", desc := "(IIII)I" } : Jvm.MethodName) ∈ oG := oG_t (List.mem_of_getElem? (i := 1247) (by decide +kernel)) rfl
theorem kw_1248 : Jvm.Cond.selects "FieldOvensModel" ({ cls := "FieldOvensModel", name := "mean", desc := "(IIII)I" } : Jvm.MethodName) ({ cls := "FieldOvensModel", name := "mean", desc := "(IIII)I" } : Jvm.MethodName) ∈ oG := oG_t (List.mem_of_getElem? (i := 1248) (by decide +kernel)) rfl
theorem kw_1249 : Jvm.Cond.code ({ cls := "FieldOvensModel", name := "mean", desc := "(IIII)I" } : Jvm.MethodName) prog_14_method_58_code (6 : Nat) (Option.some Jvm.ClassFile.FieldType.int) ∈ oG := oG_t (List.mem_of_getElem? (i := 1249) (by decide +kernel)) rfl
theorem kw_1257 : Jvm.Cond.methodLink "FieldOvensLaw" (100 : Nat) ({ cls := "FieldOvensModel", name := "worst", desc := "(III)I" } : Jvm.MethodName) ∈ oG := oG_t (List.mem_of_getElem? (i := 1257) (by decide +kernel)) rfl
theorem kw_1258 : Jvm.Cond.instanceMethod ({ cls := "FieldOvensModel", name := "worst", desc := "(III)I" } : Jvm.MethodName) ∈ oG := oG_t (List.mem_of_getElem? (i := 1258) (by decide +kernel)) rfl
theorem kw_1259 : Jvm.Cond.selects "FieldOvensModel" ({ cls := "FieldOvensModel", name := "worst", desc := "(III)I" } : Jvm.MethodName) ({ cls := "FieldOvensModel", name := "worst", desc := "(III)I" } : Jvm.MethodName) ∈ oG := oG_t (List.mem_of_getElem? (i := 1259) (by decide +kernel)) rfl
theorem kw_1260 : Jvm.Cond.code ({ cls := "FieldOvensModel", name := "worst", desc := "(III)I" } : Jvm.MethodName) prog_14_method_59_code (8 : Nat) (Option.some Jvm.ClassFile.FieldType.int) ∈ oG := oG_t (List.mem_of_getElem? (i := 1260) (by decide +kernel)) rfl
theorem kw_1261 : Jvm.Cond.methodLink "FieldOvensLaw" (104 : Nat) ({ cls := "FieldOvensModel", name := "run", desc := "(IIII)I" } : Jvm.MethodName) ∈ oG := oG_t (List.mem_of_getElem? (i := 1261) (by decide +kernel)) rfl
theorem kw_1262 : Jvm.Cond.instanceMethod ({ cls := "FieldOvensModel", name := "run", desc := "(IIII)I" } : Jvm.MethodName) ∈ oG := oG_t (List.mem_of_getElem? (i := 1262) (by decide +kernel)) rfl
theorem kw_1263 : Jvm.Cond.selects "FieldOvensModel" ({ cls := "FieldOvensModel", name := "run", desc := "(IIII)I" } : Jvm.MethodName) ({ cls := "FieldOvensModel", name := "run", desc := "(IIII)I" } : Jvm.MethodName) ∈ oG := oG_t (List.mem_of_getElem? (i := 1263) (by decide +kernel)) rfl
theorem kw_1264 : Jvm.Cond.code ({ cls := "FieldOvensModel", name := "run", desc := "(IIII)I" } : Jvm.MethodName) prog_14_method_60_code (10 : Nat) (Option.some Jvm.ClassFile.FieldType.int) ∈ oG := oG_t (List.mem_of_getElem? (i := 1264) (by decide +kernel)) rfl
theorem kw_1270 : Jvm.Cond.methodLink "FieldOvensLaw" (108 : Nat) ({ cls := "FieldOvensModel", name := "ahead", desc := "(II)I" } : Jvm.MethodName) ∈ oG := oG_t (List.mem_of_getElem? (i := 1270) (by decide +kernel)) rfl
theorem kw_1271 : Jvm.Cond.instanceMethod ({ cls := "FieldOvensModel", name := "ahead", desc := "(II)I" } : Jvm.MethodName) ∈ oG := oG_t (List.mem_of_getElem? (i := 1271) (by decide +kernel)) rfl
theorem kw_1272 : Jvm.Cond.selects "FieldOvensModel" ({ cls := "FieldOvensModel", name := "ahead", desc := "(II)I" } : Jvm.MethodName) ({ cls := "FieldOvensModel", name := "ahead", desc := "(II)I" } : Jvm.MethodName) ∈ oG := oG_t (List.mem_of_getElem? (i := 1272) (by decide +kernel)) rfl
theorem kw_1273 : Jvm.Cond.code ({ cls := "FieldOvensModel", name := "ahead", desc := "(II)I" } : Jvm.MethodName) prog_14_method_61_code (5 : Nat) (Option.some Jvm.ClassFile.FieldType.int) ∈ oG := oG_t (List.mem_of_getElem? (i := 1273) (by decide +kernel)) rfl
theorem kw_1274 : Jvm.Cond.methodLink "FieldOvensLaw" (112 : Nat) ({ cls := "FieldOvensModel", name := "far", desc := "(II)I" } : Jvm.MethodName) ∈ oG := oG_t (List.mem_of_getElem? (i := 1274) (by decide +kernel)) rfl
theorem kw_1275 : Jvm.Cond.instanceMethod ({ cls := "FieldOvensModel", name := "far", desc := "(II)I" } : Jvm.MethodName) ∈ oG := oG_t (List.mem_of_getElem? (i := 1275) (by decide +kernel)) rfl
theorem kw_1276 : Jvm.Cond.selects "FieldOvensModel" ({ cls := "FieldOvensModel", name := "far", desc := "(II)I" } : Jvm.MethodName) ({ cls := "FieldOvensModel", name := "far", desc := "(II)I" } : Jvm.MethodName) ∈ oG := oG_t (List.mem_of_getElem? (i := 1276) (by decide +kernel)) rfl
theorem kw_1277 : Jvm.Cond.code ({ cls := "FieldOvensModel", name := "far", desc := "(II)I" } : Jvm.MethodName) prog_14_method_62_code (5 : Nat) (Option.some Jvm.ClassFile.FieldType.int) ∈ oG := oG_t (List.mem_of_getElem? (i := 1277) (by decide +kernel)) rfl
theorem kw_1278 : Jvm.Cond.methodLink "FieldOvensLaw" (116 : Nat) ({ cls := "FieldOvensModel", name := "burnt", desc := "(III)I" } : Jvm.MethodName) ∈ oG := oG_t (List.mem_of_getElem? (i := 1278) (by decide +kernel)) rfl
theorem kw_1279 : Jvm.Cond.instanceMethod ({ cls := "FieldOvensModel", name := "burnt", desc := "(III)I" } : Jvm.MethodName) ∈ oG := oG_t (List.mem_of_getElem? (i := 1279) (by decide +kernel)) rfl
theorem kw_1280 : Jvm.Cond.selects "FieldOvensModel" ({ cls := "FieldOvensModel", name := "burnt", desc := "(III)I" } : Jvm.MethodName) ({ cls := "FieldOvensModel", name := "burnt", desc := "(III)I" } : Jvm.MethodName) ∈ oG := oG_t (List.mem_of_getElem? (i := 1280) (by decide +kernel)) rfl
theorem kw_1281 : Jvm.Cond.code ({ cls := "FieldOvensModel", name := "burnt", desc := "(III)I" } : Jvm.MethodName) prog_14_method_64_code (12 : Nat) (Option.some Jvm.ClassFile.FieldType.int) ∈ oG := oG_t (List.mem_of_getElem? (i := 1281) (by decide +kernel)) rfl
theorem kw_1286 : Jvm.Cond.methodLink "FieldOvensLaw" (120 : Nat) ({ cls := "FieldOvensModel", name := "more", desc := "(III)I" } : Jvm.MethodName) ∈ oG := oG_t (List.mem_of_getElem? (i := 1286) (by decide +kernel)) rfl
theorem kw_1287 : Jvm.Cond.instanceMethod ({ cls := "FieldOvensModel", name := "more", desc := "(III)I" } : Jvm.MethodName) ∈ oG := oG_t (List.mem_of_getElem? (i := 1287) (by decide +kernel)) rfl
theorem kw_1288 : Jvm.Cond.selects "FieldOvensModel" ({ cls := "FieldOvensModel", name := "more", desc := "(III)I" } : Jvm.MethodName) ({ cls := "FieldOvensModel", name := "more", desc := "(III)I" } : Jvm.MethodName) ∈ oG := oG_t (List.mem_of_getElem? (i := 1288) (by decide +kernel)) rfl
theorem kw_1289 : Jvm.Cond.code ({ cls := "FieldOvensModel", name := "more", desc := "(III)I" } : Jvm.MethodName) prog_14_method_65_code (9 : Nat) (Option.some Jvm.ClassFile.FieldType.int) ∈ oG := oG_t (List.mem_of_getElem? (i := 1289) (by decide +kernel)) rfl
theorem kw_1293 : Jvm.Cond.methodLink "FieldOvensLaw" (124 : Nat) ({ cls := "FieldOvensModel", name := "which", desc := "(I)I" } : Jvm.MethodName) ∈ oG := oG_t (List.mem_of_getElem? (i := 1293) (by decide +kernel)) rfl
theorem kw_1294 : Jvm.Cond.instanceMethod ({ cls := "FieldOvensModel", name := "which", desc := "(I)I" } : Jvm.MethodName) ∈ oG := oG_t (List.mem_of_getElem? (i := 1294) (by decide +kernel)) rfl
theorem kw_1295 : Jvm.Cond.selects "FieldOvensModel" ({ cls := "FieldOvensModel", name := "which", desc := "(I)I" } : Jvm.MethodName) ({ cls := "FieldOvensModel", name := "which", desc := "(I)I" } : Jvm.MethodName) ∈ oG := oG_t (List.mem_of_getElem? (i := 1295) (by decide +kernel)) rfl
theorem kw_1296 : Jvm.Cond.code ({ cls := "FieldOvensModel", name := "which", desc := "(I)I" } : Jvm.MethodName) prog_14_method_66_code (6 : Nat) (Option.some Jvm.ClassFile.FieldType.int) ∈ oG := oG_t (List.mem_of_getElem? (i := 1296) (by decide +kernel)) rfl
theorem kw_1297 : Jvm.Cond.methodLink "FieldOvensLaw" (128 : Nat) ({ cls := "FieldOvensModel", name := "image", desc := "()I" } : Jvm.MethodName) ∈ oG := oG_t (List.mem_of_getElem? (i := 1297) (by decide +kernel)) rfl
theorem kw_1298 : Jvm.Cond.instanceMethod ({ cls := "FieldOvensModel", name := "image", desc := "()I" } : Jvm.MethodName) ∈ oG := oG_t (List.mem_of_getElem? (i := 1298) (by decide +kernel)) rfl
theorem kw_1299 : Jvm.Cond.selects "FieldOvensModel" ({ cls := "FieldOvensModel", name := "image", desc := "()I" } : Jvm.MethodName) ({ cls := "FieldOvensModel", name := "image", desc := "()I" } : Jvm.MethodName) ∈ oG := oG_t (List.mem_of_getElem? (i := 1299) (by decide +kernel)) rfl
theorem kw_1300 : Jvm.Cond.code ({ cls := "FieldOvensModel", name := "image", desc := "()I" } : Jvm.MethodName) prog_14_method_68_code (2 : Nat) (Option.some Jvm.ClassFile.FieldType.int) ∈ oG := oG_t (List.mem_of_getElem? (i := 1300) (by decide +kernel)) rfl
theorem kw_1305 : Jvm.Cond.methodLink "FieldOvensLaw" (132 : Nat) ({ cls := "FieldOvensModel", name := "restore", desc := "()I" } : Jvm.MethodName) ∈ oG := oG_t (List.mem_of_getElem? (i := 1305) (by decide +kernel)) rfl
theorem kw_1306 : Jvm.Cond.instanceMethod ({ cls := "FieldOvensModel", name := "restore", desc := "()I" } : Jvm.MethodName) ∈ oG := oG_t (List.mem_of_getElem? (i := 1306) (by decide +kernel)) rfl
theorem kw_1307 : Jvm.Cond.selects "FieldOvensModel" ({ cls := "FieldOvensModel", name := "restore", desc := "()I" } : Jvm.MethodName) ({ cls := "FieldOvensModel", name := "restore", desc := "()I" } : Jvm.MethodName) ∈ oG := oG_t (List.mem_of_getElem? (i := 1307) (by decide +kernel)) rfl
theorem kw_1308 : Jvm.Cond.code ({ cls := "FieldOvensModel", name := "restore", desc := "()I" } : Jvm.MethodName) prog_14_method_69_code (2 : Nat) (Option.some Jvm.ClassFile.FieldType.int) ∈ oG := oG_t (List.mem_of_getElem? (i := 1308) (by decide +kernel)) rfl
theorem kw_1309 : Jvm.Cond.methodLink "FieldOvensLaw" (136 : Nat) ({ cls := "FieldOvensModel", name := "count", desc := "(I)I" } : Jvm.MethodName) ∈ oG := oG_t (List.mem_of_getElem? (i := 1309) (by decide +kernel)) rfl
theorem kw_1310 : Jvm.Cond.instanceMethod ({ cls := "FieldOvensModel", name := "count", desc := "(I)I" } : Jvm.MethodName) ∈ oG := oG_t (List.mem_of_getElem? (i := 1310) (by decide +kernel)) rfl
theorem kw_1311 : Jvm.Cond.selects "FieldOvensModel" ({ cls := "FieldOvensModel", name := "count", desc := "(I)I" } : Jvm.MethodName) ({ cls := "FieldOvensModel", name := "count", desc := "(I)I" } : Jvm.MethodName) ∈ oG := oG_t (List.mem_of_getElem? (i := 1311) (by decide +kernel)) rfl
theorem kw_1312 : Jvm.Cond.code ({ cls := "FieldOvensModel", name := "count", desc := "(I)I" } : Jvm.MethodName) prog_14_method_71_code (2 : Nat) (Option.some Jvm.ClassFile.FieldType.int) ∈ oG := oG_t (List.mem_of_getElem? (i := 1312) (by decide +kernel)) rfl
theorem kw_1317 : Jvm.Cond.methodLink "FieldOvensLaw" (141 : Nat) ({ cls := "FieldOvensModel", name := "digest", desc := "()J" } : Jvm.MethodName) ∈ oG := oG_t (List.mem_of_getElem? (i := 1317) (by decide +kernel)) rfl
theorem kw_1318 : Jvm.Cond.instanceMethod ({ cls := "FieldOvensModel", name := "digest", desc := "()J" } : Jvm.MethodName) ∈ oG := oG_t (List.mem_of_getElem? (i := 1318) (by decide +kernel)) rfl
theorem kw_1319 : Jvm.Cond.selects "FieldOvensModel" ({ cls := "FieldOvensModel", name := "digest", desc := "()J" } : Jvm.MethodName) ({ cls := "FieldOvensModel", name := "digest", desc := "()J" } : Jvm.MethodName) ∈ oG := oG_t (List.mem_of_getElem? (i := 1319) (by decide +kernel)) rfl
theorem kw_1320 : Jvm.Cond.code ({ cls := "FieldOvensModel", name := "digest", desc := "()J" } : Jvm.MethodName) prog_14_method_74_code (2 : Nat) (Option.some Jvm.ClassFile.FieldType.long) ∈ oG := oG_t (List.mem_of_getElem? (i := 1320) (by decide +kernel)) rfl
theorem kw_1331 : Jvm.Cond.constantLong "FieldOvensLaw" (13 : Nat) (4294967295 : Int64) ∈ oG := oG_t (List.mem_of_getElem? (i := 1331) (by decide +kernel)) rfl
theorem dL_law_0 : decode cL_law 0 = .ok (.new 7, 3) := by decide +kernel
theorem dL_law_3 : decode cL_law 3 = .ok (.dup, 1) := by decide +kernel
theorem dL_law_4 : decode cL_law 4 = .ok (.invokespecial 9, 3) := by decide +kernel
theorem dL_law_7 : decode cL_law 7 = .ok (.astore_n 1, 1) := by decide +kernel
theorem dL_law_8 : decode cL_law 8 = .ok (.new 10, 3) := by decide +kernel
theorem dL_law_11 : decode cL_law 11 = .ok (.dup, 1) := by decide +kernel
theorem dL_law_12 : decode cL_law 12 = .ok (.invokespecial 12, 3) := by decide +kernel
theorem dL_law_15 : decode cL_law 15 = .ok (.astore_n 2, 1) := by decide +kernel
theorem dL_law_16 : decode cL_law 16 = .ok (.iconst 0, 1) := by decide +kernel
theorem dL_law_17 : decode cL_law 17 = .ok (.istore_n 3, 1) := by decide +kernel
theorem dL_law_18 : decode cL_law 18 = .ok (.iload_n 3, 1) := by decide +kernel
theorem dL_law_19 : decode cL_law 19 = .ok (.aload_n 0, 1) := by decide +kernel
theorem dL_law_20 : decode cL_law 20 = .ok (.arraylength, 1) := by decide +kernel
theorem dL_law_21 : decode cL_law 21 = .ok (.iconst 5, 1) := by decide +kernel
theorem dL_law_22 : decode cL_law 22 = .ok (.isub, 1) := by decide +kernel
theorem dL_law_23 : decode cL_law 23 = .ok (.if_icmp .gt 1132, 3) := by decide +kernel
theorem dL_law_26 : decode cL_law 26 = .ok (.aload_n 0, 1) := by decide +kernel
theorem dL_law_27 : decode cL_law 27 = .ok (.iload_n 3, 1) := by decide +kernel
theorem dL_law_28 : decode cL_law 28 = .ok (.iaload, 1) := by decide +kernel
theorem dL_law_29 : decode cL_law 29 = .ok (.bipush 31, 2) := by decide +kernel
theorem dL_law_31 : decode cL_law 31 = .ok (.iand, 1) := by decide +kernel
theorem dL_law_32 : decode cL_law 32 = .ok (.tableswitch 1117 0 29 #[136, 189, 202, 225, 238, 251, 294, 307, 340, 363, 396, 429, 462, 505, 548, 601, 644, 687, 730, 783, 826, 879, 912, 945, 988, 1031, 1054, 1067, 1080, 1103], 136) := by decide +kernel
theorem dL_law_168 : decode cL_law 168 = .ok (.aload_n 1, 1) := by decide +kernel
theorem dL_law_169 : decode cL_law 169 = .ok (.aload_n 0, 1) := by decide +kernel
theorem dL_law_170 : decode cL_law 170 = .ok (.iload_n 3, 1) := by decide +kernel
theorem dL_law_171 : decode cL_law 171 = .ok (.iconst 1, 1) := by decide +kernel
theorem dL_law_172 : decode cL_law 172 = .ok (.iadd, 1) := by decide +kernel
theorem dL_law_173 : decode cL_law 173 = .ok (.iaload, 1) := by decide +kernel
theorem dL_law_174 : decode cL_law 174 = .ok (.i2l, 1) := by decide +kernel
theorem dL_law_175 : decode cL_law 175 = .ok (.bipush 32, 2) := by decide +kernel
theorem dL_law_177 : decode cL_law 177 = .ok (.lshl, 1) := by decide +kernel
theorem dL_law_178 : decode cL_law 178 = .ok (.aload_n 0, 1) := by decide +kernel
theorem dL_law_179 : decode cL_law 179 = .ok (.iload_n 3, 1) := by decide +kernel
theorem dL_law_180 : decode cL_law 180 = .ok (.iconst 2, 1) := by decide +kernel
theorem dL_law_181 : decode cL_law 181 = .ok (.iadd, 1) := by decide +kernel
theorem dL_law_182 : decode cL_law 182 = .ok (.iaload, 1) := by decide +kernel
theorem dL_law_183 : decode cL_law 183 = .ok (.i2l, 1) := by decide +kernel
theorem dL_law_184 : decode cL_law 184 = .ok (.ldc2_w 13, 3) := by decide +kernel
theorem dL_law_187 : decode cL_law 187 = .ok (.land, 1) := by decide +kernel
theorem dL_law_188 : decode cL_law 188 = .ok (.lor, 1) := by decide +kernel
theorem dL_law_189 : decode cL_law 189 = .ok (.invokevirtual 15, 3) := by decide +kernel
theorem dL_law_192 : decode cL_law 192 = .ok (.aload_n 2, 1) := by decide +kernel
theorem dL_law_193 : decode cL_law 193 = .ok (.aload_n 0, 1) := by decide +kernel
theorem dL_law_194 : decode cL_law 194 = .ok (.iload_n 3, 1) := by decide +kernel
theorem dL_law_195 : decode cL_law 195 = .ok (.iconst 1, 1) := by decide +kernel
theorem dL_law_196 : decode cL_law 196 = .ok (.iadd, 1) := by decide +kernel
theorem dL_law_197 : decode cL_law 197 = .ok (.iaload, 1) := by decide +kernel
theorem dL_law_198 : decode cL_law 198 = .ok (.i2l, 1) := by decide +kernel
theorem dL_law_199 : decode cL_law 199 = .ok (.bipush 32, 2) := by decide +kernel
theorem dL_law_201 : decode cL_law 201 = .ok (.lshl, 1) := by decide +kernel
theorem dL_law_202 : decode cL_law 202 = .ok (.aload_n 0, 1) := by decide +kernel
theorem dL_law_203 : decode cL_law 203 = .ok (.iload_n 3, 1) := by decide +kernel
theorem dL_law_204 : decode cL_law 204 = .ok (.iconst 2, 1) := by decide +kernel
theorem dL_law_205 : decode cL_law 205 = .ok (.iadd, 1) := by decide +kernel
theorem dL_law_206 : decode cL_law 206 = .ok (.iaload, 1) := by decide +kernel
theorem dL_law_207 : decode cL_law 207 = .ok (.i2l, 1) := by decide +kernel
theorem dL_law_208 : decode cL_law 208 = .ok (.ldc2_w 13, 3) := by decide +kernel
theorem dL_law_211 : decode cL_law 211 = .ok (.land, 1) := by decide +kernel
theorem dL_law_212 : decode cL_law 212 = .ok (.lor, 1) := by decide +kernel
theorem dL_law_213 : decode cL_law 213 = .ok (.invokevirtual 19, 3) := by decide +kernel
theorem dL_law_216 : decode cL_law 216 = .ok (.if_icmp .eq 933, 3) := by decide +kernel
theorem dL_law_221 : decode cL_law 221 = .ok (.aload_n 1, 1) := by decide +kernel
theorem dL_law_222 : decode cL_law 222 = .ok (.invokevirtual 20, 3) := by decide +kernel
theorem dL_law_225 : decode cL_law 225 = .ok (.aload_n 2, 1) := by decide +kernel
theorem dL_law_226 : decode cL_law 226 = .ok (.invokevirtual 24, 3) := by decide +kernel
theorem dL_law_229 : decode cL_law 229 = .ok (.if_icmp .eq 920, 3) := by decide +kernel
theorem dL_law_234 : decode cL_law 234 = .ok (.aload_n 1, 1) := by decide +kernel
theorem dL_law_235 : decode cL_law 235 = .ok (.aload_n 0, 1) := by decide +kernel
theorem dL_law_236 : decode cL_law 236 = .ok (.iload_n 3, 1) := by decide +kernel
theorem dL_law_237 : decode cL_law 237 = .ok (.iconst 1, 1) := by decide +kernel
theorem dL_law_238 : decode cL_law 238 = .ok (.iadd, 1) := by decide +kernel
theorem dL_law_239 : decode cL_law 239 = .ok (.iaload, 1) := by decide +kernel
theorem dL_law_240 : decode cL_law 240 = .ok (.invokevirtual 25, 3) := by decide +kernel
theorem dL_law_243 : decode cL_law 243 = .ok (.aload_n 2, 1) := by decide +kernel
theorem dL_law_244 : decode cL_law 244 = .ok (.aload_n 0, 1) := by decide +kernel
theorem dL_law_245 : decode cL_law 245 = .ok (.iload_n 3, 1) := by decide +kernel
theorem dL_law_246 : decode cL_law 246 = .ok (.iconst 1, 1) := by decide +kernel
theorem dL_law_247 : decode cL_law 247 = .ok (.iadd, 1) := by decide +kernel
theorem dL_law_248 : decode cL_law 248 = .ok (.iaload, 1) := by decide +kernel
theorem dL_law_249 : decode cL_law 249 = .ok (.invokevirtual 29, 3) := by decide +kernel
theorem dL_law_252 : decode cL_law 252 = .ok (.if_icmp .eq 897, 3) := by decide +kernel
theorem dL_law_257 : decode cL_law 257 = .ok (.aload_n 1, 1) := by decide +kernel
theorem dL_law_258 : decode cL_law 258 = .ok (.invokevirtual 30, 3) := by decide +kernel
theorem dL_law_261 : decode cL_law 261 = .ok (.aload_n 2, 1) := by decide +kernel
theorem dL_law_262 : decode cL_law 262 = .ok (.invokevirtual 33, 3) := by decide +kernel
theorem dL_law_265 : decode cL_law 265 = .ok (.if_icmp .eq 884, 3) := by decide +kernel
theorem dL_law_270 : decode cL_law 270 = .ok (.aload_n 1, 1) := by decide +kernel
theorem dL_law_271 : decode cL_law 271 = .ok (.invokevirtual 34, 3) := by decide +kernel
theorem dL_law_274 : decode cL_law 274 = .ok (.aload_n 2, 1) := by decide +kernel
theorem dL_law_275 : decode cL_law 275 = .ok (.invokevirtual 37, 3) := by decide +kernel
theorem dL_law_278 : decode cL_law 278 = .ok (.if_icmp .eq 871, 3) := by decide +kernel
theorem dL_law_283 : decode cL_law 283 = .ok (.aload_n 1, 1) := by decide +kernel
theorem dL_law_284 : decode cL_law 284 = .ok (.aload_n 0, 1) := by decide +kernel
theorem dL_law_285 : decode cL_law 285 = .ok (.iload_n 3, 1) := by decide +kernel
theorem dL_law_286 : decode cL_law 286 = .ok (.iconst 1, 1) := by decide +kernel
theorem dL_law_287 : decode cL_law 287 = .ok (.iadd, 1) := by decide +kernel
theorem dL_law_288 : decode cL_law 288 = .ok (.iaload, 1) := by decide +kernel
theorem dL_law_289 : decode cL_law 289 = .ok (.aload_n 0, 1) := by decide +kernel
theorem dL_law_290 : decode cL_law 290 = .ok (.iload_n 3, 1) := by decide +kernel
theorem dL_law_291 : decode cL_law 291 = .ok (.iconst 2, 1) := by decide +kernel
theorem dL_law_292 : decode cL_law 292 = .ok (.iadd, 1) := by decide +kernel
theorem dL_law_293 : decode cL_law 293 = .ok (.iaload, 1) := by decide +kernel
theorem dL_law_294 : decode cL_law 294 = .ok (.aload_n 0, 1) := by decide +kernel
theorem dL_law_295 : decode cL_law 295 = .ok (.iload_n 3, 1) := by decide +kernel
theorem dL_law_296 : decode cL_law 296 = .ok (.iconst 3, 1) := by decide +kernel
theorem dL_law_297 : decode cL_law 297 = .ok (.iadd, 1) := by decide +kernel
theorem dL_law_298 : decode cL_law 298 = .ok (.iaload, 1) := by decide +kernel
theorem dL_law_299 : decode cL_law 299 = .ok (.invokevirtual 38, 3) := by decide +kernel
theorem dL_law_302 : decode cL_law 302 = .ok (.aload_n 2, 1) := by decide +kernel
theorem dL_law_303 : decode cL_law 303 = .ok (.aload_n 0, 1) := by decide +kernel
theorem dL_law_304 : decode cL_law 304 = .ok (.iload_n 3, 1) := by decide +kernel
theorem dL_law_305 : decode cL_law 305 = .ok (.iconst 1, 1) := by decide +kernel
theorem dL_law_306 : decode cL_law 306 = .ok (.iadd, 1) := by decide +kernel
theorem dL_law_307 : decode cL_law 307 = .ok (.iaload, 1) := by decide +kernel
theorem dL_law_308 : decode cL_law 308 = .ok (.aload_n 0, 1) := by decide +kernel
theorem dL_law_309 : decode cL_law 309 = .ok (.iload_n 3, 1) := by decide +kernel
theorem dL_law_310 : decode cL_law 310 = .ok (.iconst 2, 1) := by decide +kernel
theorem dL_law_311 : decode cL_law 311 = .ok (.iadd, 1) := by decide +kernel
theorem dL_law_312 : decode cL_law 312 = .ok (.iaload, 1) := by decide +kernel
theorem dL_law_313 : decode cL_law 313 = .ok (.aload_n 0, 1) := by decide +kernel
theorem dL_law_314 : decode cL_law 314 = .ok (.iload_n 3, 1) := by decide +kernel
theorem dL_law_315 : decode cL_law 315 = .ok (.iconst 3, 1) := by decide +kernel
theorem dL_law_316 : decode cL_law 316 = .ok (.iadd, 1) := by decide +kernel
theorem dL_law_317 : decode cL_law 317 = .ok (.iaload, 1) := by decide +kernel
theorem dL_law_318 : decode cL_law 318 = .ok (.invokevirtual 42, 3) := by decide +kernel
theorem dL_law_321 : decode cL_law 321 = .ok (.if_icmp .eq 828, 3) := by decide +kernel
theorem dL_law_326 : decode cL_law 326 = .ok (.aload_n 1, 1) := by decide +kernel
theorem dL_law_327 : decode cL_law 327 = .ok (.invokevirtual 43, 3) := by decide +kernel
theorem dL_law_330 : decode cL_law 330 = .ok (.aload_n 2, 1) := by decide +kernel
theorem dL_law_331 : decode cL_law 331 = .ok (.invokevirtual 46, 3) := by decide +kernel
theorem dL_law_334 : decode cL_law 334 = .ok (.if_icmp .eq 815, 3) := by decide +kernel
theorem dL_law_339 : decode cL_law 339 = .ok (.aload_n 1, 1) := by decide +kernel
theorem dL_law_340 : decode cL_law 340 = .ok (.aload_n 0, 1) := by decide +kernel
theorem dL_law_341 : decode cL_law 341 = .ok (.iload_n 3, 1) := by decide +kernel
theorem dL_law_342 : decode cL_law 342 = .ok (.iconst 1, 1) := by decide +kernel
theorem dL_law_343 : decode cL_law 343 = .ok (.iadd, 1) := by decide +kernel
theorem dL_law_344 : decode cL_law 344 = .ok (.iaload, 1) := by decide +kernel
theorem dL_law_345 : decode cL_law 345 = .ok (.aload_n 0, 1) := by decide +kernel
theorem dL_law_346 : decode cL_law 346 = .ok (.iload_n 3, 1) := by decide +kernel
theorem dL_law_347 : decode cL_law 347 = .ok (.iconst 2, 1) := by decide +kernel
theorem dL_law_348 : decode cL_law 348 = .ok (.iadd, 1) := by decide +kernel
theorem dL_law_349 : decode cL_law 349 = .ok (.iaload, 1) := by decide +kernel
theorem dL_law_350 : decode cL_law 350 = .ok (.invokevirtual 47, 3) := by decide +kernel
theorem dL_law_353 : decode cL_law 353 = .ok (.aload_n 2, 1) := by decide +kernel
theorem dL_law_354 : decode cL_law 354 = .ok (.aload_n 0, 1) := by decide +kernel
theorem dL_law_355 : decode cL_law 355 = .ok (.iload_n 3, 1) := by decide +kernel
theorem dL_law_356 : decode cL_law 356 = .ok (.iconst 1, 1) := by decide +kernel
theorem dL_law_357 : decode cL_law 357 = .ok (.iadd, 1) := by decide +kernel
theorem dL_law_358 : decode cL_law 358 = .ok (.iaload, 1) := by decide +kernel
theorem dL_law_359 : decode cL_law 359 = .ok (.aload_n 0, 1) := by decide +kernel
theorem dL_law_360 : decode cL_law 360 = .ok (.iload_n 3, 1) := by decide +kernel
theorem dL_law_361 : decode cL_law 361 = .ok (.iconst 2, 1) := by decide +kernel
theorem dL_law_362 : decode cL_law 362 = .ok (.iadd, 1) := by decide +kernel
theorem dL_law_363 : decode cL_law 363 = .ok (.iaload, 1) := by decide +kernel
theorem dL_law_364 : decode cL_law 364 = .ok (.invokevirtual 51, 3) := by decide +kernel
theorem dL_law_367 : decode cL_law 367 = .ok (.if_icmp .eq 782, 3) := by decide +kernel
theorem dL_law_372 : decode cL_law 372 = .ok (.aload_n 1, 1) := by decide +kernel
theorem dL_law_373 : decode cL_law 373 = .ok (.aload_n 0, 1) := by decide +kernel
theorem dL_law_374 : decode cL_law 374 = .ok (.iload_n 3, 1) := by decide +kernel
theorem dL_law_375 : decode cL_law 375 = .ok (.iconst 1, 1) := by decide +kernel
theorem dL_law_376 : decode cL_law 376 = .ok (.iadd, 1) := by decide +kernel
theorem dL_law_377 : decode cL_law 377 = .ok (.iaload, 1) := by decide +kernel
theorem dL_law_378 : decode cL_law 378 = .ok (.invokevirtual 52, 3) := by decide +kernel
theorem dL_law_381 : decode cL_law 381 = .ok (.aload_n 2, 1) := by decide +kernel
theorem dL_law_382 : decode cL_law 382 = .ok (.aload_n 0, 1) := by decide +kernel
theorem dL_law_383 : decode cL_law 383 = .ok (.iload_n 3, 1) := by decide +kernel
theorem dL_law_384 : decode cL_law 384 = .ok (.iconst 1, 1) := by decide +kernel
theorem dL_law_385 : decode cL_law 385 = .ok (.iadd, 1) := by decide +kernel
theorem dL_law_386 : decode cL_law 386 = .ok (.iaload, 1) := by decide +kernel
theorem dL_law_387 : decode cL_law 387 = .ok (.invokevirtual 55, 3) := by decide +kernel
theorem dL_law_390 : decode cL_law 390 = .ok (.if_icmp .eq 759, 3) := by decide +kernel
theorem dL_law_395 : decode cL_law 395 = .ok (.aload_n 1, 1) := by decide +kernel
theorem dL_law_396 : decode cL_law 396 = .ok (.aload_n 0, 1) := by decide +kernel
theorem dL_law_397 : decode cL_law 397 = .ok (.iload_n 3, 1) := by decide +kernel
theorem dL_law_398 : decode cL_law 398 = .ok (.iconst 1, 1) := by decide +kernel
theorem dL_law_399 : decode cL_law 399 = .ok (.iadd, 1) := by decide +kernel
theorem dL_law_400 : decode cL_law 400 = .ok (.iaload, 1) := by decide +kernel
theorem dL_law_401 : decode cL_law 401 = .ok (.aload_n 0, 1) := by decide +kernel
theorem dL_law_402 : decode cL_law 402 = .ok (.iload_n 3, 1) := by decide +kernel
theorem dL_law_403 : decode cL_law 403 = .ok (.iconst 2, 1) := by decide +kernel
theorem dL_law_404 : decode cL_law 404 = .ok (.iadd, 1) := by decide +kernel
theorem dL_law_405 : decode cL_law 405 = .ok (.iaload, 1) := by decide +kernel
theorem dL_law_406 : decode cL_law 406 = .ok (.invokevirtual 56, 3) := by decide +kernel
theorem dL_law_409 : decode cL_law 409 = .ok (.aload_n 2, 1) := by decide +kernel
theorem dL_law_410 : decode cL_law 410 = .ok (.aload_n 0, 1) := by decide +kernel
theorem dL_law_411 : decode cL_law 411 = .ok (.iload_n 3, 1) := by decide +kernel
theorem dL_law_412 : decode cL_law 412 = .ok (.iconst 1, 1) := by decide +kernel
theorem dL_law_413 : decode cL_law 413 = .ok (.iadd, 1) := by decide +kernel
theorem dL_law_414 : decode cL_law 414 = .ok (.iaload, 1) := by decide +kernel
theorem dL_law_415 : decode cL_law 415 = .ok (.aload_n 0, 1) := by decide +kernel
theorem dL_law_416 : decode cL_law 416 = .ok (.iload_n 3, 1) := by decide +kernel
