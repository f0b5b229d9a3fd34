/-! what the machine's tables say of the program: each word by its place in lw_tbl (printed by wip/gen/mkchk.py) -/
abbrev zMT : Type := MethodName × ByteArray × Nat × Option FieldType
def zM : List (zMT × Nat) := [
  ((⟨"FreshHorses$Best", "<init>", "(IILFreshHorses$Search;)V"⟩, prog_2_method_1_code, 4, (Option.none : Option Jvm.ClassFile.FieldType)), 619),
  ((⟨"FreshHorses$Best", "goOver", "(LFreshHorses$Trip;)V"⟩, prog_2_method_2_code, 6, (Option.none : Option Jvm.ClassFile.FieldType)), 765),
  ((⟨"FreshHorses$Even", "<init>", "(II)V"⟩, prog_3_method_1_code, 3, (Option.none : Option Jvm.ClassFile.FieldType)), 499),
  ((⟨"FreshHorses$Even", "goOver", "(LFreshHorses$Trip;)V"⟩, prog_3_method_2_code, 4, (Option.none : Option Jvm.ClassFile.FieldType)), 863),
  ((⟨"FreshHorses$Even", "paceOf", "(LFreshHorses$Trip;)I"⟩, prog_3_method_3_code, 2, (Option.some Jvm.ClassFile.FieldType.int)), 895),
  ((⟨"FreshHorses$Ground", "<init>", "(I)V"⟩, prog_4_method_1_code, 2, (Option.none : Option Jvm.ClassFile.FieldType)), 598),
  ((⟨"FreshHorses$Ground", "paceOf", "(LFreshHorses$Trip;)I"⟩, prog_4_method_2_code, 2, (Option.some Jvm.ClassFile.FieldType.int)), 878),
  ((⟨"FreshHorses$Press", "<init>", "()V"⟩, prog_5_method_1_code, 1, (Option.none : Option Jvm.ClassFile.FieldType)), 610),
  ((⟨"FreshHorses$Press", "paceOf", "(LFreshHorses$Trip;)I"⟩, prog_5_method_2_code, 4, (Option.some Jvm.ClassFile.FieldType.int)), 886),
  ((⟨"FreshHorses$Road", "<init>", "()V"⟩, prog_6_method_1_code, 1, (Option.none : Option Jvm.ClassFile.FieldType)), 334),
  ((⟨"FreshHorses$Road", "firstFault", "([II)I"⟩, prog_6_method_2_code, 4, (Option.some Jvm.ClassFile.FieldType.int)), 384),
  ((⟨"FreshHorses$Road", "isWhole", "()Z"⟩, prog_6_method_3_code, 1, (Option.some Jvm.ClassFile.FieldType.boolean)), 558),
  ((⟨"FreshHorses$Road", "close", "()V"⟩, prog_6_method_4_code, 1, (Option.none : Option Jvm.ClassFile.FieldType)), 562),
  ((⟨"FreshHorses$Road", "accepts", "(I)Z"⟩, prog_6_method_5_code, 2, (Option.some Jvm.ClassFile.FieldType.boolean)), 388),
  ((⟨"FreshHorses$Road", "addMiles", "(I)Z"⟩, prog_6_method_6_code, 3, (Option.some Jvm.ClassFile.FieldType.boolean)), 395),
  ((⟨"FreshHorses$Road", "addPlace", "()V"⟩, prog_6_method_7_code, 1, (Option.none : Option Jvm.ClassFile.FieldType)), 342),
  ((⟨"FreshHorses$Road", "groundOf", "(I)I"⟩, prog_6_method_8_code, 1, (Option.some Jvm.ClassFile.FieldType.int)), 398),
  ((⟨"FreshHorses$Road", "mixInto", "(J)J"⟩, prog_6_method_9_code, 5, (Option.some Jvm.ClassFile.FieldType.long)), 1029),
  ((⟨"FreshHorses$Search", "<init>", "()V"⟩, prog_7_method_1_code, 1, (Option.none : Option Jvm.ClassFile.FieldType)), 233),
  ((⟨"FreshHorses$Search", "measure", "(LFreshHorses$Trip;I)V"⟩, prog_7_method_2_code, 5, (Option.none : Option Jvm.ClassFile.FieldType)), 769),
  ((⟨"FreshHorses$Search", "twinOf", "(I)I"⟩, prog_7_method_3_code, 3, (Option.some Jvm.ClassFile.FieldType.int)), 773),
  ((⟨"FreshHorses$Search", "measureLegs", "(I)V"⟩, prog_7_method_4_code, 6, (Option.none : Option Jvm.ClassFile.FieldType)), 777),
  ((⟨"FreshHorses$Search", "spreadOver", "(LFreshHorses$Sort;II)I"⟩, prog_7_method_5_code, 10, (Option.some Jvm.ClassFile.FieldType.int)), 783),
  ((⟨"FreshHorses$Search", "soonest", "(I)I"⟩, prog_7_method_6_code, 5, (Option.some Jvm.ClassFile.FieldType.int)), 792),
  ((⟨"FreshHorses$Search", "byFoot", "(I)I"⟩, prog_7_method_7_code, 2, (Option.some Jvm.ClassFile.FieldType.int)), 796),
  ((⟨"FreshHorses$Search", "byBeast", "(II)I"⟩, prog_7_method_8_code, 5, (Option.some Jvm.ClassFile.FieldType.int)), 800),
  ((⟨"FreshHorses$Search", "paceToward", "(I)I"⟩, prog_7_method_9_code, 6, (Option.some Jvm.ClassFile.FieldType.int)), 805),
  ((⟨"FreshHorses$Search", "change", "(I)V"⟩, prog_7_method_10_code, 4, (Option.none : Option Jvm.ClassFile.FieldType)), 813),
  ((⟨"FreshHorses$Search", "lookOnward", "(LFreshHorses$Sort;I)V"⟩, prog_7_method_11_code, 11, (Option.none : Option Jvm.ClassFile.FieldType)), 827),
  ((⟨"FreshHorses$Sort", "<init>", "(I)V"⟩, prog_8_method_1_code, 2, (Option.none : Option Jvm.ClassFile.FieldType)), 402),
  ((⟨"FreshHorses$Sort", "firstFault", "([II)I"⟩, prog_8_method_2_code, 4, (Option.some Jvm.ClassFile.FieldType.int)), 429),
  ((⟨"FreshHorses$Sort", "isWhole", "()Z"⟩, prog_8_method_3_code, 1, (Option.some Jvm.ClassFile.FieldType.boolean)), 575),
  ((⟨"FreshHorses$Sort", "accepts", "(I)Z"⟩, prog_8_method_4_code, 3, (Option.some Jvm.ClassFile.FieldType.boolean)), 433),
  ((⟨"FreshHorses$Sort", "endsNumber", "(I)Z"⟩, prog_8_method_5_code, 2, (Option.some Jvm.ClassFile.FieldType.boolean)), 438),
  ((⟨"FreshHorses$Sort", "lengthensNumber", "(I)Z"⟩, prog_8_method_6_code, 2, (Option.some Jvm.ClassFile.FieldType.boolean)), 491),
  ((⟨"FreshHorses$Sort", "reckon", "()V"⟩, prog_8_method_7_code, 4, (Option.none : Option Jvm.ClassFile.FieldType)), 579),
  ((⟨"FreshHorses$Sort", "put", "(IIII)V"⟩, prog_8_method_8_code, 5, (Option.none : Option Jvm.ClassFile.FieldType)), 583),
  ((⟨"FreshHorses$Sort", "minutesOn", "(II)I"⟩, prog_8_method_9_code, 3, (Option.some Jvm.ClassFile.FieldType.int)), 690),
  ((⟨"FreshHorses$Sort", "lossOn", "(II)I"⟩, prog_8_method_10_code, 3, (Option.some Jvm.ClassFile.FieldType.int)), 694),
  ((⟨"FreshHorses$Sort", "fresh", "()I"⟩, prog_8_method_11_code, 1, (Option.some Jvm.ClassFile.FieldType.int)), 706),
  ((⟨"FreshHorses$Sparing", "<init>", "(ILFreshHorses$Search;)V"⟩, prog_9_method_1_code, 3, (Option.none : Option Jvm.ClassFile.FieldType)), 631),
  ((⟨"FreshHorses$Stock", "<init>", "()V"⟩, prog_10_method_1_code, 1, (Option.none : Option Jvm.ClassFile.FieldType)), 112),
  ((⟨"FreshHorses$Stock", "empty", "()V"⟩, prog_10_method_2_code, 1, (Option.none : Option Jvm.ClassFile.FieldType)), 566),
  ((⟨"FreshHorses$Stock", "become", "(LFreshHorses$Stock;)V"⟩, prog_10_method_3_code, 3, (Option.none : Option Jvm.ClassFile.FieldType)), 994),
  ((⟨"FreshHorses$Stock", "addBeast", "(LFreshHorses$Sort;III)I"⟩, prog_10_method_4_code, 5, (Option.some Jvm.ClassFile.FieldType.int)), 713),
  ((⟨"FreshHorses$Stock", "tellOf", "(II)I"⟩, prog_10_method_5_code, 3, (Option.some Jvm.ClassFile.FieldType.int)), 725),
  ((⟨"FreshHorses$Stock", "strengthAt", "(II)I"⟩, prog_10_method_6_code, 4, (Option.some Jvm.ClassFile.FieldType.int)), 733),
  ((⟨"FreshHorses$Stock", "lostBeasts", "()I"⟩, prog_10_method_7_code, 3, (Option.some Jvm.ClassFile.FieldType.int)), 1004),
  ((⟨"FreshHorses$Stock", "standAsLeft", "(LFreshHorses$Trip;)V"⟩, prog_10_method_8_code, 3, (Option.none : Option Jvm.ClassFile.FieldType)), 914),
  ((⟨"FreshHorses$Stock", "hayWithout", "(II)I"⟩, prog_10_method_9_code, 5, (Option.some Jvm.ClassFile.FieldType.int)), 974),
  ((⟨"FreshHorses$Stock", "lastLetter", "()I"⟩, prog_10_method_10_code, 1, (Option.some Jvm.ClassFile.FieldType.int)), 982),
  ((⟨"FreshHorses$Stock", "addLetter", "(I)I"⟩, prog_10_method_11_code, 2, (Option.some Jvm.ClassFile.FieldType.int)), 986),
  ((⟨"FreshHorses$Told", "<init>", "(I)V"⟩, prog_11_method_1_code, 2, (Option.none : Option Jvm.ClassFile.FieldType)), 496),
  ((⟨"FreshHorses$Told", "firstFault", "([II)I"⟩, prog_11_method_2_code, 4, (Option.some Jvm.ClassFile.FieldType.int)), 534),
  ((⟨"FreshHorses$Told", "isWhole", "()Z"⟩, prog_11_method_3_code, 1, (Option.some Jvm.ClassFile.FieldType.boolean)), 653),
  ((⟨"FreshHorses$Told", "accepts", "(I)Z"⟩, prog_11_method_4_code, 3, (Option.some Jvm.ClassFile.FieldType.boolean)), 538),
  ((⟨"FreshHorses$Told", "endsStep", "(I)Z"⟩, prog_11_method_5_code, 2, (Option.some Jvm.ClassFile.FieldType.boolean)), 545),
  ((⟨"FreshHorses$Told", "addDigit", "(I)Z"⟩, prog_11_method_6_code, 2, (Option.some Jvm.ClassFile.FieldType.boolean)), 550),
  ((⟨"FreshHorses$Told", "gaitOf", "(I)I"⟩, prog_11_method_7_code, 1, (Option.some Jvm.ClassFile.FieldType.int)), 541),
  ((⟨"FreshHorses$Told", "goOver", "(LFreshHorses$Trip;)V"⟩, prog_11_method_8_code, 4, (Option.none : Option Jvm.ClassFile.FieldType)), 844),
  ((⟨"FreshHorses$Told", "changesAt", "(LFreshHorses$Trip;I)Z"⟩, prog_11_method_9_code, 2, (Option.some Jvm.ClassFile.FieldType.boolean)), 847),
  ((⟨"FreshHorses$Told", "goesAt", "(LFreshHorses$Trip;I)Z"⟩, prog_11_method_10_code, 3, (Option.some Jvm.ClassFile.FieldType.boolean)), 857),
  ((⟨"FreshHorses$Trip", "<init>", "()V"⟩, prog_12_method_1_code, 1, (Option.none : Option Jvm.ClassFile.FieldType)), 153),
  ((⟨"FreshHorses$Trip", "begin", "(LFreshHorses$Road;LFreshHorses$Stock;I)V"⟩, prog_12_method_2_code, 5, (Option.none : Option Jvm.ClassFile.FieldType)), 757),
  ((⟨"FreshHorses$Trip", "here", "()I"⟩, prog_12_method_3_code, 1, (Option.some Jvm.ClassFile.FieldType.int)), 809),
  ((⟨"FreshHorses$Trip", "isThere", "(I)Z"⟩, prog_12_method_4_code, 2, (Option.some Jvm.ClassFile.FieldType.boolean)), 853),
  ((⟨"FreshHorses$Trip", "takeBeast", "(I)V"⟩, prog_12_method_5_code, 2, (Option.none : Option Jvm.ClassFile.FieldType)), 818),
  ((⟨"FreshHorses$Trip", "leaveMount", "()V"⟩, prog_12_method_6_code, 1, (Option.none : Option Jvm.ClassFile.FieldType)), 822),
  ((⟨"FreshHorses$Trip", "takeStrongest", "()V"⟩, prog_12_method_7_code, 4, (Option.none : Option Jvm.ClassFile.FieldType)), 868),
  ((⟨"FreshHorses$Trip", "lossAt", "(I)I"⟩, prog_12_method_8_code, 2, (Option.some Jvm.ClassFile.FieldType.int)), 836),
  ((⟨"FreshHorses$Trip", "canDo", "(I)Z"⟩, prog_12_method_9_code, 2, (Option.some Jvm.ClassFile.FieldType.boolean)), 861),
  ((⟨"FreshHorses$Trip", "slowedFrom", "(I)I"⟩, prog_12_method_10_code, 3, (Option.some Jvm.ClassFile.FieldType.int)), 882),
  ((⟨"FreshHorses$Trip", "walkAhead", "()I"⟩, prog_12_method_11_code, 3, (Option.some Jvm.ClassFile.FieldType.int)), 890),
  ((⟨"FreshHorses$Trip", "goMile", "(I)V"⟩, prog_12_method_12_code, 2, (Option.none : Option Jvm.ClassFile.FieldType)), 831),
  ((⟨"FreshHorses", "<init>", "()V"⟩, prog_1_method_1_code, 1, (Option.none : Option Jvm.ClassFile.FieldType)), 100),
  ((⟨"FreshHorses", "letters", "(J)I"⟩, prog_1_method_2_code, 5, (Option.some Jvm.ClassFile.FieldType.int)), 314),
  ((⟨"FreshHorses", "blank", "()I"⟩, prog_1_method_3_code, 2, (Option.some Jvm.ClassFile.FieldType.int)), 325),
  ((⟨"FreshHorses", "fault", "(I)I"⟩, prog_1_method_4_code, 2, (Option.some Jvm.ClassFile.FieldType.int)), 329),
  ((⟨"FreshHorses", "road", "()I"⟩, prog_1_method_5_code, 2, (Option.some Jvm.ClassFile.FieldType.int)), 554),
  ((⟨"FreshHorses", "sort", "()I"⟩, prog_1_method_6_code, 2, (Option.some Jvm.ClassFile.FieldType.int)), 571),
  ((⟨"FreshHorses", "ride", "(II)I"⟩, prog_1_method_7_code, 3, (Option.some Jvm.ClassFile.FieldType.int)), 587),
  ((⟨"FreshHorses", "tell", "()I"⟩, prog_1_method_8_code, 2, (Option.some Jvm.ClassFile.FieldType.int)), 649),
  ((⟨"FreshHorses", "as", "(II)I"⟩, prog_1_method_9_code, 3, (Option.some Jvm.ClassFile.FieldType.int)), 657),
  ((⟨"FreshHorses", "roadTold", "(I)I"⟩, prog_1_method_10_code, 2, (Option.some Jvm.ClassFile.FieldType.int)), 668),
  ((⟨"FreshHorses", "sortTold", "(II)I"⟩, prog_1_method_11_code, 3, (Option.some Jvm.ClassFile.FieldType.int)), 672),
  ((⟨"FreshHorses", "takes", "(IIII)I"⟩, prog_1_method_12_code, 5, (Option.some Jvm.ClassFile.FieldType.int)), 680),
  ((⟨"FreshHorses", "beast", "(IIII)I"⟩, prog_1_method_13_code, 5, (Option.some Jvm.ClassFile.FieldType.int)), 698),
  ((⟨"FreshHorses", "about", "(II)I"⟩, prog_1_method_14_code, 3, (Option.some Jvm.ClassFile.FieldType.int)), 717),
  ((⟨"FreshHorses", "strength", "(II)I"⟩, prog_1_method_15_code, 3, (Option.some Jvm.ClassFile.FieldType.int)), 729),
  ((⟨"FreshHorses", "lead", "(II)I"⟩, prog_1_method_16_code, 4, (Option.some Jvm.ClassFile.FieldType.int)), 741),
  ((⟨"FreshHorses", "tried", "(II)I"⟩, prog_1_method_17_code, 4, (Option.some Jvm.ClassFile.FieldType.int)), 745),
  ((⟨"FreshHorses", "left", "(IIII)I"⟩, prog_1_method_18_code, 5, (Option.some Jvm.ClassFile.FieldType.int)), 902),
  ((⟨"FreshHorses", "way", "(IIII)I"⟩, prog_1_method_19_code, 6, (Option.some Jvm.ClassFile.FieldType.int)), 906),
  ((⟨"FreshHorses", "ridden", "(II)I"⟩, prog_1_method_20_code, 5, (Option.some Jvm.ClassFile.FieldType.int)), 910),
  ((⟨"FreshHorses", "wrong", "(II)I"⟩, prog_1_method_21_code, 3, (Option.some Jvm.ClassFile.FieldType.int)), 918),
  ((⟨"FreshHorses", "sooner", "(III)I"⟩, prog_1_method_22_code, 6, (Option.some Jvm.ClassFile.FieldType.int)), 922),
  ((⟨"FreshHorses", "set", "(III)I"⟩, prog_1_method_23_code, 4, (Option.some Jvm.ClassFile.FieldType.int)), 929),
  ((⟨"FreshHorses", "gap", "(III)I"⟩, prog_1_method_24_code, 7, (Option.some Jvm.ClassFile.FieldType.int)), 954),
  ((⟨"FreshHorses", "missed", "(II)I"⟩, prog_1_method_25_code, 8, (Option.some Jvm.ClassFile.FieldType.int)), 958),
  ((⟨"FreshHorses", "hay", "(II)I"⟩, prog_1_method_26_code, 4, (Option.some Jvm.ClassFile.FieldType.int)), 962),
  ((⟨"FreshHorses", "shut", "(III)I"⟩, prog_1_method_27_code, 4, (Option.some Jvm.ClassFile.FieldType.int)), 966),
  ((⟨"FreshHorses", "letter", "(I)I"⟩, prog_1_method_28_code, 2, (Option.some Jvm.ClassFile.FieldType.int)), 978),
  ((⟨"FreshHorses", "day", "(II)I"⟩, prog_1_method_29_code, 3, (Option.some Jvm.ClassFile.FieldType.int)), 990),
  ((⟨"FreshHorses", "fewest", "(III)I"⟩, prog_1_method_30_code, 5, (Option.some Jvm.ClassFile.FieldType.int)), 1008),
  ((⟨"FreshHorses", "image", "()I"⟩, prog_1_method_31_code, 1, (Option.some Jvm.ClassFile.FieldType.int)), 1012),
  ((⟨"FreshHorses", "restore", "()I"⟩, prog_1_method_32_code, 1, (Option.some Jvm.ClassFile.FieldType.int)), 1016),
  ((⟨"FreshHorses", "count", "(I)I"⟩, prog_1_method_33_code, 2, (Option.some Jvm.ClassFile.FieldType.int)), 1020),
  ((⟨"FreshHorses", "digest", "()J"⟩, prog_1_method_34_code, 5, (Option.some Jvm.ClassFile.FieldType.long)), 1024),
  ((⟨"FreshHorses", "isUpTo", "(II)Z"⟩, prog_1_method_35_code, 2, (Option.some Jvm.ClassFile.FieldType.boolean)), 686),
  ((⟨"FreshHorses", "isMinute", "(I)Z"⟩, prog_1_method_36_code, 1, (Option.some Jvm.ClassFile.FieldType.boolean)), 709),
  ((⟨"FreshHorses", "isPace", "(I)Z"⟩, prog_1_method_37_code, 1, (Option.some Jvm.ClassFile.FieldType.boolean)), 683),
  ((⟨"FreshHorses", "isSort", "(I)Z"⟩, prog_1_method_38_code, 2, (Option.some Jvm.ClassFile.FieldType.boolean)), 676),
  ((⟨"FreshHorses", "isRide", "(I)Z"⟩, prog_1_method_39_code, 2, (Option.some Jvm.ClassFile.FieldType.boolean)), 661),
  ((⟨"FreshHorses", "isBeast", "(I)Z"⟩, prog_1_method_40_code, 2, (Option.some Jvm.ClassFile.FieldType.boolean)), 721),
  ((⟨"FreshHorses", "isOnTheWay", "(I)Z"⟩, prog_1_method_41_code, 2, (Option.some Jvm.ClassFile.FieldType.boolean)), 702),
  ((⟨"FreshHorses", "byteOf", "(JI)I"⟩, prog_1_method_42_code, 3, (Option.some Jvm.ClassFile.FieldType.int)), 320),
  ((⟨"FreshHorses", "codesIn", "(J)I"⟩, prog_1_method_43_code, 5, (Option.some Jvm.ClassFile.FieldType.int)), 317),
  ((⟨"FreshHorses", "digitOf", "(I)I"⟩, prog_1_method_44_code, 1, (Option.some Jvm.ClassFile.FieldType.int)), 391),
  ((⟨"FreshHorses", "rideOf", "(II)LFreshHorses$Even;"⟩, prog_1_method_45_code, 3, (Option.some (Jvm.ClassFile.FieldType.object "FreshHorses$Even"))), 593),
  ((⟨"FreshHorses", "addRide", "(LFreshHorses$Even;)I"⟩, prog_1_method_46_code, 2, (Option.some Jvm.ClassFile.FieldType.int)), 645),
  ((⟨"FreshHorses", "isOfKind", "(LFreshHorses$Even;I)Z"⟩, prog_1_method_47_code, 2, (Option.some Jvm.ClassFile.FieldType.boolean)), 664),
  ((⟨"FreshHorses", "refusalOf", "(II)I"⟩, prog_1_method_48_code, 3, (Option.some Jvm.ClassFile.FieldType.int)), 749),
  ((⟨"FreshHorses", "minutesOver", "(LFreshHorses$Stock;II)I"⟩, prog_1_method_49_code, 4, (Option.some Jvm.ClassFile.FieldType.int)), 753),
  ((⟨"FreshHorses", "dayOver", "(II)I"⟩, prog_1_method_50_code, 7, (Option.some Jvm.ClassFile.FieldType.int)), 999),
  ((⟨"FreshHorses", "standFresh", "(LFreshHorses$Sort;I)V"⟩, prog_1_method_51_code, 5, (Option.none : Option Jvm.ClassFile.FieldType)), 933),
  ((⟨"FreshHorses", "prepareSearch", "(LFreshHorses$Stock;I)V"⟩, prog_1_method_52_code, 3, (Option.none : Option Jvm.ClassFile.FieldType)), 937),
  ((⟨"FreshHorses", "soonestSet", "(II)I"⟩, prog_1_method_53_code, 8, (Option.some Jvm.ClassFile.FieldType.int)), 942),
  ((⟨"FreshHorses", "cheapestShut", "(II)I"⟩, prog_1_method_54_code, 8, (Option.some Jvm.ClassFile.FieldType.int)), 970),
  ((⟨"FreshHorses", "mix", "(JJ)J"⟩, prog_1_method_55_code, 4, (Option.some Jvm.ClassFile.FieldType.long)), 1032),
  ((⟨"FreshHorses", "mixAll", "(J[II)J"⟩, prog_1_method_56_code, 7, (Option.some Jvm.ClassFile.FieldType.long)), 1036),
  ((⟨"FreshHorsesModel", "<init>", "()V"⟩, prog_14_method_1_code, 1, (Option.none : Option Jvm.ClassFile.FieldType)), 1044),
  ((⟨"FreshHorsesModel", "in", "(JJJ)Z"⟩, prog_14_method_2_code, 6, (Option.some Jvm.ClassFile.FieldType.boolean)), 1246),
  ((⟨"FreshHorsesModel", "letters", "(J)I"⟩, prog_14_method_3_code, 9, (Option.some Jvm.ClassFile.FieldType.int)), 1233),
  ((⟨"FreshHorsesModel", "blank", "()I"⟩, prog_14_method_4_code, 2, (Option.some Jvm.ClassFile.FieldType.int)), 1238),
  ((⟨"FreshHorsesModel", "isDigit", "(I)Z"⟩, prog_14_method_5_code, 1, (Option.some Jvm.ClassFile.FieldType.boolean)), 1265),
  ((⟨"FreshHorsesModel", "groundOf", "(I)I"⟩, prog_14_method_6_code, 1, (Option.some Jvm.ClassFile.FieldType.int)), 1258),
  ((⟨"FreshHorsesModel", "goRoad", "(I)Z"⟩, prog_14_method_7_code, 5, (Option.some Jvm.ClassFile.FieldType.boolean)), 1254),
  ((⟨"FreshHorsesModel", "goSort", "(I)Z"⟩, prog_14_method_8_code, 3, (Option.some Jvm.ClassFile.FieldType.boolean)), 1262),
  ((⟨"FreshHorsesModel", "paceOf", "(I)I"⟩, prog_14_method_9_code, 1, (Option.some Jvm.ClassFile.FieldType.int)), 1275),
  ((⟨"FreshHorsesModel", "goStep", "(I)Z"⟩, prog_14_method_10_code, 3, (Option.some Jvm.ClassFile.FieldType.boolean)), 1272),
  ((⟨"FreshHorsesModel", "faultOf", "(I)I"⟩, prog_14_method_11_code, 3, (Option.some Jvm.ClassFile.FieldType.int)), 1250),
  ((⟨"FreshHorsesModel", "fault", "(I)I"⟩, prog_14_method_12_code, 2, (Option.some Jvm.ClassFile.FieldType.int)), 1242),
  ((⟨"FreshHorsesModel", "road", "()I"⟩, prog_14_method_13_code, 2, (Option.some Jvm.ClassFile.FieldType.int)), 1279),
  ((⟨"FreshHorsesModel", "sort", "()I"⟩, prog_14_method_14_code, 2, (Option.some Jvm.ClassFile.FieldType.int)), 1283),
  ((⟨"FreshHorsesModel", "isSort", "(I)Z"⟩, prog_14_method_15_code, 2, (Option.some Jvm.ClassFile.FieldType.boolean)), 1299),
  ((⟨"FreshHorsesModel", "roadTold", "(I)I"⟩, prog_14_method_16_code, 2, (Option.some Jvm.ClassFile.FieldType.int)), 1287),
  ((⟨"FreshHorsesModel", "sortTold", "(II)I"⟩, prog_14_method_17_code, 3, (Option.some Jvm.ClassFile.FieldType.int)), 1295),
  ((⟨"FreshHorsesModel", "minutes", "(III)I"⟩, prog_14_method_18_code, 4, (Option.some Jvm.ClassFile.FieldType.int)), 1308),
  ((⟨"FreshHorsesModel", "loss", "(III)I"⟩, prog_14_method_19_code, 4, (Option.some Jvm.ClassFile.FieldType.int)), 1312),
  ((⟨"FreshHorsesModel", "takes", "(IIII)I"⟩, prog_14_method_20_code, 5, (Option.some Jvm.ClassFile.FieldType.int)), 1304),
  ((⟨"FreshHorsesModel", "isMinute", "(I)Z"⟩, prog_14_method_21_code, 1, (Option.some Jvm.ClassFile.FieldType.boolean)), 1319),
  ((⟨"FreshHorsesModel", "beast", "(IIII)I"⟩, prog_14_method_22_code, 5, (Option.some Jvm.ClassFile.FieldType.int)), 1316),
  ((⟨"FreshHorsesModel", "isBeast", "(I)Z"⟩, prog_14_method_23_code, 2, (Option.some Jvm.ClassFile.FieldType.boolean)), 1328),
  ((⟨"FreshHorsesModel", "about", "(II)I"⟩, prog_14_method_24_code, 3, (Option.some Jvm.ClassFile.FieldType.int)), 1324),
  ((⟨"FreshHorsesModel", "strengthAt", "(II)I"⟩, prog_14_method_25_code, 5, (Option.some Jvm.ClassFile.FieldType.int)), 1337),
  ((⟨"FreshHorsesModel", "strength", "(II)I"⟩, prog_14_method_26_code, 3, (Option.some Jvm.ClassFile.FieldType.int)), 1333),
  ((⟨"FreshHorsesModel", "lead", "(II)I"⟩, prog_14_method_27_code, 4, (Option.some Jvm.ClassFile.FieldType.int)), 1341),
  ((⟨"FreshHorsesModel", "ride", "(II)I"⟩, prog_14_method_28_code, 4, (Option.some Jvm.ClassFile.FieldType.int)), 1345),
  ((⟨"FreshHorsesModel", "tell", "()I"⟩, prog_14_method_29_code, 2, (Option.some Jvm.ClassFile.FieldType.int)), 1350),
  ((⟨"FreshHorsesModel", "isRide", "(I)Z"⟩, prog_14_method_30_code, 2, (Option.some Jvm.ClassFile.FieldType.boolean)), 1358),
  ((⟨"FreshHorsesModel", "as", "(II)I"⟩, prog_14_method_31_code, 4, (Option.some Jvm.ClassFile.FieldType.int)), 1354),
  ((⟨"FreshHorsesModel", "takeBeasts", "(II)V"⟩, prog_14_method_32_code, 4, (Option.none : Option Jvm.ClassFile.FieldType)), 1379),
  ((⟨"FreshHorsesModel", "begin", "()V"⟩, prog_14_method_33_code, 1, (Option.none : Option Jvm.ClassFile.FieldType)), 1383),
  ((⟨"FreshHorsesModel", "placeOf", "(I)I"⟩, prog_14_method_34_code, 4, (Option.some Jvm.ClassFile.FieldType.int)), 1395),
  ((⟨"FreshHorsesModel", "leave", "(I)V"⟩, prog_14_method_35_code, 2, (Option.none : Option Jvm.ClassFile.FieldType)), 1407),
  ((⟨"FreshHorsesModel", "change", "(II)V"⟩, prog_14_method_36_code, 3, (Option.none : Option Jvm.ClassFile.FieldType)), 1403),
  ((⟨"FreshHorsesModel", "can", "(III)Z"⟩, prog_14_method_37_code, 4, (Option.some Jvm.ClassFile.FieldType.boolean)), 1411),
  ((⟨"FreshHorsesModel", "goMile", "(II)V"⟩, prog_14_method_38_code, 3, (Option.none : Option Jvm.ClassFile.FieldType)), 1415),
  ((⟨"FreshHorsesModel", "strongest", "(I)I"⟩, prog_14_method_39_code, 6, (Option.some Jvm.ClassFile.FieldType.int)), 1423),
  ((⟨"FreshHorsesModel", "slower", "(III)I"⟩, prog_14_method_40_code, 5, (Option.some Jvm.ClassFile.FieldType.int)), 1435),
  ((⟨"FreshHorsesModel", "pressed", "(II)I"⟩, prog_14_method_41_code, 5, (Option.some Jvm.ClassFile.FieldType.int)), 1431),
  ((⟨"FreshHorsesModel", "wishedPace", "(II)I"⟩, prog_14_method_42_code, 6, (Option.some Jvm.ClassFile.FieldType.int)), 1427),
  ((⟨"FreshHorsesModel", "goPlain", "(I)V"⟩, prog_14_method_43_code, 6, (Option.none : Option Jvm.ClassFile.FieldType)), 1419),
  ((⟨"FreshHorsesModel", "at", "(III)I"⟩, prog_14_method_44_code, 3, (Option.some Jvm.ClassFile.FieldType.int)), 1446),
  ((⟨"FreshHorsesModel", "arrived", "(III)I"⟩, prog_14_method_45_code, 8, (Option.some Jvm.ClassFile.FieldType.int)), 1450),
  ((⟨"FreshHorsesModel", "byPace", "(IIIII)I"⟩, prog_14_method_46_code, 7, (Option.some Jvm.ClassFile.FieldType.int)), 1455),
  ((⟨"FreshHorsesModel", "laySoonest", "(I)V"⟩, prog_14_method_47_code, 8, (Option.none : Option Jvm.ClassFile.FieldType)), 1443),
  ((⟨"FreshHorsesModel", "hasNow", "()I"⟩, prog_14_method_48_code, 1, (Option.some Jvm.ClassFile.FieldType.int)), 1463),
  ((⟨"FreshHorsesModel", "firstChoice", "(II)I"⟩, prog_14_method_49_code, 6, (Option.some Jvm.ClassFile.FieldType.int)), 1459),
  ((⟨"FreshHorsesModel", "goSoonest", "(I)V"⟩, prog_14_method_50_code, 6, (Option.none : Option Jvm.ClassFile.FieldType)), 1439),
  ((⟨"FreshHorsesModel", "soonestOf", "()I"⟩, prog_14_method_51_code, 1, (Option.some Jvm.ClassFile.FieldType.int)), 1505),
  ((⟨"FreshHorsesModel", "isWrongChange", "(II)Z"⟩, prog_14_method_52_code, 3, (Option.some Jvm.ClassFile.FieldType.boolean)), 1399),
  ((⟨"FreshHorsesModel", "goTold", "(II)I"⟩, prog_14_method_53_code, 7, (Option.some Jvm.ClassFile.FieldType.int)), 1391),
  ((⟨"FreshHorsesModel", "goOn", "(II)Z"⟩, prog_14_method_54_code, 3, (Option.some Jvm.ClassFile.FieldType.boolean)), 1387),
  ((⟨"FreshHorsesModel", "tryRide", "(II)Z"⟩, prog_14_method_55_code, 3, (Option.some Jvm.ClassFile.FieldType.boolean)), 1375),
  ((⟨"FreshHorsesModel", "refusal", "(IZZ)I"⟩, prog_14_method_56_code, 4, (Option.some Jvm.ClassFile.FieldType.int)), 1367),
  ((⟨"FreshHorsesModel", "triedOf", "(II)I"⟩, prog_14_method_57_code, 3, (Option.some Jvm.ClassFile.FieldType.int)), 1371),
  ((⟨"FreshHorsesModel", "tried", "(II)I"⟩, prog_14_method_58_code, 4, (Option.some Jvm.ClassFile.FieldType.int)), 1363),
  ((⟨"FreshHorsesModel", "left", "(IIII)I"⟩, prog_14_method_59_code, 6, (Option.some Jvm.ClassFile.FieldType.int)), 1467),
  ((⟨"FreshHorsesModel", "way", "(IIII)I"⟩, prog_14_method_60_code, 6, (Option.some Jvm.ClassFile.FieldType.int)), 1471),
  ((⟨"FreshHorsesModel", "stay", "(I)V"⟩, prog_14_method_61_code, 3, (Option.none : Option Jvm.ClassFile.FieldType)), 1479),
  ((⟨"FreshHorsesModel", "ridden", "(II)I"⟩, prog_14_method_62_code, 4, (Option.some Jvm.ClassFile.FieldType.int)), 1475),
  ((⟨"FreshHorsesModel", "wrong", "(II)I"⟩, prog_14_method_63_code, 3, (Option.some Jvm.ClassFile.FieldType.int)), 1483),
  ((⟨"FreshHorsesModel", "sooner", "(III)I"⟩, prog_14_method_64_code, 6, (Option.some Jvm.ClassFile.FieldType.int)), 1487),
  ((⟨"FreshHorsesModel", "bitsOf", "(I)I"⟩, prog_14_method_65_code, 3, (Option.some Jvm.ClassFile.FieldType.int)), 1497),
  ((⟨"FreshHorsesModel", "fresh", "(II)V"⟩, prog_14_method_66_code, 4, (Option.none : Option Jvm.ClassFile.FieldType)), 1501),
  ((⟨"FreshHorsesModel", "set", "(III)I"⟩, prog_14_method_67_code, 8, (Option.some Jvm.ClassFile.FieldType.int)), 1494),
  ((⟨"FreshHorsesModel", "gap", "(III)I"⟩, prog_14_method_68_code, 6, (Option.some Jvm.ClassFile.FieldType.int)), 1509),
  ((⟨"FreshHorsesModel", "soonestWithout", "(II)I"⟩, prog_14_method_69_code, 3, (Option.some Jvm.ClassFile.FieldType.int)), 1517),
  ((⟨"FreshHorsesModel", "missed", "(II)I"⟩, prog_14_method_70_code, 8, (Option.some Jvm.ClassFile.FieldType.int)), 1513),
  ((⟨"FreshHorsesModel", "hay", "(II)I"⟩, prog_14_method_71_code, 4, (Option.some Jvm.ClassFile.FieldType.int)), 1521),
  ((⟨"FreshHorsesModel", "shut", "(III)I"⟩, prog_14_method_72_code, 9, (Option.some Jvm.ClassFile.FieldType.int)), 1526),
  ((⟨"FreshHorsesModel", "letter", "(I)I"⟩, prog_14_method_73_code, 2, (Option.some Jvm.ClassFile.FieldType.int)), 1531),
  ((⟨"FreshHorsesModel", "remember", "()V"⟩, prog_14_method_74_code, 2, (Option.none : Option Jvm.ClassFile.FieldType)), 1539),
  ((⟨"FreshHorsesModel", "recall", "()V"⟩, prog_14_method_75_code, 2, (Option.none : Option Jvm.ClassFile.FieldType)), 1551),
  ((⟨"FreshHorsesModel", "goDay", "(I)Z"⟩, prog_14_method_76_code, 4, (Option.some Jvm.ClassFile.FieldType.boolean)), 1543),
  ((⟨"FreshHorsesModel", "lostMany", "()I"⟩, prog_14_method_77_code, 3, (Option.some Jvm.ClassFile.FieldType.int)), 1547),
  ((⟨"FreshHorsesModel", "day", "(II)I"⟩, prog_14_method_78_code, 6, (Option.some Jvm.ClassFile.FieldType.int)), 1535),
  ((⟨"FreshHorsesModel", "fewest", "(III)I"⟩, prog_14_method_79_code, 7, (Option.some Jvm.ClassFile.FieldType.int)), 1555),
  ((⟨"FreshHorsesModel", "image", "()I"⟩, prog_14_method_80_code, 2, (Option.some Jvm.ClassFile.FieldType.int)), 1559),
  ((⟨"FreshHorsesModel", "restore", "()I"⟩, prog_14_method_81_code, 2, (Option.some Jvm.ClassFile.FieldType.int)), 1563),
  ((⟨"FreshHorsesModel", "countOf", "(I)I"⟩, prog_14_method_82_code, 2, (Option.some Jvm.ClassFile.FieldType.int)), 1571),
  ((⟨"FreshHorsesModel", "count", "(I)I"⟩, prog_14_method_83_code, 2, (Option.some Jvm.ClassFile.FieldType.int)), 1567),
  ((⟨"FreshHorsesModel", "say", "(J)V"⟩, prog_14_method_84_code, 3, (Option.none : Option Jvm.ClassFile.FieldType)), 1584),
  ((⟨"FreshHorsesModel", "tellRoad", "()V"⟩, prog_14_method_85_code, 2, (Option.none : Option Jvm.ClassFile.FieldType)), 1580),
  ((⟨"FreshHorsesModel", "digest", "()J"⟩, prog_14_method_86_code, 2, (Option.some Jvm.ClassFile.FieldType.long)), 1575),
  ((⟨"java/lang/Integer", "bitCount", "(I)I"⟩, prog_15_method_49_code, 1, (Option.some Jvm.ClassFile.FieldType.int)), 946),
  ((⟨"java/util/Arrays", "fill", "([II)V"⟩, prog_21_method_103_code, 4, (Option.none : Option Jvm.ClassFile.FieldType)), 338)]
def zFw : List (List (Nat × (Nat × String))) := [
  [(9, (621, "FreshHorses$Best")), (15, (512, "FreshHorses$Best")), (29, (160, "FreshHorses$Trip")), (35, (356, "FreshHorses$Road")), (40, (164, "FreshHorses$Trip"))],
  [(9, (509, "FreshHorses$Even")), (15, (511, "FreshHorses$Even")), (18, (157, "FreshHorses$Trip")), (24, (355, "FreshHorses$Road")), (36, (171, "FreshHorses$Trip"))],
  [(9, (600, "FreshHorses$Ground")), (15, (158, "FreshHorses$Trip")), (21, (344, "FreshHorses$Road")), (26, (167, "FreshHorses$Trip"))],
  [(9, (183, "FreshHorses$Trip")), (15, (170, "FreshHorses$Trip"))],
  [(9, (343, "FreshHorses$Road")), (15, (348, "FreshHorses$Road")), (18, (351, "FreshHorses$Road")), (21, (354, "FreshHorses$Road")), (25, (361, "FreshHorses$Road")), (28, (364, "FreshHorses$Road")), (31, (365, "FreshHorses$Road"))],
  [(11, (237, "FreshHorses$Search")), (16, (238, "FreshHorses$Search")), (20, (239, "FreshHorses$Search")), (23, (240, "FreshHorses$Search")), (26, (241, "FreshHorses$Search")), (29, (242, "FreshHorses$Search")), (33, (243, "FreshHorses$Search")), (37, (244, "FreshHorses$Search")), (41, (159, "FreshHorses$Trip")), (44, (175, "FreshHorses$Trip")), (61, (179, "FreshHorses$Trip")), (64, (184, "FreshHorses$Trip")), (67, (177, "FreshHorses$Trip")), (71, (405, "FreshHorses$Sort")), (83, (349, "FreshHorses$Road")), (88, (357, "FreshHorses$Road")), (91, (345, "FreshHorses$Road")), (98, (353, "FreshHorses$Road")), (108, (363, "FreshHorses$Road")), (122, (172, "FreshHorses$Trip")), (125, (168, "FreshHorses$Trip"))],
  [(11, (407, "FreshHorses$Sort")), (15, (409, "FreshHorses$Sort")), (18, (410, "FreshHorses$Sort")), (21, (411, "FreshHorses$Sort")), (25, (412, "FreshHorses$Sort")), (29, (404, "FreshHorses$Sort"))],
  [],
  [(9, (115, "FreshHorses$Stock")), (17, (118, "FreshHorses$Stock")), (21, (120, "FreshHorses$Stock")), (25, (123, "FreshHorses$Stock")), (28, (124, "FreshHorses$Stock")), (31, (125, "FreshHorses$Stock")), (34, (127, "FreshHorses$Stock")), (37, (129, "FreshHorses$Stock")), (52, (406, "FreshHorses$Sort")), (65, (190, "FreshHorses$Trip")), (71, (180, "FreshHorses$Trip")), (72, (185, "FreshHorses$Trip")), (73, (188, "FreshHorses$Trip"))],
  [(9, (506, "FreshHorses$Told")), (15, (507, "FreshHorses$Told")), (18, (508, "FreshHorses$Told")), (27, (504, "FreshHorses$Told")), (31, (505, "FreshHorses$Told")), (51, (161, "FreshHorses$Trip")), (57, (358, "FreshHorses$Road")), (69, (197, "FreshHorses$Trip")), (80, (173, "FreshHorses$Trip"))],
  [(9, (156, "FreshHorses$Trip")), (15, (162, "FreshHorses$Trip")), (19, (163, "FreshHorses$Trip")), (22, (166, "FreshHorses$Trip")), (25, (169, "FreshHorses$Trip")), (28, (174, "FreshHorses$Trip")), (33, (176, "FreshHorses$Trip")), (37, (178, "FreshHorses$Trip")), (41, (182, "FreshHorses$Trip")), (44, (187, "FreshHorses$Trip")), (47, (189, "FreshHorses$Trip")), (51, (192, "FreshHorses$Trip")), (54, (194, "FreshHorses$Trip")), (57, (196, "FreshHorses$Trip")), (60, (116, "FreshHorses$Stock")), (63, (119, "FreshHorses$Stock")), (64, (121, "FreshHorses$Stock")), (69, (352, "FreshHorses$Road")), (89, (346, "FreshHorses$Road")), (102, (360, "FreshHorses$Road"))],
  [(9, (262, "FreshHorses")), (15, (263, "FreshHorses")), (21, (264, "FreshHorses")), (28, (265, "FreshHorses")), (32, (266, "FreshHorses")), (35, (267, "FreshHorses")), (41, (268, "FreshHorses")), (48, (269, "FreshHorses")), (52, (270, "FreshHorses")), (56, (271, "FreshHorses")), (60, (272, "FreshHorses")), (63, (273, "FreshHorses")), (66, (274, "FreshHorses")), (69, (275, "FreshHorses")), (72, (276, "FreshHorses")), (75, (277, "FreshHorses")), (111, (362, "FreshHorses$Road")), (138, (359, "FreshHorses$Road")), (141, (350, "FreshHorses$Road")), (144, (347, "FreshHorses$Road")), (150, (408, "FreshHorses$Sort")), (177, (117, "FreshHorses$Stock")), (193, (122, "FreshHorses$Stock")), (203, (181, "FreshHorses$Trip")), (204, (186, "FreshHorses$Trip")), (207, (191, "FreshHorses$Trip")), (211, (193, "FreshHorses$Trip")), (214, (195, "FreshHorses$Trip")), (221, (198, "FreshHorses$Trip")), (242, (126, "FreshHorses$Stock")), (251, (128, "FreshHorses$Stock")), (281, (510, "FreshHorses$Even")), (284, (514, "FreshHorses$Even")), (287, (130, "FreshHorses$Stock")), (321, (165, "FreshHorses$Trip"))],
  [(7, (1046, "FreshHorsesModel")), (13, (1054, "FreshHorsesModel")), (16, (1055, "FreshHorsesModel")), (19, (1056, "FreshHorsesModel")), (22, (1057, "FreshHorsesModel")), (25, (1058, "FreshHorsesModel")), (28, (1061, "FreshHorsesModel")), (31, (1062, "FreshHorsesModel")), (34, (1063, "FreshHorsesModel")), (37, (1066, "FreshHorsesModel")), (40, (1068, "FreshHorsesModel")), (43, (1069, "FreshHorsesModel")), (46, (1070, "FreshHorsesModel")), (49, (1071, "FreshHorsesModel")), (52, (1073, "FreshHorsesModel")), (55, (1074, "FreshHorsesModel")), (58, (1075, "FreshHorsesModel")), (61, (1076, "FreshHorsesModel")), (64, (1077, "FreshHorsesModel")), (67, (1079, "FreshHorsesModel")), (70, (1080, "FreshHorsesModel")), (73, (1081, "FreshHorsesModel")), (76, (1082, "FreshHorsesModel")), (79, (1083, "FreshHorsesModel")), (83, (1084, "FreshHorsesModel")), (86, (1085, "FreshHorsesModel")), (89, (1088, "FreshHorsesModel")), (92, (1091, "FreshHorsesModel")), (95, (1093, "FreshHorsesModel")), (98, (1094, "FreshHorsesModel")), (101, (1095, "FreshHorsesModel")), (104, (1096, "FreshHorsesModel")), (107, (1103, "FreshHorsesModel")), (110, (1104, "FreshHorsesModel")), (113, (1105, "FreshHorsesModel")), (116, (1100, "FreshHorsesModel")), (122, (1047, "FreshHorsesModel")), (133, (1048, "FreshHorsesModel")), (138, (1050, "FreshHorsesModel")), (141, (1049, "FreshHorsesModel")), (144, (1051, "FreshHorsesModel")), (151, (1052, "FreshHorsesModel")), (160, (1053, "FreshHorsesModel")), (180, (1059, "FreshHorsesModel")), (183, (1060, "FreshHorsesModel")), (186, (1067, "FreshHorsesModel")), (189, (1090, "FreshHorsesModel")), (192, (1064, "FreshHorsesModel")), (195, (1065, "FreshHorsesModel")), (234, (1072, "FreshHorsesModel")), (242, (1078, "FreshHorsesModel")), (248, (1086, "FreshHorsesModel")), (251, (1087, "FreshHorsesModel")), (340, (1089, "FreshHorsesModel")), (359, (1092, "FreshHorsesModel")), (362, (1097, "FreshHorsesModel")), (365, (1098, "FreshHorsesModel")), (380, (1099, "FreshHorsesModel")), (383, (1101, "FreshHorsesModel")), (386, (1102, "FreshHorsesModel")), (394, (1106, "FreshHorsesModel"))],
  [],
  []]
def zCw : List (List (Nat × (MethodName × List Nat))) := [
  [(3, (⟨"FreshHorses$Even", "<init>", "(II)V"⟩, [620, 498, 87])), (19, (⟨"FreshHorses$Search", "measure", "(LFreshHorses$Trip;I)V"⟩, [766, 767, 768, 78])), (25, (⟨"FreshHorses$Search", "soonest", "(I)I"⟩, [789, 790, 791, 78])), (43, (⟨"FreshHorses$Search", "paceToward", "(I)I"⟩, [802, 803, 804, 78])), (46, (⟨"FreshHorses$Trip", "here", "()I"⟩, [806, 807, 808, 77])), (50, (⟨"FreshHorses$Search", "change", "(I)V"⟩, [810, 811, 812, 78])), (54, (⟨"FreshHorses$Trip", "goMile", "(I)V"⟩, [828, 829, 830, 77])), (57, (⟨"FreshHorses$Trip", "leaveMount", "()V"⟩, [838, 820, 821, 77]))],
  [(3, (⟨"java/lang/Object", "<init>", "()V"⟩, [500, 102])), (29, (⟨"FreshHorses$Trip", "here", "()I"⟩, [864, 807, 808, 77])), (33, (⟨"FreshHorses$Trip", "takeStrongest", "()V"⟩, [865, 866, 867, 77])), (39, (⟨"FreshHorses$Even", "paceOf", "(LFreshHorses$Trip;)I"⟩, [871, 874, 872, 875, 872, 87, 873, 872, 87, 876, 877, 90, 884, 885, 91, 893, 872, 87, 894, 872, 87])), (43, (⟨"FreshHorses$Trip", "goMile", "(I)V"⟩, [897, 829, 830, 77])), (47, (⟨"FreshHorses$Trip", "leaveMount", "()V"⟩, [898, 820, 821, 77])), (50, (⟨"FreshHorses$Trip", "slowedFrom", "(I)I"⟩, [896, 880, 881, 77]))],
  [(3, (⟨"FreshHorses$Even", "<init>", "(II)V"⟩, [599, 498, 87])), (30, (⟨"FreshHorses$Trip", "slowedFrom", "(I)I"⟩, [879, 880, 881, 77]))],
  [(3, (⟨"FreshHorses$Even", "<init>", "(II)V"⟩, [611, 498, 87])), (19, (⟨"FreshHorses$Trip", "walkAhead", "()I"⟩, [887, 888, 889, 77])), (23, (⟨"FreshHorses$Trip", "lossAt", "(I)I"⟩, [891, 834, 835, 77])), (27, (⟨"FreshHorses$Trip", "slowedFrom", "(I)I"⟩, [892, 880, 881, 77]))],
  [(3, (⟨"java/lang/Object", "<init>", "()V"⟩, [335, 102])), (34, (⟨"java/util/Arrays", "fill", "([II)V"⟩, [336, 337, 81])), (40, (⟨"FreshHorses$Road", "addPlace", "()V"⟩, [339, 341, 0, 80])), (43, (⟨"FreshHorses$Road", "accepts", "(I)Z"⟩, [385, 387, 1, 80])), (47, (⟨"FreshHorses", "digitOf", "(I)I"⟩, [390, 75])), (51, (⟨"FreshHorses$Road", "addMiles", "(I)Z"⟩, [392, 394, 2, 80])), (54, (⟨"FreshHorses$Road", "groundOf", "(I)I"⟩, [396, 397, 80])), (57, (⟨"FreshHorses", "mix", "(JJ)J"⟩, [1031, 75])), (61, (⟨"FreshHorses", "mixAll", "(J[II)J"⟩, [1035, 75]))],
  [(3, (⟨"java/lang/Object", "<init>", "()V"⟩, [234, 102])), (47, (⟨"FreshHorses$Search", "twinOf", "(I)I"⟩, [770, 772, 18, 78])), (51, (⟨"FreshHorses$Search", "measureLegs", "(I)V"⟩, [774, 776, 19, 78])), (55, (⟨"java/lang/System", "arraycopy", "(Ljava/lang/Object;ILjava/lang/Object;II)V"⟩, [786, 788, 787, 94])), (77, (⟨"java/util/Arrays", "fill", "([II)V"⟩, [779, 337, 81])), (94, (⟨"FreshHorses$Search", "spreadOver", "(LFreshHorses$Sort;II)I"⟩, [780, 782, 20, 78])), (101, (⟨"FreshHorses$Sort", "lossOn", "(II)I"⟩, [784, 692, 693, 82])), (105, (⟨"FreshHorses$Sort", "minutesOn", "(II)I"⟩, [785, 688, 689, 82])), (111, (⟨"FreshHorses$Search", "byFoot", "(I)I"⟩, [793, 795, 21, 78])), (114, (⟨"FreshHorses$Search", "byBeast", "(II)I"⟩, [797, 799, 22, 78])), (117, (⟨"java/lang/Math", "min", "(II)I"⟩, [801, 736, 89, 737])), (128, (⟨"FreshHorses$Trip", "here", "()I"⟩, [814, 807, 808, 77])), (132, (⟨"FreshHorses$Trip", "takeBeast", "(I)V"⟩, [815, 816, 817, 77])), (135, (⟨"FreshHorses$Search", "lookOnward", "(LFreshHorses$Sort;I)V"⟩, [824, 826, 23, 78]))],
  [(3, (⟨"java/lang/Object", "<init>", "()V"⟩, [403, 102])), (32, (⟨"FreshHorses$Sort", "accepts", "(I)Z"⟩, [430, 432, 3, 82])), (36, (⟨"FreshHorses", "digitOf", "(I)I"⟩, [390, 75])), (40, (⟨"FreshHorses$Sort", "endsNumber", "(I)Z"⟩, [435, 437, 4, 82])), (43, (⟨"FreshHorses$Sort", "lengthensNumber", "(I)Z"⟩, [488, 490, 5, 82])), (48, (⟨"java/lang/String", "length", "()I"⟩, [440, 441, 442, 83])), (54, (⟨"java/lang/String", "charAt", "(I)C"⟩, [450, 451, 452, 83])), (58, (⟨"FreshHorses$Sort", "put", "(IIII)V"⟩, [580, 582, 9, 82]))],
  [(3, (⟨"FreshHorses$Best", "<init>", "(IILFreshHorses$Search;)V"⟩, [632, 618, 92]))],
  [(3, (⟨"java/lang/Object", "<init>", "()V"⟩, [113, 102])), (40, (⟨"java/util/Arrays", "fill", "([II)V"⟩, [567, 337, 81])), (46, (⟨"java/lang/System", "arraycopy", "(Ljava/lang/Object;ILjava/lang/Object;II)V"⟩, [995, 788, 787, 94])), (55, (⟨"FreshHorses$Sort", "fresh", "()I"⟩, [734, 704, 705, 82])), (59, (⟨"java/lang/Math", "min", "(II)I"⟩, [735, 736, 89, 737]))],
  [(3, (⟨"FreshHorses$Even", "<init>", "(II)V"⟩, [497, 498, 87])), (21, (⟨"java/lang/Math", "max", "(II)I"⟩, [501, 502, 89, 503])), (34, (⟨"FreshHorses$Told", "accepts", "(I)Z"⟩, [535, 537, 6, 88])), (38, (⟨"FreshHorses$Told", "gaitOf", "(I)I"⟩, [539, 540, 88])), (42, (⟨"FreshHorses$Told", "endsStep", "(I)Z"⟩, [542, 544, 7, 88])), (45, (⟨"FreshHorses", "digitOf", "(I)I"⟩, [390, 75])), (48, (⟨"FreshHorses$Told", "addDigit", "(I)Z"⟩, [547, 549, 8, 88])), (62, (⟨"FreshHorses$Told", "changesAt", "(LFreshHorses$Trip;I)Z"⟩, [845, 846, 88])), (66, (⟨"FreshHorses$Told", "goesAt", "(LFreshHorses$Trip;I)Z"⟩, [855, 856, 88])), (72, (⟨"FreshHorses$Trip", "leaveMount", "()V"⟩, [849, 820, 821, 77])), (76, (⟨"FreshHorses$Trip", "here", "()I"⟩, [848, 807, 808, 77])), (83, (⟨"FreshHorses$Trip", "isThere", "(I)Z"⟩, [850, 851, 852, 77])), (86, (⟨"FreshHorses$Trip", "takeBeast", "(I)V"⟩, [854, 816, 817, 77])), (90, (⟨"FreshHorses$Trip", "canDo", "(I)Z"⟩, [858, 859, 860, 77])), (93, (⟨"FreshHorses$Trip", "goMile", "(I)V"⟩, [862, 829, 830, 77]))],
  [(3, (⟨"java/lang/Object", "<init>", "()V"⟩, [154, 102])), (65, (⟨"FreshHorses$Stock", "strengthAt", "(II)I"⟩, [758, 731, 732, 76])), (74, (⟨"FreshHorses$Trip", "here", "()I"⟩, [823, 807, 808, 77])), (78, (⟨"FreshHorses$Trip", "leaveMount", "()V"⟩, [819, 820, 821, 77])), (81, (⟨"FreshHorses$Trip", "isThere", "(I)Z"⟩, [869, 851, 852, 77])), (85, (⟨"FreshHorses$Trip", "takeBeast", "(I)V"⟩, [870, 816, 817, 77])), (92, (⟨"FreshHorses$Sort", "lossOn", "(II)I"⟩, [837, 692, 693, 82])), (95, (⟨"FreshHorses$Trip", "lossAt", "(I)I"⟩, [833, 834, 835, 77])), (99, (⟨"FreshHorses$Trip", "canDo", "(I)Z"⟩, [883, 859, 860, 77])), (105, (⟨"FreshHorses$Sort", "minutesOn", "(II)I"⟩, [832, 688, 689, 82]))],
  [(1, (⟨"java/lang/Object", "<init>", "()V"⟩, [101, 102])), (27, (⟨"FreshHorses$Stock", "<init>", "()V"⟩, [111, 76])), (40, (⟨"FreshHorses$Trip", "<init>", "()V"⟩, [152, 77])), (47, (⟨"FreshHorses$Search", "<init>", "()V"⟩, [232, 78])), (78, (⟨"FreshHorses", "codesIn", "(J)I"⟩, [315, 316, 75])), (82, (⟨"FreshHorses", "byteOf", "(JI)I"⟩, [318, 319, 75])), (88, (⟨"FreshHorses$Road", "<init>", "()V"⟩, [332, 333, 80])), (89, (⟨"FreshHorses$Road", "firstFault", "([II)I"⟩, [381, 382, 383, 80])), (93, (⟨"FreshHorses$Sort", "<init>", "(I)V"⟩, [400, 401, 82])), (96, (⟨"FreshHorses$Sort", "firstFault", "([II)I"⟩, [426, 427, 428, 82])), (99, (⟨"FreshHorses$Told", "<init>", "(I)V"⟩, [494, 495, 88])), (100, (⟨"FreshHorses$Told", "firstFault", "([II)I"⟩, [531, 532, 533, 88])), (101, (⟨"FreshHorses$Road", "isWhole", "()Z"⟩, [555, 556, 557, 80])), (105, (⟨"FreshHorses$Road", "close", "()V"⟩, [559, 560, 561, 80])), (108, (⟨"FreshHorses$Stock", "empty", "()V"⟩, [563, 564, 565, 76])), (114, (⟨"FreshHorses$Sort", "isWhole", "()Z"⟩, [572, 573, 574, 82])), (115, (⟨"FreshHorses$Sort", "reckon", "()V"⟩, [576, 577, 578, 82])), (121, (⟨"FreshHorses", "rideOf", "(II)LFreshHorses$Even;"⟩, [590, 592, 10, 75])), (125, (⟨"FreshHorses", "addRide", "(LFreshHorses$Even;)I"⟩, [642, 644, 11, 75])), (129, (⟨"FreshHorses$Told", "isWhole", "()Z"⟩, [650, 651, 652, 88])), (130, (⟨"FreshHorses", "isRide", "(I)Z"⟩, [658, 660, 12, 75])), (134, (⟨"FreshHorses", "isOfKind", "(LFreshHorses$Even;I)Z"⟩, [662, 663, 75])), (147, (⟨"FreshHorses", "isSort", "(I)Z"⟩, [673, 675, 13, 75])), (153, (⟨"FreshHorses", "isPace", "(I)Z"⟩, [681, 682, 75])), (156, (⟨"FreshHorses", "isUpTo", "(II)Z"⟩, [684, 685, 75])), (160, (⟨"FreshHorses$Sort", "minutesOn", "(II)I"⟩, [687, 688, 689, 82])), (164, (⟨"FreshHorses$Sort", "lossOn", "(II)I"⟩, [691, 692, 693, 82])), (167, (⟨"FreshHorses", "isOnTheWay", "(I)Z"⟩, [699, 701, 14, 75])), (170, (⟨"FreshHorses$Sort", "fresh", "()I"⟩, [703, 704, 705, 82])), (174, (⟨"FreshHorses", "isMinute", "(I)Z"⟩, [707, 708, 75])), (180, (⟨"FreshHorses$Stock", "addBeast", "(LFreshHorses$Sort;III)I"⟩, [710, 711, 712, 76])), (184, (⟨"FreshHorses", "isBeast", "(I)Z"⟩, [718, 720, 15, 75])), (187, (⟨"FreshHorses$Stock", "tellOf", "(II)I"⟩, [722, 723, 724, 76])), (190, (⟨"FreshHorses$Stock", "strengthAt", "(II)I"⟩, [730, 731, 732, 76])), (196, (⟨"FreshHorses", "refusalOf", "(II)I"⟩, [746, 748, 16, 75])), (199, (⟨"FreshHorses", "minutesOver", "(LFreshHorses$Stock;II)I"⟩, [750, 752, 17, 75])), (217, (⟨"FreshHorses$Stock", "standAsLeft", "(LFreshHorses$Trip;)V"⟩, [911, 912, 913, 76])), (227, (⟨"FreshHorses", "standFresh", "(LFreshHorses$Sort;I)V"⟩, [930, 932, 24, 75])), (231, (⟨"FreshHorses", "prepareSearch", "(LFreshHorses$Stock;I)V"⟩, [934, 936, 25, 75])), (235, (⟨"FreshHorses", "soonestSet", "(II)I"⟩, [939, 941, 26, 75])), (238, (⟨"FreshHorses$Search", "soonest", "(I)I"⟩, [950, 790, 791, 78])), (245, (⟨"FreshHorses", "cheapestShut", "(II)I"⟩, [967, 969, 27, 75])), (248, (⟨"FreshHorses$Stock", "lastLetter", "()I"⟩, [979, 980, 981, 76])), (254, (⟨"FreshHorses$Stock", "addLetter", "(I)I"⟩, [983, 984, 985, 76])), (257, (⟨"FreshHorses$Stock", "become", "(LFreshHorses$Stock;)V"⟩, [991, 992, 993, 76])), (261, (⟨"FreshHorses", "dayOver", "(II)I"⟩, [996, 998, 28, 75])), (264, (⟨"FreshHorses$Stock", "lostBeasts", "()I"⟩, [1001, 1002, 1003, 76])), (269, (⟨"FreshHorses$Road", "mixInto", "(J)J"⟩, [1026, 1027, 1028, 80])), (273, (⟨"FreshHorses", "mix", "(JJ)J"⟩, [1037, 1031, 75])), (277, (⟨"FreshHorses", "mixAll", "(J[II)J"⟩, [1038, 1035, 75])), (290, (⟨"FreshHorses", "count", "(I)I"⟩, [1039, 1018, 1019, 75])), (297, (⟨"FreshHorses$Ground", "<init>", "(I)V"⟩, [596, 597, 90])), (300, (⟨"FreshHorses$Press", "<init>", "()V"⟩, [608, 609, 91])), (303, (⟨"FreshHorses$Best", "<init>", "(IILFreshHorses$Search;)V"⟩, [617, 618, 92])), (308, (⟨"FreshHorses$Sparing", "<init>", "(ILFreshHorses$Search;)V"⟩, [629, 630, 93])), (311, (⟨"FreshHorses$Even", "<init>", "(II)V"⟩, [638, 498, 87])), (314, (⟨"FreshHorses$Trip", "begin", "(LFreshHorses$Road;LFreshHorses$Stock;I)V"⟩, [754, 755, 756, 77])), (318, (⟨"FreshHorses$Even", "goOver", "(LFreshHorses$Trip;)V"⟩, [759, 762, 760, 763, 764, 92, 761, 760, 87, 839, 760, 87, 840, 760, 87, 841, 764, 92, 842, 843, 88])), (324, (⟨"java/lang/Math", "max", "(II)I"⟩, [1000, 502, 89, 503])), (329, (⟨"FreshHorses$Search", "measure", "(LFreshHorses$Trip;I)V"⟩, [938, 767, 768, 78])), (334, (⟨"java/lang/Integer", "bitCount", "(I)I"⟩, [944, 945, 95])), (339, (⟨"FreshHorses$Stock", "hayWithout", "(II)I"⟩, [971, 972, 973, 76]))],
  [(1, (⟨"java/lang/Object", "<init>", "()V"⟩, [1045, 102])), (129, (⟨"FreshHorsesModel", "in", "(JJJ)Z"⟩, [1244, 1245, 79])), (147, (⟨"FreshHorsesModel", "groundOf", "(I)I"⟩, [1256, 1257, 79])), (154, (⟨"FreshHorsesModel", "isDigit", "(I)Z"⟩, [1263, 1264, 79])), (163, (⟨"FreshHorsesModel", "paceOf", "(I)I"⟩, [1273, 1274, 79])), (166, (⟨"FreshHorsesModel", "goRoad", "(I)Z"⟩, [1251, 1253, 30, 79])), (169, (⟨"FreshHorsesModel", "goSort", "(I)Z"⟩, [1259, 1261, 31, 79])), (172, (⟨"FreshHorsesModel", "goStep", "(I)Z"⟩, [1269, 1271, 32, 79])), (177, (⟨"FreshHorsesModel", "faultOf", "(I)I"⟩, [1247, 1249, 29, 79])), (206, (⟨"FreshHorsesModel", "isSort", "(I)Z"⟩, [1296, 1298, 33, 79])), (211, (⟨"FreshHorsesModel", "minutes", "(III)I"⟩, [1305, 1307, 34, 79])), (215, (⟨"FreshHorsesModel", "loss", "(III)I"⟩, [1309, 1311, 35, 79])), (220, (⟨"FreshHorsesModel", "isMinute", "(I)Z"⟩, [1317, 1318, 79])), (223, (⟨"FreshHorsesModel", "isBeast", "(I)Z"⟩, [1325, 1327, 36, 79])), (228, (⟨"FreshHorsesModel", "strengthAt", "(II)I"⟩, [1334, 1336, 37, 79])), (237, (⟨"FreshHorsesModel", "isRide", "(I)Z"⟩, [1355, 1357, 38, 79])), (245, (⟨"FreshHorsesModel", "begin", "()V"⟩, [1380, 1382, 43, 79])), (254, (⟨"FreshHorsesModel", "leave", "(I)V"⟩, [1404, 1406, 49, 79])), (258, (⟨"FreshHorsesModel", "can", "(III)Z"⟩, [1408, 1410, 50, 79])), (262, (⟨"FreshHorsesModel", "placeOf", "(I)I"⟩, [1392, 1394, 46, 79])), (265, (⟨"FreshHorsesModel", "slower", "(III)I"⟩, [1432, 1434, 56, 79])), (268, (⟨"FreshHorsesModel", "pressed", "(II)I"⟩, [1428, 1430, 55, 79])), (271, (⟨"FreshHorsesModel", "strongest", "(I)I"⟩, [1420, 1422, 53, 79])), (274, (⟨"FreshHorsesModel", "change", "(II)V"⟩, [1400, 1402, 48, 79])), (278, (⟨"FreshHorsesModel", "wishedPace", "(II)I"⟩, [1424, 1426, 54, 79])), (281, (⟨"FreshHorsesModel", "goMile", "(II)V"⟩, [1412, 1414, 51, 79])), (284, (⟨"FreshHorsesModel", "at", "(III)I"⟩, [1444, 1445, 79])), (288, (⟨"FreshHorsesModel", "arrived", "(III)I"⟩, [1447, 1449, 59, 79])), (291, (⟨"FreshHorsesModel", "byPace", "(IIIII)I"⟩, [1452, 1454, 60, 79])), (295, (⟨"FreshHorsesModel", "hasNow", "()I"⟩, [1460, 1462, 62, 79])), (299, (⟨"FreshHorsesModel", "laySoonest", "(I)V"⟩, [1440, 1442, 58, 79])), (302, (⟨"FreshHorsesModel", "firstChoice", "(II)I"⟩, [1456, 1458, 61, 79])), (305, (⟨"FreshHorsesModel", "takeBeasts", "(II)V"⟩, [1376, 1378, 42, 79])), (308, (⟨"FreshHorsesModel", "isWrongChange", "(II)Z"⟩, [1396, 1398, 47, 79])), (312, (⟨"FreshHorsesModel", "goTold", "(II)I"⟩, [1388, 1390, 45, 79])), (315, (⟨"FreshHorsesModel", "goPlain", "(I)V"⟩, [1416, 1418, 52, 79])), (318, (⟨"FreshHorsesModel", "goSoonest", "(I)V"⟩, [1436, 1438, 57, 79])), (321, (⟨"FreshHorsesModel", "goOn", "(II)Z"⟩, [1384, 1386, 44, 79])), (324, (⟨"FreshHorsesModel", "tryRide", "(II)Z"⟩, [1372, 1374, 41, 79])), (327, (⟨"FreshHorsesModel", "refusal", "(IZZ)I"⟩, [1364, 1366, 39, 79])), (331, (⟨"FreshHorsesModel", "triedOf", "(II)I"⟩, [1368, 1370, 40, 79])), (334, (⟨"FreshHorsesModel", "stay", "(I)V"⟩, [1476, 1478, 63, 79])), (343, (⟨"FreshHorsesModel", "bitsOf", "(I)I"⟩, [1495, 1496, 79])), (346, (⟨"FreshHorsesModel", "fresh", "(II)V"⟩, [1498, 1500, 64, 79])), (349, (⟨"FreshHorsesModel", "soonestOf", "()I"⟩, [1502, 1504, 65, 79])), (352, (⟨"FreshHorsesModel", "soonestWithout", "(II)I"⟩, [1514, 1516, 66, 79])), (368, (⟨"FreshHorsesModel", "remember", "()V"⟩, [1536, 1538, 67, 79])), (371, (⟨"FreshHorsesModel", "goDay", "(I)Z"⟩, [1540, 1542, 68, 79])), (374, (⟨"FreshHorsesModel", "lostMany", "()I"⟩, [1544, 1546, 69, 79])), (377, (⟨"FreshHorsesModel", "recall", "()V"⟩, [1548, 1550, 70, 79])), (389, (⟨"FreshHorsesModel", "countOf", "(I)I"⟩, [1568, 1570, 71, 79])), (398, (⟨"FreshHorsesModel", "say", "(J)V"⟩, [1581, 1583, 73, 79])), (404, (⟨"FreshHorsesModel", "tellRoad", "()V"⟩, [1577, 1579, 72, 79]))],
  [],
  []]
def zNw : List (List (Nat × (List Nat))) := [
  [],
  [],
  [],
  [],
  [],
  [],
  [],
  [],
  [],
  [],
  [],
  [(13, [104, 399, 82]), (19, [106, 637, 87]), (25, [108, 109, 76]), (38, [149, 150, 77]), (45, [229, 230, 78]), (86, [330, 331, 80]), (97, [492, 493, 88]), (295, [594, 595, 90]), (298, [606, 607, 91]), (301, [615, 616, 92]), (306, [627, 628, 93])],
  [],
  [],
  []]
def zAw : List (List (Nat × (String × Nat))) := [
  [],
  [],
  [],
  [],
  [],
  [],
  [],
  [],
  [(15, ("FreshHorses$Sort", 114))],
  [],
  [(31, ("FreshHorses$Sort", 155))],
  [(13, ("FreshHorses$Sort", 104)), (19, ("FreshHorses$Even", 106))],
  [],
  [],
  []]
def zIw : List (List (Nat × (String × Nat))) := [
  [],
  [],
  [],
  [],
  [],
  [],
  [],
  [],
  [],
  [],
  [],
  [(97, ("FreshHorses$Told", 492)), (295, ("FreshHorses$Ground", 594)), (298, ("FreshHorses$Press", 606)), (301, ("FreshHorses$Best", 615)), (306, ("FreshHorses$Sparing", 627))],
  [],
  [],
  []]
def zKw : List (List (Nat × Nat)) := [
  [],
  [],
  [],
  [],
  [],
  [(76, 778)],
  [(46, 0)],
  [],
  [],
  [],
  [],
  [(224, 923), (225, 924), (226, 925), (267, 1025), (293, 321), (333, 943), (342, 1033)],
  [(120, 1234), (125, 1266), (127, 1267), (136, 1255), (158, 1268), (175, 1243), (198, 1288), (200, 1289), (202, 1290), (204, 1291), (209, 1300), (218, 1320), (226, 1329), (232, 1346), (240, 1359), (287, 1451), (337, 1488), (338, 1489), (339, 1490), (355, 1522), (357, 1527), (392, 1585), (402, 1576)],
  [(265, 947), (266, 948), (267, 949)],
  []]
def zLw : List (List Nat) := [[624, 625, 622], [639, 640], [603, 604, 601], [612, 613], [366, 368, 370, 372, 374, 376, 378], [245, 247, 249, 251, 253, 255, 257, 259], [413, 415, 417, 419, 421, 423], [633, 634, 635], [131, 133, 135, 137, 139, 141, 143, 145], [525, 527, 515, 517, 519, 521, 523], [199, 201, 203, 205, 207, 209, 211, 213, 215, 217, 219, 221, 223, 225], [278, 280, 282, 284, 286, 288, 290, 292, 294, 296, 298, 300, 302, 304, 306, 308], [1107, 1109, 1111, 1113, 1115, 1117, 1119, 1121, 1123, 1125, 1127, 1129, 1131, 1133, 1135, 1137, 1139, 1141, 1143, 1145, 1147, 1149, 1151, 1153, 1155, 1157, 1159, 1161, 1163, 1165, 1167, 1169, 1171, 1173, 1175, 1177, 1179, 1181, 1183, 1185, 1187, 1189, 1191, 1193, 1195, 1197, 1199, 1201, 1203, 1205, 1207, 1209, 1211, 1213, 1215, 1217, 1219, 1221, 1223, 1225, 1227]]
def zNest : List (String × Nat × MethodName × String × Nat) := [("FreshHorses", 27, ⟨"FreshHorses$Stock", "<init>", "()V"⟩, "FreshHorses", 110), ("FreshHorses", 40, ⟨"FreshHorses$Trip", "<init>", "()V"⟩, "FreshHorses", 151), ("FreshHorses", 47, ⟨"FreshHorses$Search", "<init>", "()V"⟩, "FreshHorses", 231), ("FreshHorses$Road", 47, ⟨"FreshHorses", "digitOf", "(I)I"⟩, "FreshHorses", 389), ("FreshHorses$Road", 57, ⟨"FreshHorses", "mix", "(JJ)J"⟩, "FreshHorses", 1030), ("FreshHorses$Road", 61, ⟨"FreshHorses", "mixAll", "(J[II)J"⟩, "FreshHorses", 1034), ("FreshHorses$Sort", 36, ⟨"FreshHorses", "digitOf", "(I)I"⟩, "FreshHorses", 434), ("FreshHorses$Told", 45, ⟨"FreshHorses", "digitOf", "(I)I"⟩, "FreshHorses", 546)]
def zAC : Nat × Nat := (148, 228)
def zSF : Nat := 513
def zMN : Nat := 235
def zGS : Nat × Nat := (118, 588)
def zOI : Nat := 103
def gw : List Cond := lw_tbl.filter goodWord
def inT (p : Nat) (w : Cond) : Bool := decide (lw_tbl[p]? = some w) && goodWord w
theorem inT_mem {p : Nat} {w : Cond} (h : inT p w = true) : w ∈ gw := by
  unfold inT at h
  rw [Bool.and_eq_true, decide_eq_true_eq] at h
  exact List.mem_filter.mpr ⟨List.mem_of_getElem? h.1, h.2⟩
def zmt (mi : Nat) : zMT := (zM.getD mi ((⟨"", "", ""⟩, ⟨#[]⟩, 0, none), 0)).1
abbrev zy (mi : Nat) : MethodName := (zmt mi).1
abbrev zb (mi : Nat) : ByteArray := (zmt mi).2.1
abbrev zn (mi : Nat) : Nat := (zmt mi).2.2.1
abbrev zr (mi : Nat) : Option FieldType := (zmt mi).2.2.2
abbrev zo (own : Nat) : String := zOwn.getD own ""
abbrev zc (kd : Nat) : String := (zCD.getD kd ("", [])).1
abbrev zfl (kd : Nat) : List (String × String × String × Bool) := (zCD.getD kd ("", [])).2
abbrev zt (kd : Nat) : u_T := fun j => (zfl kd).getD j ("", "", "", false)
def ttag (d : String) : Nat := if d = "I" then 0 else if d = "J" then 2 else if d = "Z" then 3 else 1
def rtg (r : Option FieldType) : Nat := match r with
  | none => 0
  | some .int => 1
  | some .long => 2
  | some (.object _) => 3
  | some (.array _) => 3
  | some .boolean => 4
  | _ => 9
def ilen (i : Instr) : Nat := match i with
  | .bipush _ | .iload _ | .lload _ | .aload _ | .istore _ | .lstore _ | .astore _ | .ldc _ | .newarray _ => 2
  | .sipush _ | .ldc_w _ | .ldc2_w _ | .iinc _ _ | .goto _ | .ifCond _ _ | .if_icmp _ _ | .ifnull _ | .ifnonnull _ | .getfield _ | .putfield _ | .getstatic _ | .new _ | .anewarray _ | .instanceof _ | .invokestatic _ | .invokevirtual _ | .invokespecial _ => 3
  | .multianewarray _ _ => 4
  | _ => 1
/-- a field's link, for a receiver of kind kd, the field being its slot sl of type ty -/
def okF (own j : Nat) (t : Nat × Nat × Nat) : Bool := match (zFw.getD own []).lookup j, (zfl t.1)[t.2.1]? with
  | some (p, ref), some (dc, nm, ds, _) => inT p (.fieldLink (zo own) j ref nm ds) && (ref == dc || inT zSF (.sameField ref dc nm ds)) && Nat.beq (ttag ds) t.2.2 && Nat.blt t.1 13 && Nat.blt t.2.1 (zfl t.1).length
  | _, _ => false
def okFs : Bool := (List.range 16).all fun own => (zF.getD own []).all fun e => e.2.all fun t => okF own e.1 t
/-- a final field is put by its class' constructor alone -/
def okP (mi j : Nat) : Bool := match (zF.getD (zmi mi).1 []).lookup j with
  | some l => l.all fun t => match (zfl t.1)[t.2.1]? with
    | some (dc, _, _, fin) => !fin || ((zy mi).name == "<init>" && dc == (zy mi).cls)
    | none => false
  | none => false
def npar (y : MethodName) (n : Nat) : Bool := decide ((parseMethodDescriptor y.desc).map (fun d => d.parameters.length) = some n)
def okCls (c : String) : Bool := c != "java/lang/invoke/MethodHandle" && c != "java/lang/invoke/VarHandle"
def allT (ps : List Nat) (ws : List Cond) : Bool := Nat.beq ps.length ws.length && (ps.zip ws).all fun q => inT q.1 q.2
def room2 (mi mj : Nat) : Bool := Nat.ble ((zmi mj).2.2.2.1 + 1) (zmi mi).2.2.2.1 && Nat.ble (8 + ((zmi mj).2.1 + 11) + (zmi mj).2.2.2.2) (zmi mi).2.2.2.2
def nestOk (own j : Nat) (y : MethodName) : Bool := zNest.any fun e => e.1 == zo own && Nat.beq e.2.1 j && decide (e.2.2.1 = y)
def rtOk (rt mj : Nat) : Bool := Nat.beq rt (zmi mj).2.2.1 && Nat.ble rt 4
/-- a call's link, its words and its targets -/
def okC (own j op : Nat) (e : Nat × Nat × Nat × List (Nat × Nat)) : Bool := match (zCw.getD own []).lookup j with
  | none => false
  | some (y, ps) => okCls y.cls && npar y e.2.1 && (match e.1 with
    | 0 => Nat.beq op 0 && allT ps [.methodLink (zo own) j y, .static y, .initialized (zo own)] && y.cls == zo own && Nat.beq e.2.2.2.length 1 && e.2.2.2.all fun t => decide (zy t.2 = y) && Nat.blt t.2 218 && rtOk e.2.2.1 t.2
    | 10 => Nat.beq op 0 && allT ps [.methodLink (zo own) j y, .static y, .initialized y.cls] && Nat.beq e.2.2.2.length 1 && e.2.2.2.all fun t => decide (zy t.2 = y) && Nat.blt t.2 218 && rtOk e.2.2.1 t.2
    | 11 => Nat.beq op 0 && allT ps [.static y, .initialized y.cls] && nestOk own j y && Nat.beq e.2.2.2.length 1 && e.2.2.2.all fun t => decide (zy t.2 = y) && Nat.blt t.2 218 && rtOk e.2.2.1 t.2
    | 1 => Nat.beq op 1 && allT ps ([.methodLink (zo own) j y, .instanceMethod y] ++ e.2.2.2.flatMap fun t => [.selects (zc t.1) y y, .initialized (zc t.1)]) && e.2.2.2.all fun t => decide (zy t.2 = y) && zc t.1 == y.cls && Nat.blt t.1 13 && Nat.blt t.2 218 && rtOk e.2.2.1 t.2
    | 12 => Nat.beq op 1 && allT ps ([.methodLink (zo own) j y, .sameMethod y.cls y.cls y.name y.desc, .instanceMethod y] ++ e.2.2.2.flatMap fun t => [.selects (zc t.1) y (zy t.2), .instanceMethod (zy t.2), .initialized (zy t.2).cls]) && (e.2.2.2.any fun t => decide (zy t.2 = y) && Nat.blt t.2 218) && e.2.2.2.all fun t => Nat.blt t.1 13 && Nat.blt t.2 218 && rtOk e.2.2.1 t.2
    | 2 => Nat.beq op 2 && allT ps [.methodLink (zo own) j y, .instanceMethod y, .initialized y.cls] && y.name == "<init>" && Nat.beq e.2.2.1 0 && e.2.2.2.all fun t => decide (zy t.2 = y) && Nat.blt t.1 13 && Nat.blt t.2 218 && rtOk e.2.2.1 t.2
    | 13 => Nat.beq op 2 && allT ps [.instanceMethod y, .initialized y.cls] && nestOk own j y && y.name == "<init>" && Nat.beq e.2.2.1 0 && e.2.2.2.all fun t => decide (zy t.2 = y) && Nat.blt t.1 13 && Nat.blt t.2 218 && rtOk e.2.2.1 t.2
    | 20 => Nat.beq op 2 && allT ps [.methodLink (zo own) j y, .instanceMethod y] && decide (y = Lib.objectInit)
    | 21 => Nat.beq op 0 && allT ps [.methodLink (zo own) j y, .native y, .static y, .initialized "java/lang/System"] && decide (y = arraycopyName)
    | 24 => Nat.beq op 0 && allT ps [.methodLink (zo own) j y, .static y, .initialized "java/lang/Math", .code Lib.Math.max.name Lib.Math.max.code 2 (some .int)] && decide (y = Lib.Math.max.name)
    | 25 => Nat.beq op 0 && allT ps [.methodLink (zo own) j y, .static y, .initialized "java/lang/Math", .code Lib.Math.min.name Lib.Math.min.code 2 (some .int)] && decide (y = Lib.Math.min.name)
    | 22 => Nat.beq op 1 && allT ps [.methodLink (zo own) j y, .instanceMethod y, .selects "java/lang/String" y y, .initialized "java/lang/String"] && decide (y = ⟨"java/lang/String", "length", "()I"⟩)
    | 23 => Nat.beq op 1 && allT ps [.methodLink (zo own) j y, .instanceMethod y, .selects "java/lang/String" y y, .initialized "java/lang/String"] && decide (y = ⟨"java/lang/String", "charAt", "(I)C"⟩)
    | _ => false)
/-- the room of a call -/
def okR (mi : Nat) (e : Nat × Nat × Nat × List (Nat × Nat)) : Bool := match e.1 with
  | 20 => Nat.ble 1 (zmi mi).2.2.2.1 && Nat.ble 20 (zmi mi).2.2.2.2
  | 21 => Nat.ble 1 (zmi mi).2.2.2.1 && Nat.ble 26 (zmi mi).2.2.2.2
  | 24 => Nat.ble 1 (zmi mi).2.2.2.1 && Nat.ble 21 (zmi mi).2.2.2.2
  | 25 => Nat.ble 1 (zmi mi).2.2.2.1 && Nat.ble 21 (zmi mi).2.2.2.2
  | 22 => Nat.ble 2 (zmi mi).2.2.2.1 && Nat.ble 40 (zmi mi).2.2.2.2
  | 23 => Nat.ble 4 (zmi mi).2.2.2.1 && Nat.ble 85 (zmi mi).2.2.2.2
  | _ => e.2.2.2.all fun t => room2 mi t.2
def okCall (mi j op : Nat) : Bool := match (zC.getD (zmi mi).1 []).lookup j with
  | some e => okC (zmi mi).1 j op e && okR mi e
  | none => false
def okI (mi : Nat) (i : Instr) : Bool := match i with
  | .iconst n => decide (-128 ≤ n ∧ n ≤ 127)
  | .bipush n => decide (-128 ≤ n ∧ n ≤ 127)
  | .sipush n => decide (-32768 ≤ n ∧ n ≤ 32767)
  | .iinc _ n => decide (-128 ≤ n ∧ n ≤ 127)
  | .putfield j => okP mi j
  | .ldc j => (match (zK.getD (zmi mi).1 []).lookup j, (zKw.getD (zmi mi).1 []).lookup j with
    | some (.inl x), some p => inT p (.constant (zo (zmi mi).1) j (i32 x)) && decide (-2147483648 ≤ x ∧ x ≤ 2147483647)
    | some (.inr (.inr o)), some _ => decide (o = some (101, 0, 0)) && Nat.beq (zmi mi).1 6 && Nat.beq j 46
    | _, _ => false)
  | .ldc_w j => (match (zK.getD (zmi mi).1 []).lookup j, (zKw.getD (zmi mi).1 []).lookup j with
    | some (.inl x), some p => inT p (.constant (zo (zmi mi).1) j (i32 x)) && decide (-2147483648 ≤ x ∧ x ≤ 2147483647)
    | _, _ => false)
  | .ldc2_w j => (match (zK.getD (zmi mi).1 []).lookup j, (zKw.getD (zmi mi).1 []).lookup j with
    | some (.inr (.inl x)), some p => inT p (.constantLong (zo (zmi mi).1) j (i64 x)) && decide (-9223372036854775808 ≤ x ∧ x ≤ 9223372036854775807)
    | _, _ => false)
  | .getstatic j => Nat.beq (zmi mi).1 11 && Nat.beq j zGS.1
  | .new j => (match (zN.getD (zmi mi).1 []).lookup j, (zNw.getD (zmi mi).1 []).lookup j with
    | some kd, some ps => Nat.blt kd 13 && allT ps [.classLink (zo (zmi mi).1) j (zc kd), .instantiable (zc kd) (zfl kd).length, .initialized (zc kd)]
    | _, _ => false)
  | .anewarray j => (match (zA.getD (zmi mi).1 []).lookup j, (zAw.getD (zmi mi).1 []).lookup j with
    | some q, some (c, p) => inT p (.classLink (zo (zmi mi).1) j c) && ((Nat.beq q 15 && c == zc 1) || (Nat.beq q 16 && c == zc 6))
    | _, _ => false)
  | .instanceof j => (match (zI.getD (zmi mi).1 []).lookup j, (zIw.getD (zmi mi).1 []).lookup j with
    | some ks, some (c, p) => inT p (.classLink (zo (zmi mi).1) j c) && ((c == zc 2 && decide (ks = [2])) || (c == zc 3 && decide (ks = [3])) || (c == zc 0 && decide (ks = [0, 7])) || (c == zc 7 && decide (ks = [7])) || (c == zc 9 && decide (ks = [9])))
    | _, _ => false)
  | .multianewarray j 2 => inT zMN (.classLink (zo (zmi mi).1) j "[[I")
  | .invokestatic j => okCall mi j 0
  | .invokevirtual j => okCall mi j 1
  | .invokespecial j => okCall mi j 2
  | _ => true
def okJ (pc : Nat) (i : Instr) : Bool := match i with
  | .goto off => decide (0 ≤ (pc : Int) + off)
  | .ifCond _ off => decide (0 ≤ (pc : Int) + off)
  | .if_icmp _ off => decide (0 ≤ (pc : Int) + off)
  | .ifnull off => decide (0 ≤ (pc : Int) + off)
  | .ifnonnull off => decide (0 ≤ (pc : Int) + off)
  | .tableswitch d _ _ offs => decide (0 ≤ (pc : Int) + d) && offs.toList.all fun off => decide (0 ≤ (pc : Int) + off)
  | _ => true
def okEn (mi : Nat) (e : zEnt) : Bool := (match decode (zb mi) e.1 with
  | .ok (j, l) => decide (j = e.2.1) && Nat.beq l e.2.2.1
  | _ => false) && (Nat.beq e.2.2.1 (ilen e.2.1) || (match e.2.1 with
    | .tableswitch _ _ _ _ => true
    | _ => false)) && okI mi e.2.1 && okJ e.1 e.2.1
def okMt (mi : Nat) : Bool := (match zM[mi]? with
  | some (t, p) => inT p (.code t.1 t.2.1 t.2.2.1 t.2.2.2)
  | none => false) && Nat.beq (zn mi) (zmi mi).2.1 && Nat.beq (rtg (zr mi)) (zmi mi).2.2.1 && zo (zmi mi).1 == (zy mi).cls && plainName (zy mi).cls && (zCode.getD mi []).all fun e => okEn mi e
def okTy : Bool := (List.range 13).all fun k => (zfl k).all (fun f => (parseFieldDescriptor f.2.2.1).isSome) && decide ((zTy.getD k []) = (zfl k).map (fun f => ttag f.2.2.1)) && allT (zLw.getD k []) (u_ws (zc k) (zt k) (zfl k).length)
theorem okTy_ok : okTy = true := by decide +kernel
theorem okFs_ok : okFs = true := by decide +kernel
theorem okMisc : (inT zAC.1 (.arrayClass .int) && inT zAC.2 (.arrayClass .boolean) && inT zOI (.code Lib.objectInit ⟨#[0xb1]⟩ 1 none) && inT zGS.2 (.fieldLink "FreshHorses" zGS.1 "FreshHorses" "MOST_N" "[I") && Nat.beq zMI.length 218 && Nat.beq zM.length 218 && Nat.beq zCode.length 218) = true := by decide +kernel

