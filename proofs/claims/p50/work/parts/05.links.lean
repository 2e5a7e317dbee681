/-! WORDS: what the links and calls of the little machine rest on, out of the claim's tables by places (printed by wip/p50/gen12.py) -/
def lw_good : List Cond := lw_tbl.filter goodWord
theorem lw_in {w : Cond} (i : Nat) (h : lw_tbl[i]? = some w) (g : goodWord w = true) : w ∈ lw_good := List.mem_filter.mpr ⟨List.mem_of_getElem? h, g⟩
def lt_isN : Cond → Bool
  | .methodLinkNest _ _ _ _ => true
  | .declares _ => true
  | .castable _ _ => true
  | .fieldLinkNest _ _ _ _ _ _ => true
  | _ => false
def lt_nws : List Cond := lw_tbl.filter lt_isN
theorem lt_nin {w : Cond} (i : Nat) (h : lw_tbl[i]? = some w) (g : lt_isN w = true) : w ∈ lt_nws := List.mem_filter.mpr ⟨List.mem_of_getElem? h, g⟩
/-- places of a method's words: its code, its class initialized, static or not, what it selects -/
def lt_pl (m : Nat) : Nat × Nat × Nat × Nat := bif Nat.blt m 75 then (bif Nat.blt m 37 then (bif Nat.blt m 18 then (bif Nat.blt m 9 then (bif Nat.blt m 4 then (bif Nat.blt m 2 then (bif Nat.blt m 1 then ((63, 29, 62, 0)) else ((588, 29, 586, 587))) else (bif Nat.blt m 3 then ((892, 29, 890, 891)) else ((960, 29, 958, 959)))) else (bif Nat.blt m 6 then (bif Nat.blt m 5 then ((610, 29, 608, 609)) else ((1074, 29, 1072, 1073))) else (bif Nat.blt m 7 then ((1070, 29, 1068, 1069)) else (bif Nat.blt m 8 then ((569, 29, 567, 568)) else ((123, 33, 122, 0)))))) else (bif Nat.blt m 13 then (bif Nat.blt m 11 then (bif Nat.blt m 10 then ((254, 33, 252, 253)) else ((951, 33, 949, 950))) else (bif Nat.blt m 12 then ((259, 33, 257, 258)) else ((624, 33, 622, 623)))) else (bif Nat.blt m 15 then (bif Nat.blt m 14 then ((657, 33, 656, 4)) else ((665, 33, 664, 5))) else (bif Nat.blt m 16 then ((738, 33, 737, 13)) else (bif Nat.blt m 17 then ((743, 33, 742, 14)) else ((747, 33, 746, 15))))))) else (bif Nat.blt m 27 then (bif Nat.blt m 22 then (bif Nat.blt m 20 then (bif Nat.blt m 19 then ((675, 33, 674, 6)) else ((683, 33, 682, 7))) else (bif Nat.blt m 21 then ((691, 33, 690, 8)) else ((687, 33, 685, 686)))) else (bif Nat.blt m 24 then (bif Nat.blt m 23 then ((699, 33, 698, 9)) else ((703, 33, 702, 10))) else (bif Nat.blt m 25 then ((710, 33, 709, 11)) else (bif Nat.blt m 26 then ((724, 33, 723, 12)) else ((734, 33, 732, 733)))))) else (bif Nat.blt m 32 then (bif Nat.blt m 29 then (bif Nat.blt m 28 then ((964, 33, 962, 963)) else ((1086, 33, 1084, 1085))) else (bif Nat.blt m 30 then ((717, 33, 715, 716)) else (bif Nat.blt m 31 then ((972, 33, 970, 971)) else ((1040, 33, 1038, 1039))))) else (bif Nat.blt m 34 then (bif Nat.blt m 33 then ((592, 33, 590, 591)) else ((297, 36, 296, 0))) else (bif Nat.blt m 35 then ((561, 36, 559, 560)) else (bif Nat.blt m 36 then ((69, 30, 68, 0)) else ((897, 30, 895, 896)))))))) else (bif Nat.blt m 56 then (bif Nat.blt m 46 then (bif Nat.blt m 41 then (bif Nat.blt m 39 then (bif Nat.blt m 38 then ((679, 30, 677, 678)) else ((695, 30, 693, 694))) else (bif Nat.blt m 40 then ((670, 30, 668, 669)) else ((573, 30, 571, 572)))) else (bif Nat.blt m 43 then (bif Nat.blt m 42 then ((96, 32, 95, 0)) else ((614, 32, 612, 613))) else (bif Nat.blt m 44 then ((1009, 32, 1007, 1008)) else (bif Nat.blt m 45 then ((850, 32, 848, 849)) else ((828, 32, 826, 827)))))) else (bif Nat.blt m 51 then (bif Nat.blt m 48 then (bif Nat.blt m 47 then ((583, 32, 581, 582)) else ((167, 35, 166, 0))) else (bif Nat.blt m 49 then ((272, 35, 270, 271)) else (bif Nat.blt m 50 then ((751, 35, 749, 750)) else ((606, 35, 604, 605))))) else (bif Nat.blt m 53 then (bif Nat.blt m 52 then ((375, 39, 374, 0)) else ((1114, 39, 1112, 1113))) else (bif Nat.blt m 54 then ((1128, 39, 1127, 23)) else (bif Nat.blt m 55 then ((1137, 39, 1136, 24)) else ((1119, 39, 1118, 22))))))) else (bif Nat.blt m 65 then (bif Nat.blt m 60 then (bif Nat.blt m 58 then (bif Nat.blt m 57 then ((1133, 39, 1132, 0)) else ((1141, 39, 1140, 25))) else (bif Nat.blt m 59 then ((1144, 39, 1143, 0)) else ((345, 38, 344, 0)))) else (bif Nat.blt m 62 then (bif Nat.blt m 61 then ((791, 38, 789, 790)) else ((806, 38, 805, 17))) else (bif Nat.blt m 63 then ((796, 38, 795, 16)) else (bif Nat.blt m 64 then ((787, 38, 785, 786)) else ((872, 38, 870, 871)))))) else (bif Nat.blt m 70 then (bif Nat.blt m 67 then (bif Nat.blt m 66 then ((876, 38, 875, 19)) else ((129, 34, 128, 0))) else (bif Nat.blt m 68 then ((263, 34, 261, 262)) else (bif Nat.blt m 69 then ((634, 34, 632, 633)) else ((649, 34, 647, 648))))) else (bif Nat.blt m 72 then (bif Nat.blt m 71 then ((1049, 34, 1047, 1048)) else ((600, 34, 598, 599))) else (bif Nat.blt m 73 then ((319, 37, 318, 0)) else (bif Nat.blt m 74 then ((55, 28, 54, 0)) else ((888, 28, 886, 887))))))))) else (bif Nat.blt m 112 then (bif Nat.blt m 93 then (bif Nat.blt m 84 then (bif Nat.blt m 79 then (bif Nat.blt m 77 then (bif Nat.blt m 76 then ((956, 28, 954, 955)) else ((467, 28, 465, 466))) else (bif Nat.blt m 78 then ((1095, 28, 1093, 1094)) else ((1090, 28, 1088, 1089)))) else (bif Nat.blt m 81 then (bif Nat.blt m 80 then ((936, 28, 934, 935)) else ((947, 28, 945, 946))) else (bif Nat.blt m 82 then ((1082, 28, 1080, 1081)) else (bif Nat.blt m 83 then ((1066, 28, 1064, 1065)) else ((1103, 28, 1101, 1102)))))) else (bif Nat.blt m 88 then (bif Nat.blt m 86 then (bif Nat.blt m 85 then ((1005, 28, 1003, 1004)) else ((976, 28, 974, 975))) else (bif Nat.blt m 87 then ((1013, 28, 1011, 1012)) else ((1000, 28, 998, 999)))) else (bif Nat.blt m 90 then (bif Nat.blt m 89 then ((1021, 28, 1019, 1020)) else ((968, 28, 966, 967))) else (bif Nat.blt m 91 then ((980, 28, 978, 979)) else (bif Nat.blt m 92 then ((1017, 28, 1015, 1016)) else ((1045, 28, 1043, 1044))))))) else (bif Nat.blt m 102 then (bif Nat.blt m 97 then (bif Nat.blt m 95 then (bif Nat.blt m 94 then ((846, 28, 844, 845)) else ((762, 28, 760, 761))) else (bif Nat.blt m 96 then ((858, 28, 856, 857)) else ((864, 28, 862, 863)))) else (bif Nat.blt m 99 then (bif Nat.blt m 98 then ((824, 28, 822, 823)) else ((834, 28, 832, 833))) else (bif Nat.blt m 100 then ((842, 28, 840, 841)) else (bif Nat.blt m 101 then ((1110, 28, 1108, 1109)) else ((1156, 28, 1154, 1155)))))) else (bif Nat.blt m 107 then (bif Nat.blt m 104 then (bif Nat.blt m 103 then ((868, 28, 866, 867)) else ((470, 28, 469, 0))) else (bif Nat.blt m 105 then ((939, 28, 938, 0)) else (bif Nat.blt m 106 then ((838, 28, 837, 18)) else ((783, 28, 782, 0))))) else (bif Nat.blt m 109 then (bif Nat.blt m 108 then ((765, 28, 764, 0)) else ((538, 28, 537, 1))) else (bif Nat.blt m 110 then ((557, 28, 556, 2)) else (bif Nat.blt m 111 then ((565, 28, 564, 3)) else ((1098, 28, 1097, 0)))))))) else (bif Nat.blt m 131 then (bif Nat.blt m 121 then (bif Nat.blt m 116 then (bif Nat.blt m 114 then (bif Nat.blt m 113 then ((660, 28, 659, 0)) else ((645, 28, 644, 0))) else (bif Nat.blt m 115 then ((627, 28, 626, 0)) else ((630, 28, 629, 0)))) else (bif Nat.blt m 118 then (bif Nat.blt m 117 then ((617, 28, 616, 0)) else ((637, 28, 636, 0))) else (bif Nat.blt m 119 then ((653, 28, 652, 0)) else (bif Nat.blt m 120 then ((576, 28, 575, 0)) else ((596, 28, 595, 0)))))) else (bif Nat.blt m 126 then (bif Nat.blt m 123 then (bif Nat.blt m 122 then ((706, 28, 705, 0)) else ((641, 28, 640, 0))) else (bif Nat.blt m 124 then ((445, 27, 444, 0)) else (bif Nat.blt m 125 then ((457, 27, 455, 456)) else ((904, 49, 903, 0))))) else (bif Nat.blt m 128 then (bif Nat.blt m 127 then ((989, 49, 988, 20)) else ((993, 49, 992, 21))) else (bif Nat.blt m 129 then ((985, 49, 983, 984)) else (bif Nat.blt m 130 then ((1054, 49, 1052, 1053)) else ((727, 47, 726, 0))))))) else (bif Nat.blt m 140 then (bif Nat.blt m 135 then (bif Nat.blt m 133 then (bif Nat.blt m 132 then ((713, 46, 712, 0)) else ((720, 46, 719, 0))) else (bif Nat.blt m 134 then ((620, 46, 619, 0)) else ((268, 31, 267, 0)))) else (bif Nat.blt m 137 then (bif Nat.blt m 136 then ((73, 31, 72, 0)) else ((463, 26, 462, 0))) else (bif Nat.blt m 138 then ((812, 26, 811, 0)) else (bif Nat.blt m 139 then ((816, 26, 815, 0)) else ((820, 26, 819, 0)))))) else (bif Nat.blt m 145 then (bif Nat.blt m 142 then (bif Nat.blt m 141 then ((460, 26, 459, 0)) else ((854, 26, 853, 0))) else (bif Nat.blt m 143 then ((996, 26, 995, 0)) else (bif Nat.blt m 144 then ((1060, 26, 1059, 0)) else ((884, 26, 883, 0))))) else (bif Nat.blt m 147 then (bif Nat.blt m 146 then ((1078, 26, 1077, 0)) else ((1151, 26, 1150, 0))) else (bif Nat.blt m 148 then ((1148, 26, 1147, 0)) else (bif Nat.blt m 149 then ((1106, 26, 1105, 0)) else ((0, 26, 0, 0)))))))))
def lt_cw (m : Nat) : Cond := match lt_hh m with
  | [] => .code (lt_y m) (lt_by m) (lt_inf m).2.2.1 (lt_ret m)
  | h :: r => .codeWith (lt_y m) (lt_by m) (lt_inf m).2.2.1 (lt_ret m) (h :: r)
def lt_sw (m : Nat) : Cond := bif (lt_inf m).2.2.2.1 then .static (lt_y m) else .instanceMethod (lt_y m)
/-- how many arguments a call takes from the stack, the receiver apart -/
def lt_np (m : Nat) : Option Nat := (parseMethodDescriptor (lt_y m).desc).map fun d => d.parameters.length
def lt_rk : Option FieldType → Nat
  | none => 0
  | some .int => 1
  | some .long => 2
  | some .double => 4
  | some .float => 5
  | some .boolean => 6
  | some (.object _) => 3
  | some (.array _) => 3
  | _ => 7
def lt_gw (i : Nat) (w : Cond) : Bool := decide (lw_tbl[i]? = some w) && goodWord w
theorem lt_gw_in {i : Nat} {w : Cond} (h : lt_gw i w = true) : w ∈ lw_good := by
  unfold lt_gw at h
  rw [Bool.and_eq_true] at h
  exact lw_in i (of_decide_eq_true h.1) h.2
def lt_mok (m : Nat) : Bool :=
  lt_gw (lt_pl m).1 (lt_cw m) && (lt_gw (lt_pl m).2.1 (.initialized (lt_y m).cls) && (lt_gw (lt_pl m).2.2.1 (lt_sw m) &&
  ((decide ((lt_y m).cls ≠ "java/lang/invoke/MethodHandle") && decide ((lt_y m).cls ≠ "java/lang/invoke/VarHandle")) && ((plainName (lt_y m).cls || decide ((lt_y m).cls = "java/lang/Math")) && (decide ((lt_y m).cls = lt_cn (lt_inf m).1) &&
  (Nat.beq (lt_rk (lt_ret m)) (lt_inf m).2.1 && (lt_np m).isSome && (decide (lt_ini m = decide ((lt_y m).name = "<init>")) && (bif lt_ini m then decide (lt_ret m = none) else true) && (Nat.ble (lt_inf m).2.2.1 20 && (bif (lt_inf m).2.2.2.1 || lt_ini m then true else lt_gw (lt_pl m).2.2.2 (.selects (lt_y m).cls (lt_y m) (lt_y m)))))))))))
theorem lt_mo0 : lt_mok 0 = true := by decide +kernel
theorem lt_mo1 : lt_mok 1 = true := by decide +kernel
theorem lt_mo2 : lt_mok 2 = true := by decide +kernel
theorem lt_mo3 : lt_mok 3 = true := by decide +kernel
theorem lt_mo4 : lt_mok 4 = true := by decide +kernel
theorem lt_mo5 : lt_mok 5 = true := by decide +kernel
theorem lt_mo6 : lt_mok 6 = true := by decide +kernel
theorem lt_mo7 : lt_mok 7 = true := by decide +kernel
theorem lt_mo8 : lt_mok 8 = true := by decide +kernel
theorem lt_mo9 : lt_mok 9 = true := by decide +kernel
theorem lt_mo10 : lt_mok 10 = true := by decide +kernel
theorem lt_mo11 : lt_mok 11 = true := by decide +kernel
theorem lt_mo12 : lt_mok 12 = true := by decide +kernel
theorem lt_mo13 : lt_mok 13 = true := by decide +kernel
theorem lt_mo14 : lt_mok 14 = true := by decide +kernel
theorem lt_mo15 : lt_mok 15 = true := by decide +kernel
theorem lt_mo16 : lt_mok 16 = true := by decide +kernel
theorem lt_mo17 : lt_mok 17 = true := by decide +kernel
theorem lt_mo18 : lt_mok 18 = true := by decide +kernel
theorem lt_mo19 : lt_mok 19 = true := by decide +kernel
theorem lt_mo20 : lt_mok 20 = true := by decide +kernel
theorem lt_mo21 : lt_mok 21 = true := by decide +kernel
theorem lt_mo22 : lt_mok 22 = true := by decide +kernel
theorem lt_mo23 : lt_mok 23 = true := by decide +kernel
theorem lt_mo24 : lt_mok 24 = true := by decide +kernel
theorem lt_mo25 : lt_mok 25 = true := by decide +kernel
theorem lt_mo26 : lt_mok 26 = true := by decide +kernel
theorem lt_mo27 : lt_mok 27 = true := by decide +kernel
theorem lt_mo28 : lt_mok 28 = true := by decide +kernel
theorem lt_mo29 : lt_mok 29 = true := by decide +kernel
theorem lt_mo30 : lt_mok 30 = true := by decide +kernel
theorem lt_mo31 : lt_mok 31 = true := by decide +kernel
theorem lt_mo32 : lt_mok 32 = true := by decide +kernel
theorem lt_mo33 : lt_mok 33 = true := by decide +kernel
theorem lt_mo34 : lt_mok 34 = true := by decide +kernel
theorem lt_mo35 : lt_mok 35 = true := by decide +kernel
theorem lt_mo36 : lt_mok 36 = true := by decide +kernel
theorem lt_mo37 : lt_mok 37 = true := by decide +kernel
theorem lt_mo38 : lt_mok 38 = true := by decide +kernel
theorem lt_mo39 : lt_mok 39 = true := by decide +kernel
theorem lt_mo40 : lt_mok 40 = true := by decide +kernel
theorem lt_mo41 : lt_mok 41 = true := by decide +kernel
theorem lt_mo42 : lt_mok 42 = true := by decide +kernel
theorem lt_mo43 : lt_mok 43 = true := by decide +kernel
theorem lt_mo44 : lt_mok 44 = true := by decide +kernel
theorem lt_mo45 : lt_mok 45 = true := by decide +kernel
theorem lt_mo46 : lt_mok 46 = true := by decide +kernel
theorem lt_mo47 : lt_mok 47 = true := by decide +kernel
theorem lt_mo48 : lt_mok 48 = true := by decide +kernel
theorem lt_mo49 : lt_mok 49 = true := by decide +kernel
theorem lt_mo50 : lt_mok 50 = true := by decide +kernel
theorem lt_mo51 : lt_mok 51 = true := by decide +kernel
theorem lt_mo52 : lt_mok 52 = true := by decide +kernel
theorem lt_mo53 : lt_mok 53 = true := by decide +kernel
theorem lt_mo54 : lt_mok 54 = true := by decide +kernel
theorem lt_mo55 : lt_mok 55 = true := by decide +kernel
theorem lt_mo56 : lt_mok 56 = true := by decide +kernel
theorem lt_mo57 : lt_mok 57 = true := by decide +kernel
theorem lt_mo58 : lt_mok 58 = true := by decide +kernel
theorem lt_mo59 : lt_mok 59 = true := by decide +kernel
theorem lt_mo60 : lt_mok 60 = true := by decide +kernel
theorem lt_mo61 : lt_mok 61 = true := by decide +kernel
theorem lt_mo62 : lt_mok 62 = true := by decide +kernel
theorem lt_mo63 : lt_mok 63 = true := by decide +kernel
theorem lt_mo64 : lt_mok 64 = true := by decide +kernel
theorem lt_mo65 : lt_mok 65 = true := by decide +kernel
theorem lt_mo66 : lt_mok 66 = true := by decide +kernel
theorem lt_mo67 : lt_mok 67 = true := by decide +kernel
theorem lt_mo68 : lt_mok 68 = true := by decide +kernel
theorem lt_mo69 : lt_mok 69 = true := by decide +kernel
theorem lt_mo70 : lt_mok 70 = true := by decide +kernel
theorem lt_mo71 : lt_mok 71 = true := by decide +kernel
theorem lt_mo72 : lt_mok 72 = true := by decide +kernel
theorem lt_mo73 : lt_mok 73 = true := by decide +kernel
theorem lt_mo74 : lt_mok 74 = true := by decide +kernel
theorem lt_mo75 : lt_mok 75 = true := by decide +kernel
theorem lt_mo76 : lt_mok 76 = true := by decide +kernel
theorem lt_mo77 : lt_mok 77 = true := by decide +kernel
theorem lt_mo78 : lt_mok 78 = true := by decide +kernel
theorem lt_mo79 : lt_mok 79 = true := by decide +kernel
theorem lt_mo80 : lt_mok 80 = true := by decide +kernel
theorem lt_mo81 : lt_mok 81 = true := by decide +kernel
theorem lt_mo82 : lt_mok 82 = true := by decide +kernel
theorem lt_mo83 : lt_mok 83 = true := by decide +kernel
theorem lt_mo84 : lt_mok 84 = true := by decide +kernel
theorem lt_mo85 : lt_mok 85 = true := by decide +kernel
theorem lt_mo86 : lt_mok 86 = true := by decide +kernel
theorem lt_mo87 : lt_mok 87 = true := by decide +kernel
theorem lt_mo88 : lt_mok 88 = true := by decide +kernel
theorem lt_mo89 : lt_mok 89 = true := by decide +kernel
theorem lt_mo90 : lt_mok 90 = true := by decide +kernel
theorem lt_mo91 : lt_mok 91 = true := by decide +kernel
theorem lt_mo92 : lt_mok 92 = true := by decide +kernel
theorem lt_mo93 : lt_mok 93 = true := by decide +kernel
theorem lt_mo94 : lt_mok 94 = true := by decide +kernel
theorem lt_mo95 : lt_mok 95 = true := by decide +kernel
theorem lt_mo96 : lt_mok 96 = true := by decide +kernel
theorem lt_mo97 : lt_mok 97 = true := by decide +kernel
theorem lt_mo98 : lt_mok 98 = true := by decide +kernel
theorem lt_mo99 : lt_mok 99 = true := by decide +kernel
theorem lt_mo100 : lt_mok 100 = true := by decide +kernel
theorem lt_mo101 : lt_mok 101 = true := by decide +kernel
theorem lt_mo102 : lt_mok 102 = true := by decide +kernel
theorem lt_mo103 : lt_mok 103 = true := by decide +kernel
theorem lt_mo104 : lt_mok 104 = true := by decide +kernel
theorem lt_mo105 : lt_mok 105 = true := by decide +kernel
theorem lt_mo106 : lt_mok 106 = true := by decide +kernel
theorem lt_mo107 : lt_mok 107 = true := by decide +kernel
theorem lt_mo108 : lt_mok 108 = true := by decide +kernel
theorem lt_mo109 : lt_mok 109 = true := by decide +kernel
theorem lt_mo110 : lt_mok 110 = true := by decide +kernel
theorem lt_mo111 : lt_mok 111 = true := by decide +kernel
theorem lt_mo112 : lt_mok 112 = true := by decide +kernel
theorem lt_mo113 : lt_mok 113 = true := by decide +kernel
theorem lt_mo114 : lt_mok 114 = true := by decide +kernel
theorem lt_mo115 : lt_mok 115 = true := by decide +kernel
theorem lt_mo116 : lt_mok 116 = true := by decide +kernel
theorem lt_mo117 : lt_mok 117 = true := by decide +kernel
theorem lt_mo118 : lt_mok 118 = true := by decide +kernel
theorem lt_mo119 : lt_mok 119 = true := by decide +kernel
theorem lt_mo120 : lt_mok 120 = true := by decide +kernel
theorem lt_mo121 : lt_mok 121 = true := by decide +kernel
theorem lt_mo122 : lt_mok 122 = true := by decide +kernel
theorem lt_mo123 : lt_mok 123 = true := by decide +kernel
theorem lt_mo124 : lt_mok 124 = true := by decide +kernel
theorem lt_mo125 : lt_mok 125 = true := by decide +kernel
theorem lt_mo126 : lt_mok 126 = true := by decide +kernel
theorem lt_mo127 : lt_mok 127 = true := by decide +kernel
theorem lt_mo128 : lt_mok 128 = true := by decide +kernel
theorem lt_mo129 : lt_mok 129 = true := by decide +kernel
theorem lt_mo130 : lt_mok 130 = true := by decide +kernel
theorem lt_mo131 : lt_mok 131 = true := by decide +kernel
theorem lt_mo132 : lt_mok 132 = true := by decide +kernel
theorem lt_mo133 : lt_mok 133 = true := by decide +kernel
theorem lt_mo134 : lt_mok 134 = true := by decide +kernel
theorem lt_mo135 : lt_mok 135 = true := by decide +kernel
theorem lt_mo136 : lt_mok 136 = true := by decide +kernel
theorem lt_mo137 : lt_mok 137 = true := by decide +kernel
theorem lt_mo138 : lt_mok 138 = true := by decide +kernel
theorem lt_mo139 : lt_mok 139 = true := by decide +kernel
theorem lt_mo140 : lt_mok 140 = true := by decide +kernel
theorem lt_mo141 : lt_mok 141 = true := by decide +kernel
theorem lt_mo142 : lt_mok 142 = true := by decide +kernel
theorem lt_mo143 : lt_mok 143 = true := by decide +kernel
set_option maxRecDepth 1000000 in
set_option maxHeartbeats 4000000 in
theorem lt_mw144 : lw_tbl[(lt_pl 144).1]? = some (lt_cw 144) := rfl
theorem lt_mo144 : lt_mok 144 = true := by
  have h1 : lt_gw (lt_pl 144).1 (lt_cw 144) = true := by
    unfold lt_gw
    rw [lt_mw144, decide_eq_true rfl]
    rfl
  unfold lt_mok
  rw [h1, Bool.true_and]
  decide +kernel
theorem lt_mo145 : lt_mok 145 = true := by decide +kernel
theorem lt_mo146 : lt_mok 146 = true := by decide +kernel
theorem lt_mo147 : lt_mok 147 = true := by decide +kernel
theorem lt_mo148 : lt_mok 148 = true := by decide +kernel
theorem lt_mg0 : ∀ m ∈ [0, 1, 2, 3, 4, 5, 6, 7, 8, 9, 10, 11, 12, 13, 14, 15], lt_mok m = true := List.forall_mem_cons.mpr ⟨lt_mo0, List.forall_mem_cons.mpr ⟨lt_mo1, List.forall_mem_cons.mpr ⟨lt_mo2, List.forall_mem_cons.mpr ⟨lt_mo3, List.forall_mem_cons.mpr ⟨lt_mo4, List.forall_mem_cons.mpr ⟨lt_mo5, List.forall_mem_cons.mpr ⟨lt_mo6, List.forall_mem_cons.mpr ⟨lt_mo7, List.forall_mem_cons.mpr ⟨lt_mo8, List.forall_mem_cons.mpr ⟨lt_mo9, List.forall_mem_cons.mpr ⟨lt_mo10, List.forall_mem_cons.mpr ⟨lt_mo11, List.forall_mem_cons.mpr ⟨lt_mo12, List.forall_mem_cons.mpr ⟨lt_mo13, List.forall_mem_cons.mpr ⟨lt_mo14, List.forall_mem_cons.mpr ⟨lt_mo15, fun _ h => absurd h List.not_mem_nil⟩⟩⟩⟩⟩⟩⟩⟩⟩⟩⟩⟩⟩⟩⟩⟩
theorem lt_mg1 : ∀ m ∈ [16, 17, 18, 19, 20, 21, 22, 23, 24, 25, 26, 27, 28, 29, 30, 31], lt_mok m = true := List.forall_mem_cons.mpr ⟨lt_mo16, List.forall_mem_cons.mpr ⟨lt_mo17, List.forall_mem_cons.mpr ⟨lt_mo18, List.forall_mem_cons.mpr ⟨lt_mo19, List.forall_mem_cons.mpr ⟨lt_mo20, List.forall_mem_cons.mpr ⟨lt_mo21, List.forall_mem_cons.mpr ⟨lt_mo22, List.forall_mem_cons.mpr ⟨lt_mo23, List.forall_mem_cons.mpr ⟨lt_mo24, List.forall_mem_cons.mpr ⟨lt_mo25, List.forall_mem_cons.mpr ⟨lt_mo26, List.forall_mem_cons.mpr ⟨lt_mo27, List.forall_mem_cons.mpr ⟨lt_mo28, List.forall_mem_cons.mpr ⟨lt_mo29, List.forall_mem_cons.mpr ⟨lt_mo30, List.forall_mem_cons.mpr ⟨lt_mo31, fun _ h => absurd h List.not_mem_nil⟩⟩⟩⟩⟩⟩⟩⟩⟩⟩⟩⟩⟩⟩⟩⟩
theorem lt_mg2 : ∀ m ∈ [32, 33, 34, 35, 36, 37, 38, 39, 40, 41, 42, 43, 44, 45, 46, 47], lt_mok m = true := List.forall_mem_cons.mpr ⟨lt_mo32, List.forall_mem_cons.mpr ⟨lt_mo33, List.forall_mem_cons.mpr ⟨lt_mo34, List.forall_mem_cons.mpr ⟨lt_mo35, List.forall_mem_cons.mpr ⟨lt_mo36, List.forall_mem_cons.mpr ⟨lt_mo37, List.forall_mem_cons.mpr ⟨lt_mo38, List.forall_mem_cons.mpr ⟨lt_mo39, List.forall_mem_cons.mpr ⟨lt_mo40, List.forall_mem_cons.mpr ⟨lt_mo41, List.forall_mem_cons.mpr ⟨lt_mo42, List.forall_mem_cons.mpr ⟨lt_mo43, List.forall_mem_cons.mpr ⟨lt_mo44, List.forall_mem_cons.mpr ⟨lt_mo45, List.forall_mem_cons.mpr ⟨lt_mo46, List.forall_mem_cons.mpr ⟨lt_mo47, fun _ h => absurd h List.not_mem_nil⟩⟩⟩⟩⟩⟩⟩⟩⟩⟩⟩⟩⟩⟩⟩⟩
theorem lt_mg3 : ∀ m ∈ [48, 49, 50, 51, 52, 53, 54, 55, 56, 57, 58, 59, 60, 61, 62, 63], lt_mok m = true := List.forall_mem_cons.mpr ⟨lt_mo48, List.forall_mem_cons.mpr ⟨lt_mo49, List.forall_mem_cons.mpr ⟨lt_mo50, List.forall_mem_cons.mpr ⟨lt_mo51, List.forall_mem_cons.mpr ⟨lt_mo52, List.forall_mem_cons.mpr ⟨lt_mo53, List.forall_mem_cons.mpr ⟨lt_mo54, List.forall_mem_cons.mpr ⟨lt_mo55, List.forall_mem_cons.mpr ⟨lt_mo56, List.forall_mem_cons.mpr ⟨lt_mo57, List.forall_mem_cons.mpr ⟨lt_mo58, List.forall_mem_cons.mpr ⟨lt_mo59, List.forall_mem_cons.mpr ⟨lt_mo60, List.forall_mem_cons.mpr ⟨lt_mo61, List.forall_mem_cons.mpr ⟨lt_mo62, List.forall_mem_cons.mpr ⟨lt_mo63, fun _ h => absurd h List.not_mem_nil⟩⟩⟩⟩⟩⟩⟩⟩⟩⟩⟩⟩⟩⟩⟩⟩
theorem lt_mg4 : ∀ m ∈ [64, 65, 66, 67, 68, 69, 70, 71, 72, 73, 74, 75, 76, 77, 78, 79], lt_mok m = true := List.forall_mem_cons.mpr ⟨lt_mo64, List.forall_mem_cons.mpr ⟨lt_mo65, List.forall_mem_cons.mpr ⟨lt_mo66, List.forall_mem_cons.mpr ⟨lt_mo67, List.forall_mem_cons.mpr ⟨lt_mo68, List.forall_mem_cons.mpr ⟨lt_mo69, List.forall_mem_cons.mpr ⟨lt_mo70, List.forall_mem_cons.mpr ⟨lt_mo71, List.forall_mem_cons.mpr ⟨lt_mo72, List.forall_mem_cons.mpr ⟨lt_mo73, List.forall_mem_cons.mpr ⟨lt_mo74, List.forall_mem_cons.mpr ⟨lt_mo75, List.forall_mem_cons.mpr ⟨lt_mo76, List.forall_mem_cons.mpr ⟨lt_mo77, List.forall_mem_cons.mpr ⟨lt_mo78, List.forall_mem_cons.mpr ⟨lt_mo79, fun _ h => absurd h List.not_mem_nil⟩⟩⟩⟩⟩⟩⟩⟩⟩⟩⟩⟩⟩⟩⟩⟩
theorem lt_mg5 : ∀ m ∈ [80, 81, 82, 83, 84, 85, 86, 87, 88, 89, 90, 91, 92, 93, 94, 95], lt_mok m = true := List.forall_mem_cons.mpr ⟨lt_mo80, List.forall_mem_cons.mpr ⟨lt_mo81, List.forall_mem_cons.mpr ⟨lt_mo82, List.forall_mem_cons.mpr ⟨lt_mo83, List.forall_mem_cons.mpr ⟨lt_mo84, List.forall_mem_cons.mpr ⟨lt_mo85, List.forall_mem_cons.mpr ⟨lt_mo86, List.forall_mem_cons.mpr ⟨lt_mo87, List.forall_mem_cons.mpr ⟨lt_mo88, List.forall_mem_cons.mpr ⟨lt_mo89, List.forall_mem_cons.mpr ⟨lt_mo90, List.forall_mem_cons.mpr ⟨lt_mo91, List.forall_mem_cons.mpr ⟨lt_mo92, List.forall_mem_cons.mpr ⟨lt_mo93, List.forall_mem_cons.mpr ⟨lt_mo94, List.forall_mem_cons.mpr ⟨lt_mo95, fun _ h => absurd h List.not_mem_nil⟩⟩⟩⟩⟩⟩⟩⟩⟩⟩⟩⟩⟩⟩⟩⟩
theorem lt_mg6 : ∀ m ∈ [96, 97, 98, 99, 100, 101, 102, 103, 104, 105, 106, 107, 108, 109, 110, 111], lt_mok m = true := List.forall_mem_cons.mpr ⟨lt_mo96, List.forall_mem_cons.mpr ⟨lt_mo97, List.forall_mem_cons.mpr ⟨lt_mo98, List.forall_mem_cons.mpr ⟨lt_mo99, List.forall_mem_cons.mpr ⟨lt_mo100, List.forall_mem_cons.mpr ⟨lt_mo101, List.forall_mem_cons.mpr ⟨lt_mo102, List.forall_mem_cons.mpr ⟨lt_mo103, List.forall_mem_cons.mpr ⟨lt_mo104, List.forall_mem_cons.mpr ⟨lt_mo105, List.forall_mem_cons.mpr ⟨lt_mo106, List.forall_mem_cons.mpr ⟨lt_mo107, List.forall_mem_cons.mpr ⟨lt_mo108, List.forall_mem_cons.mpr ⟨lt_mo109, List.forall_mem_cons.mpr ⟨lt_mo110, List.forall_mem_cons.mpr ⟨lt_mo111, fun _ h => absurd h List.not_mem_nil⟩⟩⟩⟩⟩⟩⟩⟩⟩⟩⟩⟩⟩⟩⟩⟩
theorem lt_mg7 : ∀ m ∈ [112, 113, 114, 115, 116, 117, 118, 119, 120, 121, 122, 123, 124, 125, 126, 127], lt_mok m = true := List.forall_mem_cons.mpr ⟨lt_mo112, List.forall_mem_cons.mpr ⟨lt_mo113, List.forall_mem_cons.mpr ⟨lt_mo114, List.forall_mem_cons.mpr ⟨lt_mo115, List.forall_mem_cons.mpr ⟨lt_mo116, List.forall_mem_cons.mpr ⟨lt_mo117, List.forall_mem_cons.mpr ⟨lt_mo118, List.forall_mem_cons.mpr ⟨lt_mo119, List.forall_mem_cons.mpr ⟨lt_mo120, List.forall_mem_cons.mpr ⟨lt_mo121, List.forall_mem_cons.mpr ⟨lt_mo122, List.forall_mem_cons.mpr ⟨lt_mo123, List.forall_mem_cons.mpr ⟨lt_mo124, List.forall_mem_cons.mpr ⟨lt_mo125, List.forall_mem_cons.mpr ⟨lt_mo126, List.forall_mem_cons.mpr ⟨lt_mo127, fun _ h => absurd h List.not_mem_nil⟩⟩⟩⟩⟩⟩⟩⟩⟩⟩⟩⟩⟩⟩⟩⟩
theorem lt_mg8 : ∀ m ∈ [128, 129, 130, 131, 132, 133, 134, 135, 136, 137, 138, 139, 140, 141, 142, 143], lt_mok m = true := List.forall_mem_cons.mpr ⟨lt_mo128, List.forall_mem_cons.mpr ⟨lt_mo129, List.forall_mem_cons.mpr ⟨lt_mo130, List.forall_mem_cons.mpr ⟨lt_mo131, List.forall_mem_cons.mpr ⟨lt_mo132, List.forall_mem_cons.mpr ⟨lt_mo133, List.forall_mem_cons.mpr ⟨lt_mo134, List.forall_mem_cons.mpr ⟨lt_mo135, List.forall_mem_cons.mpr ⟨lt_mo136, List.forall_mem_cons.mpr ⟨lt_mo137, List.forall_mem_cons.mpr ⟨lt_mo138, List.forall_mem_cons.mpr ⟨lt_mo139, List.forall_mem_cons.mpr ⟨lt_mo140, List.forall_mem_cons.mpr ⟨lt_mo141, List.forall_mem_cons.mpr ⟨lt_mo142, List.forall_mem_cons.mpr ⟨lt_mo143, fun _ h => absurd h List.not_mem_nil⟩⟩⟩⟩⟩⟩⟩⟩⟩⟩⟩⟩⟩⟩⟩⟩
theorem lt_mg9 : ∀ m ∈ [144, 145, 146, 147, 148], lt_mok m = true := List.forall_mem_cons.mpr ⟨lt_mo144, List.forall_mem_cons.mpr ⟨lt_mo145, List.forall_mem_cons.mpr ⟨lt_mo146, List.forall_mem_cons.mpr ⟨lt_mo147, List.forall_mem_cons.mpr ⟨lt_mo148, fun _ h => absurd h List.not_mem_nil⟩⟩⟩⟩⟩
theorem lt_mgs : ∀ m ∈ [0, 1, 2, 3, 4, 5, 6, 7, 8, 9, 10, 11, 12, 13, 14, 15] ++ ([16, 17, 18, 19, 20, 21, 22, 23, 24, 25, 26, 27, 28, 29, 30, 31] ++ ([32, 33, 34, 35, 36, 37, 38, 39, 40, 41, 42, 43, 44, 45, 46, 47] ++ ([48, 49, 50, 51, 52, 53, 54, 55, 56, 57, 58, 59, 60, 61, 62, 63] ++ ([64, 65, 66, 67, 68, 69, 70, 71, 72, 73, 74, 75, 76, 77, 78, 79] ++ ([80, 81, 82, 83, 84, 85, 86, 87, 88, 89, 90, 91, 92, 93, 94, 95] ++ ([96, 97, 98, 99, 100, 101, 102, 103, 104, 105, 106, 107, 108, 109, 110, 111] ++ ([112, 113, 114, 115, 116, 117, 118, 119, 120, 121, 122, 123, 124, 125, 126, 127] ++ ([128, 129, 130, 131, 132, 133, 134, 135, 136, 137, 138, 139, 140, 141, 142, 143] ++ ([144, 145, 146, 147, 148]))))))))), lt_mok m = true := List.forall_mem_append.mpr ⟨lt_mg0, List.forall_mem_append.mpr ⟨lt_mg1, List.forall_mem_append.mpr ⟨lt_mg2, List.forall_mem_append.mpr ⟨lt_mg3, List.forall_mem_append.mpr ⟨lt_mg4, List.forall_mem_append.mpr ⟨lt_mg5, List.forall_mem_append.mpr ⟨lt_mg6, List.forall_mem_append.mpr ⟨lt_mg7, List.forall_mem_append.mpr ⟨lt_mg8, lt_mg9⟩⟩⟩⟩⟩⟩⟩⟩⟩
theorem lt_moka {m : Nat} (h : m < 149) : lt_mok m = true := lt_mgs m (by
  have e : [0, 1, 2, 3, 4, 5, 6, 7, 8, 9, 10, 11, 12, 13, 14, 15] ++ ([16, 17, 18, 19, 20, 21, 22, 23, 24, 25, 26, 27, 28, 29, 30, 31] ++ ([32, 33, 34, 35, 36, 37, 38, 39, 40, 41, 42, 43, 44, 45, 46, 47] ++ ([48, 49, 50, 51, 52, 53, 54, 55, 56, 57, 58, 59, 60, 61, 62, 63] ++ ([64, 65, 66, 67, 68, 69, 70, 71, 72, 73, 74, 75, 76, 77, 78, 79] ++ ([80, 81, 82, 83, 84, 85, 86, 87, 88, 89, 90, 91, 92, 93, 94, 95] ++ ([96, 97, 98, 99, 100, 101, 102, 103, 104, 105, 106, 107, 108, 109, 110, 111] ++ ([112, 113, 114, 115, 116, 117, 118, 119, 120, 121, 122, 123, 124, 125, 126, 127] ++ ([128, 129, 130, 131, 132, 133, 134, 135, 136, 137, 138, 139, 140, 141, 142, 143] ++ ([144, 145, 146, 147, 148]))))))))) = List.range 149 := by decide +kernel
  rw [e]; exact List.mem_range.mpr h)
/-- places of the links of methods; is it by a nest -/
def lt_mpl (m : Nat) : List (Nat × Nat × Bool) := bif Nat.blt m 8 then (bif Nat.blt m 4 then (bif Nat.blt m 2 then (bif Nat.blt m 1 then ([(3, 64, false), (11, 67, false), (20, 94, true), (27, 121, true), (36, 251, false), (40, 256, false), (44, 585, false), (62, 893, true), (66, 961, false), (73, 611, false), (80, 621, false), (84, 1071, false), (91, 1075, true), (95, 570, false), (99, 580, false), (103, 589, false)]) else ([(3, 124, false), (30, 127, true), (37, 165, true), (58, 255, false), (64, 739, true), (93, 260, false), (97, 269, false), (104, 625, true), (112, 628, true), (115, 631, false), (119, 643, true), (128, 646, false), (132, 654, false), (142, 661, true), (145, 672, false), (149, 735, false), (155, 740, false), (158, 744, false), (162, 658, true), (166, 748, false), (173, 662, false), (176, 666, true), (179, 667, false), (182, 676, false), (185, 680, false), (189, 696, false), (192, 684, false), (199, 688, false), (203, 692, false), (206, 700, false), (209, 707, false), (212, 718, false), (218, 721, false), (221, 731, false), (224, 704, true), (228, 711, false), (231, 714, false), (234, 725, false), (242, 593, true), (246, 594, true), (249, 597, false), (253, 603, false)])) else (bif Nat.blt m 3 then ([(3, 298, false)]) else ([(3, 70, false), (21, 71, false), (27, 671, true), (31, 898, true), (35, 574, true)]))) else (bif Nat.blt m 6 then (bif Nat.blt m 5 then ([(3, 97, false), (25, 615, true), (29, 618, false), (35, 851, true), (39, 830, false), (45, 829, true), (48, 584, true)]) else ([(3, 168, false), (18, 752, true), (28, 753, true), (32, 754, false), (36, 755, true), (40, 756, true)])) else (bif Nat.blt m 7 then ([(3, 376, false), (51, 1115, false), (57, 1116, false), (61, 1125, false), (65, 1122, true), (73, 1131, false), (77, 1121, true), (80, 1134, false), (84, 1138, false), (88, 1145, false), (93, 1123, true), (99, 1124, true), (102, 1142, false)]) else ([(3, 346, false), (35, 792, false), (41, 793, false), (50, 797, true), (54, 799, true), (58, 800, false), (64, 801, true), (68, 802, true), (71, 803, false), (75, 809, true), (79, 807, true), (82, 808, true), (89, 798, true), (92, 788, false), (96, 873, false), (99, 880, false), (103, 881, false), (107, 877, false), (110, 878, false), (113, 879, true)])))) else (bif Nat.blt m 12 then (bif Nat.blt m 10 then (bif Nat.blt m 9 then ([(3, 130, false), (31, 264, false), (39, 266, false), (49, 635, true), (53, 638, true), (57, 639, true), (61, 650, true), (64, 651, true), (67, 1050, true), (70, 601, true), (74, 602, true)]) else ([(3, 320, false)])) else (bif Nat.blt m 11 then ([(1, 56, false), (9, 61, false), (22, 295, true), (29, 317, true), (36, 343, true), (43, 373, true), (48, 468, false), (52, 781, false), (56, 889, false), (63, 554, false), (70, 894, false), (80, 957, false), (84, 535, false), (87, 607, false), (91, 1096, false), (94, 941, false), (113, 981, false), (129, 1091, false), (132, 937, false), (135, 940, false), (144, 942, false), (148, 943, false), (154, 948, false), (157, 952, false), (161, 1083, false), (164, 860, false), (177, 1067, false), (184, 562, false), (195, 558, false), (201, 566, false), (231, 1006, false), (234, 835, false), (255, 1001, false), (267, 1037, false), (270, 1041, false), (273, 969, false), (291, 1046, false), (313, 847, false), (316, 763, false), (319, 784, false), (323, 859, false), (331, 825, false), (335, 1111, false), (345, 869, false), (353, 577, false)]) else ([(1, 446, false)]))) else (bif Nat.blt m 14 then (bif Nat.blt m 13 then ([(1, 905, false), (36, 986, false), (40, 990, false), (43, 1055, false), (49, 1056, false), (52, 1057, false)]) else ([(7, 454, false), (13, 813, false), (20, 817, false), (26, 461, false), (30, 464, false), (38, 759, false), (41, 810, false), (45, 814, false), (49, 818, false), (52, 821, false), (54, 831, false), (57, 839, false), (60, 843, false), (63, 852, false), (67, 865, false), (71, 855, false), (75, 861, false), (78, 997, false), (81, 973, false), (85, 1002, false), (88, 1010, false), (91, 1014, false), (95, 1018, false), (98, 977, false), (101, 1042, false), (109, 885, false), (115, 902, false), (118, 933, false), (122, 944, false), (125, 953, false), (128, 965, false), (131, 982, false), (135, 994, false), (139, 1051, false), (143, 1058, false), (147, 1063, false), (150, 1076, false), (154, 1079, false), (157, 1087, false), (160, 1092, false), (163, 1100, false), (169, 1149, false), (172, 1152, false), (175, 1146, false), (179, 1107, false), (182, 1153, false), (185, 443, false), (188, 53, false), (189, 458, false), (193, 882, false), (196, 1104, false)])) else (bif Nat.blt m 15 then ([]) else (bif Nat.blt m 16 then ([]) else ([])))))
def lt_yx (mi : Nat) : MethodName := bif Nat.beq mi 1000 then arraycopyName else bif Nat.beq mi 1001 then Lib.objectInit else lt_y mi
def lt_lok (own : Nat) (e : Nat × Nat × Nat) : Bool := match lt_find (lt_mpl own) e.1 with
  | some (i, true) => decide (lw_tbl[i]? = some (.methodLinkNest (lt_cn own) e.1 (lt_y e.2.1) "Cachebench")) && (Nat.blt e.2.1 149 && decide ((lt_np e.2.1).map (fun k => bif (lt_inf e.2.1).2.2.2.1 then k else k + 1) = some e.2.2))
  | some (i, false) => lt_gw i (.methodLink (lt_cn own) e.1 (lt_yx e.2.1)) && (Nat.beq e.2.1 1000 || (Nat.beq e.2.1 1001 || (Nat.blt e.2.1 149 && decide ((lt_np e.2.1).map (fun k => bif (lt_inf e.2.1).2.2.2.1 then k else k + 1) = some e.2.2))))
  | none => false
theorem lt_lo0 : (lt_mth 0).all (lt_lok 0) = true := by decide +kernel
theorem lt_lo1 : (lt_mth 1).all (lt_lok 1) = true := by decide +kernel
theorem lt_lo2 : (lt_mth 2).all (lt_lok 2) = true := by decide +kernel
theorem lt_lo3 : (lt_mth 3).all (lt_lok 3) = true := by decide +kernel
theorem lt_lo4 : (lt_mth 4).all (lt_lok 4) = true := by decide +kernel
theorem lt_lo5 : (lt_mth 5).all (lt_lok 5) = true := by decide +kernel
theorem lt_lo6 : (lt_mth 6).all (lt_lok 6) = true := by decide +kernel
theorem lt_lo7 : (lt_mth 7).all (lt_lok 7) = true := by decide +kernel
theorem lt_lo8 : (lt_mth 8).all (lt_lok 8) = true := by decide +kernel
theorem lt_lo9 : (lt_mth 9).all (lt_lok 9) = true := by decide +kernel
theorem lt_lo10 : (lt_mth 10).all (lt_lok 10) = true := by decide +kernel
theorem lt_lo11 : (lt_mth 11).all (lt_lok 11) = true := by decide +kernel
theorem lt_lo12 : (lt_mth 12).all (lt_lok 12) = true := by decide +kernel
theorem lt_lo13 : (lt_mth 13).all (lt_lok 13) = true := by decide +kernel
theorem lt_lo14 : (lt_mth 14).all (lt_lok 14) = true := by decide +kernel
theorem lt_lo15 : (lt_mth 15).all (lt_lok 15) = true := by decide +kernel
theorem lt_lo16 : (lt_mth 16).all (lt_lok 16) = true := by decide +kernel
def lt_fpl (m : Nat) : List (Nat × Nat) := bif Nat.blt m 8 then (bif Nat.blt m 4 then (bif Nat.blt m 2 then (bif Nat.blt m 1 then ([(12, 273), (21, 275), (28, 277), (32, 278), (48, 187), (52, 206), (56, 170), (59, 208), (70, 280), (77, 108), (87, 105)]) else ([(9, 186), (15, 199), (18, 200), (22, 201), (25, 202), (31, 203), (38, 205), (42, 207), (45, 178), (49, 180), (52, 182), (55, 184), (68, 188), (71, 190), (74, 192), (77, 193), (80, 194), (83, 195), (86, 197), (90, 198), (99, 100), (108, 104), (109, 140), (123, 76), (136, 132), (139, 79), (152, 102), (170, 142), (196, 82), (239, 172)])) else (bif Nat.blt m 3 then ([(9, 301), (15, 299), (19, 300)]) else ([(9, 74), (15, 78), (18, 81)]))) else (bif Nat.blt m 6 then (bif Nat.blt m 5 then ([(9, 98), (15, 101), (18, 103), (21, 106)]) else ([(9, 169), (15, 171), (22, 75)])) else (bif Nat.blt m 7 then ([(11, 377), (15, 379), (19, 386), (23, 387), (26, 388), (29, 389), (32, 390), (35, 381), (39, 382), (42, 383), (45, 384), (48, 385)]) else ([(9, 352), (15, 353), (19, 354), (22, 355), (25, 347), (29, 349), (32, 351), (45, 99), (86, 107)])))) else (bif Nat.blt m 12 then (bif Nat.blt m 10 then (bif Nat.blt m 9 then ([(9, 131), (15, 134), (18, 136), (21, 138), (24, 139), (28, 141), (42, 143), (46, 144)]) else ([(9, 321), (15, 322), (18, 323), (21, 324), (24, 325)])) else (bif Nat.blt m 11 then ([(10, 416), (16, 417), (23, 420), (30, 421), (37, 422), (44, 423), (66, 274), (76, 279), (120, 276), (124, 109), (139, 189), (151, 181), (171, 191), (192, 419), (198, 418), (222, 77), (225, 80), (228, 83), (246, 179), (249, 183), (252, 185), (258, 196), (276, 204), (280, 133), (285, 135), (288, 137), (327, 348), (328, 350), (339, 380), (342, 378)]) else ([(9, 450)]))) else (bif Nat.blt m 14 then (bif Nat.blt m 13 then ([(7, 909), (13, 910), (17, 906), (21, 907), (24, 908), (27, 912), (30, 911), (33, 913)]) else ([])) else (bif Nat.blt m 15 then ([]) else (bif Nat.blt m 16 then ([]) else ([])))))
def lt_fok (own : Nat) (e : Nat × Nat × Nat × Nat × Bool) : Bool := match vwCl[e.2.1]?, lt_find (lt_fpl own) e.1 with
  | some r, some i => Nat.blt e.2.2.1 r.2.2 && (lt_gw i (.fieldLink (lt_cn own) e.1 r.1 (r.2.1 e.2.2.1).2.1 (r.2.1 e.2.2.1).2.2.1) && (decide ((r.2.1 e.2.2.1).1 = r.1) && (decide ((r.2.1 e.2.2.1).2.2.2 = e.2.2.2.2) && Nat.beq (lt_ft e.2.1 e.2.2.1) e.2.2.2.1)))
  | _, _ => false
theorem lt_fo0 : (lt_fld 0).all (lt_fok 0) = true := by decide +kernel
theorem lt_fo1 : (lt_fld 1).all (lt_fok 1) = true := by decide +kernel
theorem lt_fo2 : (lt_fld 2).all (lt_fok 2) = true := by decide +kernel
theorem lt_fo3 : (lt_fld 3).all (lt_fok 3) = true := by decide +kernel
theorem lt_fo4 : (lt_fld 4).all (lt_fok 4) = true := by decide +kernel
theorem lt_fo5 : (lt_fld 5).all (lt_fok 5) = true := by decide +kernel
theorem lt_fo6 : (lt_fld 6).all (lt_fok 6) = true := by decide +kernel
theorem lt_fo7 : (lt_fld 7).all (lt_fok 7) = true := by decide +kernel
theorem lt_fo8 : (lt_fld 8).all (lt_fok 8) = true := by decide +kernel
theorem lt_fo9 : (lt_fld 9).all (lt_fok 9) = true := by decide +kernel
theorem lt_fo10 : (lt_fld 10).all (lt_fok 10) = true := by decide +kernel
theorem lt_fo11 : (lt_fld 11).all (lt_fok 11) = true := by decide +kernel
theorem lt_fo12 : (lt_fld 12).all (lt_fok 12) = true := by decide +kernel
theorem lt_fo13 : (lt_fld 13).all (lt_fok 13) = true := by decide +kernel
theorem lt_fo14 : (lt_fld 14).all (lt_fok 14) = true := by decide +kernel
theorem lt_fo15 : (lt_fld 15).all (lt_fok 15) = true := by decide +kernel
theorem lt_fo16 : (lt_fld 16).all (lt_fok 16) = true := by decide +kernel
def lt_fqpl (m : Nat) : List (Nat × Nat) := bif Nat.blt m 8 then (bif Nat.blt m 4 then (bif Nat.blt m 2 then (bif Nat.blt m 1 then ([]) else ([])) else (bif Nat.blt m 3 then ([]) else ([]))) else (bif Nat.blt m 6 then (bif Nat.blt m 5 then ([]) else ([])) else (bif Nat.blt m 7 then ([]) else ([])))) else (bif Nat.blt m 12 then (bif Nat.blt m 10 then (bif Nat.blt m 9 then ([]) else ([])) else (bif Nat.blt m 11 then ([]) else ([]))) else (bif Nat.blt m 14 then (bif Nat.blt m 13 then ([]) else ([(166, 914)])) else (bif Nat.blt m 15 then ([]) else (bif Nat.blt m 16 then ([]) else ([])))))
def lt_fqk (own : Nat) (e : Nat × Nat × Nat) : Bool := match vwCl[e.2.1]?, lt_find (lt_fqpl own) e.1 with
  | some r, some i => Nat.blt e.2.2 r.2.2 && (decide (lw_tbl[i]? = some (.fieldLinkNest (lt_cn own) e.1 r.1 (r.2.1 e.2.2).2.1 (r.2.1 e.2.2).2.2.1 "CachebenchLaw")) && (decide ((r.2.1 e.2.2).1 = r.1) && Nat.beq (lt_ft e.2.1 e.2.2) 0))
  | _, _ => false
theorem lt_fq0 : (lt_fln 0).all (lt_fqk 0) = true := by decide +kernel
theorem lt_fq1 : (lt_fln 1).all (lt_fqk 1) = true := by decide +kernel
theorem lt_fq2 : (lt_fln 2).all (lt_fqk 2) = true := by decide +kernel
theorem lt_fq3 : (lt_fln 3).all (lt_fqk 3) = true := by decide +kernel
theorem lt_fq4 : (lt_fln 4).all (lt_fqk 4) = true := by decide +kernel
theorem lt_fq5 : (lt_fln 5).all (lt_fqk 5) = true := by decide +kernel
theorem lt_fq6 : (lt_fln 6).all (lt_fqk 6) = true := by decide +kernel
theorem lt_fq7 : (lt_fln 7).all (lt_fqk 7) = true := by decide +kernel
theorem lt_fq8 : (lt_fln 8).all (lt_fqk 8) = true := by decide +kernel
theorem lt_fq9 : (lt_fln 9).all (lt_fqk 9) = true := by decide +kernel
theorem lt_fq10 : (lt_fln 10).all (lt_fqk 10) = true := by decide +kernel
theorem lt_fq11 : (lt_fln 11).all (lt_fqk 11) = true := by decide +kernel
theorem lt_fq12 : (lt_fln 12).all (lt_fqk 12) = true := by decide +kernel
theorem lt_fq13 : (lt_fln 13).all (lt_fqk 13) = true := by decide +kernel
theorem lt_fq14 : (lt_fln 14).all (lt_fqk 14) = true := by decide +kernel
theorem lt_fq15 : (lt_fln 15).all (lt_fqk 15) = true := by decide +kernel
theorem lt_fq16 : (lt_fln 16).all (lt_fqk 16) = true := by decide +kernel
def lt_cpl (m : Nat) : List (Nat × Nat) := bif Nat.blt m 8 then (bif Nat.blt m 4 then (bif Nat.blt m 2 then (bif Nat.blt m 1 then ([(9, 65), (18, 92), (25, 119)]) else ([(28, 125), (35, 163)])) else (bif Nat.blt m 3 then ([]) else ([]))) else (bif Nat.blt m 6 then (bif Nat.blt m 5 then ([]) else ([])) else (bif Nat.blt m 7 then ([]) else ([])))) else (bif Nat.blt m 12 then (bif Nat.blt m 10 then (bif Nat.blt m 9 then ([]) else ([])) else (bif Nat.blt m 11 then ([(7, 59), (20, 293), (27, 315), (34, 341), (41, 371), (60, 539), (103, 766), (168, 1022), (349, 471)]) else ([]))) else (bif Nat.blt m 14 then (bif Nat.blt m 13 then ([]) else ([(8, 441), (31, 51), (36, 757), (113, 899)])) else (bif Nat.blt m 15 then ([]) else (bif Nat.blt m 16 then ([]) else ([])))))
def lt_en (m : Nat) : String := bif Nat.blt m 2 then (bif Nat.blt m 1 then ("java/lang/IndexOutOfBoundsException") else ("java/lang/IllegalArgumentException")) else (bif Nat.blt m 3 then ("java/lang/IllegalStateException") else ("java/util/NoSuchElementException"))
def lt_cx (c : Nat) : String := bif Nat.blt c 100 then (match vwCl[c]? with | some r => r.1 | none => "") else bif Nat.blt c 200 then lt_en (c - 100) else bif Nat.beq c 207 then "[[I" else "[[Z"
def lt_cok (own : Nat) (e : Nat × Nat) : Bool := match lt_find (lt_cpl own) e.1 with
  | some i => lt_gw i (.classLink (lt_cn own) e.1 (lt_cx e.2)) && (Nat.blt e.2 13 || (Nat.ble 100 e.2 && Nat.blt e.2 104 || Nat.beq e.2 207))
  | none => false
theorem lt_co0 : (lt_cls 0).all (lt_cok 0) = true := by decide +kernel
theorem lt_co1 : (lt_cls 1).all (lt_cok 1) = true := by decide +kernel
theorem lt_co2 : (lt_cls 2).all (lt_cok 2) = true := by decide +kernel
theorem lt_co3 : (lt_cls 3).all (lt_cok 3) = true := by decide +kernel
theorem lt_co4 : (lt_cls 4).all (lt_cok 4) = true := by decide +kernel
theorem lt_co5 : (lt_cls 5).all (lt_cok 5) = true := by decide +kernel
theorem lt_co6 : (lt_cls 6).all (lt_cok 6) = true := by decide +kernel
theorem lt_co7 : (lt_cls 7).all (lt_cok 7) = true := by decide +kernel
theorem lt_co8 : (lt_cls 8).all (lt_cok 8) = true := by decide +kernel
theorem lt_co9 : (lt_cls 9).all (lt_cok 9) = true := by decide +kernel
theorem lt_co10 : (lt_cls 10).all (lt_cok 10) = true := by decide +kernel
theorem lt_co11 : (lt_cls 11).all (lt_cok 11) = true := by decide +kernel
theorem lt_co12 : (lt_cls 12).all (lt_cok 12) = true := by decide +kernel
theorem lt_co13 : (lt_cls 13).all (lt_cok 13) = true := by decide +kernel
theorem lt_co14 : (lt_cls 14).all (lt_cok 14) = true := by decide +kernel
theorem lt_co15 : (lt_cls 15).all (lt_cok 15) = true := by decide +kernel
theorem lt_co16 : (lt_cls 16).all (lt_cok 16) = true := by decide +kernel
def lt_kpl (m : Nat) : List (Nat × Nat) := bif Nat.blt m 8 then (bif Nat.blt m 4 then (bif Nat.blt m 2 then (bif Nat.blt m 1 then ([]) else ([])) else (bif Nat.blt m 3 then ([]) else ([]))) else (bif Nat.blt m 6 then (bif Nat.blt m 5 then ([]) else ([])) else (bif Nat.blt m 7 then ([(69, 1129), (71, 1130), (97, 1120)]) else ([])))) else (bif Nat.blt m 12 then (bif Nat.blt m 10 then (bif Nat.blt m 9 then ([(37, 265)]) else ([])) else (bif Nat.blt m 11 then ([(352, 1099), (359, 642)]) else ([(7, 447), (15, 448), (17, 449)]))) else (bif Nat.blt m 14 then (bif Nat.blt m 13 then ([]) else ([(105, 1061), (107, 1062)])) else (bif Nat.blt m 15 then ([(265, 728), (266, 729), (267, 730)]) else (bif Nat.blt m 16 then ([]) else ([])))))
def lt_kok (own : Nat) (e : Nat × Int32) : Bool := match lt_find (lt_kpl own) e.1 with
  | some i => lt_gw i (.constant (lt_cn own) e.1 e.2)
  | none => false
def lt_jok (own : Nat) (e : Nat × Int64) : Bool := match lt_find (lt_kpl own) e.1 with
  | some i => lt_gw i (.constantLong (lt_cn own) e.1 e.2)
  | none => false
theorem lt_ko0 : (lt_cst 0).all (lt_kok 0) = true := by decide +kernel
theorem lt_jo0 : (lt_csl 0).all (lt_jok 0) = true := by decide +kernel
theorem lt_ko1 : (lt_cst 1).all (lt_kok 1) = true := by decide +kernel
theorem lt_jo1 : (lt_csl 1).all (lt_jok 1) = true := by decide +kernel
theorem lt_ko2 : (lt_cst 2).all (lt_kok 2) = true := by decide +kernel
theorem lt_jo2 : (lt_csl 2).all (lt_jok 2) = true := by decide +kernel
theorem lt_ko3 : (lt_cst 3).all (lt_kok 3) = true := by decide +kernel
theorem lt_jo3 : (lt_csl 3).all (lt_jok 3) = true := by decide +kernel
theorem lt_ko4 : (lt_cst 4).all (lt_kok 4) = true := by decide +kernel
theorem lt_jo4 : (lt_csl 4).all (lt_jok 4) = true := by decide +kernel
theorem lt_ko5 : (lt_cst 5).all (lt_kok 5) = true := by decide +kernel
theorem lt_jo5 : (lt_csl 5).all (lt_jok 5) = true := by decide +kernel
theorem lt_ko6 : (lt_cst 6).all (lt_kok 6) = true := by decide +kernel
theorem lt_jo6 : (lt_csl 6).all (lt_jok 6) = true := by decide +kernel
theorem lt_ko7 : (lt_cst 7).all (lt_kok 7) = true := by decide +kernel
theorem lt_jo7 : (lt_csl 7).all (lt_jok 7) = true := by decide +kernel
theorem lt_ko8 : (lt_cst 8).all (lt_kok 8) = true := by decide +kernel
theorem lt_jo8 : (lt_csl 8).all (lt_jok 8) = true := by decide +kernel
theorem lt_ko9 : (lt_cst 9).all (lt_kok 9) = true := by decide +kernel
theorem lt_jo9 : (lt_csl 9).all (lt_jok 9) = true := by decide +kernel
theorem lt_ko10 : (lt_cst 10).all (lt_kok 10) = true := by decide +kernel
theorem lt_jo10 : (lt_csl 10).all (lt_jok 10) = true := by decide +kernel
theorem lt_ko11 : (lt_cst 11).all (lt_kok 11) = true := by decide +kernel
theorem lt_jo11 : (lt_csl 11).all (lt_jok 11) = true := by decide +kernel
theorem lt_ko12 : (lt_cst 12).all (lt_kok 12) = true := by decide +kernel
theorem lt_jo12 : (lt_csl 12).all (lt_jok 12) = true := by decide +kernel
theorem lt_ko13 : (lt_cst 13).all (lt_kok 13) = true := by decide +kernel
theorem lt_jo13 : (lt_csl 13).all (lt_jok 13) = true := by decide +kernel
theorem lt_ko14 : (lt_cst 14).all (lt_kok 14) = true := by decide +kernel
theorem lt_jo14 : (lt_csl 14).all (lt_jok 14) = true := by decide +kernel
theorem lt_ko15 : (lt_cst 15).all (lt_kok 15) = true := by decide +kernel
theorem lt_jo15 : (lt_csl 15).all (lt_jok 15) = true := by decide +kernel
theorem lt_ko16 : (lt_cst 16).all (lt_kok 16) = true := by decide +kernel
theorem lt_jo16 : (lt_csl 16).all (lt_jok 16) = true := by decide +kernel
theorem lt_lo : ∀ k, k < 17 → (lt_mth k).all (lt_lok k) = true
  | 0, _ => lt_lo0
  | 1, _ => lt_lo1
  | 2, _ => lt_lo2
  | 3, _ => lt_lo3
  | 4, _ => lt_lo4
  | 5, _ => lt_lo5
  | 6, _ => lt_lo6
  | 7, _ => lt_lo7
  | 8, _ => lt_lo8
  | 9, _ => lt_lo9
  | 10, _ => lt_lo10
  | 11, _ => lt_lo11
  | 12, _ => lt_lo12
  | 13, _ => lt_lo13
  | 14, _ => lt_lo14
  | 15, _ => lt_lo15
  | 16, _ => lt_lo16
  | k + 17, h => absurd h (by omega)
theorem lt_fo : ∀ k, k < 17 → (lt_fld k).all (lt_fok k) = true
  | 0, _ => lt_fo0
  | 1, _ => lt_fo1
  | 2, _ => lt_fo2
  | 3, _ => lt_fo3
  | 4, _ => lt_fo4
  | 5, _ => lt_fo5
  | 6, _ => lt_fo6
  | 7, _ => lt_fo7
  | 8, _ => lt_fo8
  | 9, _ => lt_fo9
  | 10, _ => lt_fo10
  | 11, _ => lt_fo11
  | 12, _ => lt_fo12
  | 13, _ => lt_fo13
  | 14, _ => lt_fo14
  | 15, _ => lt_fo15
  | 16, _ => lt_fo16
  | k + 17, h => absurd h (by omega)
theorem lt_fq : ∀ k, k < 17 → (lt_fln k).all (lt_fqk k) = true
  | 0, _ => lt_fq0
  | 1, _ => lt_fq1
  | 2, _ => lt_fq2
  | 3, _ => lt_fq3
  | 4, _ => lt_fq4
  | 5, _ => lt_fq5
  | 6, _ => lt_fq6
  | 7, _ => lt_fq7
  | 8, _ => lt_fq8
  | 9, _ => lt_fq9
  | 10, _ => lt_fq10
  | 11, _ => lt_fq11
  | 12, _ => lt_fq12
  | 13, _ => lt_fq13
  | 14, _ => lt_fq14
  | 15, _ => lt_fq15
  | 16, _ => lt_fq16
  | k + 17, h => absurd h (by omega)
theorem lt_co : ∀ k, k < 17 → (lt_cls k).all (lt_cok k) = true
  | 0, _ => lt_co0
  | 1, _ => lt_co1
  | 2, _ => lt_co2
  | 3, _ => lt_co3
  | 4, _ => lt_co4
  | 5, _ => lt_co5
  | 6, _ => lt_co6
  | 7, _ => lt_co7
  | 8, _ => lt_co8
  | 9, _ => lt_co9
  | 10, _ => lt_co10
  | 11, _ => lt_co11
  | 12, _ => lt_co12
  | 13, _ => lt_co13
  | 14, _ => lt_co14
  | 15, _ => lt_co15
  | 16, _ => lt_co16
  | k + 17, h => absurd h (by omega)
theorem lt_ko : ∀ k, k < 17 → (lt_cst k).all (lt_kok k) = true
  | 0, _ => lt_ko0
  | 1, _ => lt_ko1
  | 2, _ => lt_ko2
  | 3, _ => lt_ko3
  | 4, _ => lt_ko4
  | 5, _ => lt_ko5
  | 6, _ => lt_ko6
  | 7, _ => lt_ko7
  | 8, _ => lt_ko8
  | 9, _ => lt_ko9
  | 10, _ => lt_ko10
  | 11, _ => lt_ko11
  | 12, _ => lt_ko12
  | 13, _ => lt_ko13
  | 14, _ => lt_ko14
  | 15, _ => lt_ko15
  | 16, _ => lt_ko16
  | k + 17, h => absurd h (by omega)
theorem lt_jo : ∀ k, k < 17 → (lt_csl k).all (lt_jok k) = true
  | 0, _ => lt_jo0
  | 1, _ => lt_jo1
  | 2, _ => lt_jo2
  | 3, _ => lt_jo3
  | 4, _ => lt_jo4
  | 5, _ => lt_jo5
  | 6, _ => lt_jo6
  | 7, _ => lt_jo7
  | 8, _ => lt_jo8
  | 9, _ => lt_jo9
  | 10, _ => lt_jo10
  | 11, _ => lt_jo11
  | 12, _ => lt_jo12
  | 13, _ => lt_jo13
  | 14, _ => lt_jo14
  | 15, _ => lt_jo15
  | 16, _ => lt_jo16
  | k + 17, h => absurd h (by omega)
theorem lt_own_lt : ∀ m, m < 150 → (lt_inf m).1 < 17 := by decide +kernel
def lt_kp (m : Nat) : Nat × Nat × List Nat := bif Nat.blt m 6 then (bif Nat.blt m 3 then (bif Nat.blt m 1 then ((60, 29, [281, 283, 285, 287, 289])) else (bif Nat.blt m 2 then ((120, 33, [209, 211, 213, 215, 217, 219, 221, 223, 225, 227, 229, 231, 233, 235, 237, 239, 241, 243, 245, 247])) else ((294, 36, [302, 304, 306, 308, 310, 312])))) else (bif Nat.blt m 4 then ((66, 30, [84, 86, 88])) else (bif Nat.blt m 5 then ((93, 32, [110, 112, 114, 116])) else ((164, 35, [173, 175]))))) else (bif Nat.blt m 9 then (bif Nat.blt m 7 then ((372, 39, [391, 393, 395, 397, 399, 401, 403, 405, 407, 409, 411, 413])) else (bif Nat.blt m 8 then ((342, 38, [356, 358, 360, 362, 364, 366, 368])) else ((126, 34, [145, 147, 149, 151, 153, 155, 157, 159])))) else (bif Nat.blt m 11 then (bif Nat.blt m 10 then ((316, 37, [326, 328, 330, 332, 334, 336, 338])) else ((52, 28, [424, 426, 428, 430, 432, 434, 436, 438]))) else (bif Nat.blt m 12 then ((442, 27, [451])) else ((901, 49, [915, 917, 919, 921, 923, 925, 927, 929])))))
def lt_tyo : Nat → FieldType → Bool
  | 0, .int => true
  | 1, .long => true
  | 3, .boolean => true
  | 2, .object _ => true
  | 2, .array _ => true
  | _, _ => false
/-- a class's words -/
def lt_kw (c : Nat) : Bool := match vwCl[c]? with
  | some r => lt_gw (lt_kp c).1 (.instantiable r.1 r.2.2) && (lt_gw (lt_kp c).2.1 (.initialized r.1) && (decide (u_ws r.1 r.2.1 r.2.2 = (lt_kp c).2.2.filterMap fun i => lw_tbl[i]?) && ((u_ws r.1 r.2.1 r.2.2).all goodWord && (Nat.beq (lt_nf c) r.2.2 &&
      ((List.range r.2.2).all fun k => match parseFieldDescriptor (r.2.1 k).2.2.1 with | some t => lt_tyo (lt_ft c k) t | none => false) &&
      (List.range r.2.2).all fun a => (List.range r.2.2).all fun b => decide (a = b) || decide ((r.2.1 a).2.1 ≠ (r.2.1 b).2.1)))))
  | none => false
theorem lt_kw0 : lt_kw 0 = true := by decide +kernel
theorem lt_kw1 : lt_kw 1 = true := by decide +kernel
theorem lt_kw2 : lt_kw 2 = true := by decide +kernel
theorem lt_kw3 : lt_kw 3 = true := by decide +kernel
theorem lt_kw4 : lt_kw 4 = true := by decide +kernel
theorem lt_kw5 : lt_kw 5 = true := by decide +kernel
theorem lt_kw6 : lt_kw 6 = true := by decide +kernel
theorem lt_kw7 : lt_kw 7 = true := by decide +kernel
theorem lt_kw8 : lt_kw 8 = true := by decide +kernel
theorem lt_kw9 : lt_kw 9 = true := by decide +kernel
theorem lt_kw10 : lt_kw 10 = true := by decide +kernel
theorem lt_kw11 : lt_kw 11 = true := by decide +kernel
theorem lt_kw12 : lt_kw 12 = true := by decide +kernel
theorem lt_kws : ∀ c, c < 13 → lt_kw c = true
  | 0, _ => lt_kw0
  | 1, _ => lt_kw1
  | 2, _ => lt_kw2
  | 3, _ => lt_kw3
  | 4, _ => lt_kw4
  | 5, _ => lt_kw5
  | 6, _ => lt_kw6
  | 7, _ => lt_kw7
  | 8, _ => lt_kw8
  | 9, _ => lt_kw9
  | 10, _ => lt_kw10
  | 11, _ => lt_kw11
  | 12, _ => lt_kw12
  | k + 13, h => absurd h (by omega)
theorem lt_ac_int : Cond.arrayClass .int ∈ lw_good := lt_gw_in (i := 91) (by decide +kernel)
theorem lt_ac_long : Cond.arrayClass .long ∈ lw_good := lt_gw_in (i := 162) (by decide +kernel)
theorem lt_ac_boolean : Cond.arrayClass .boolean ∈ lw_good := lt_gw_in (i := 932) (by decide +kernel)
theorem lt_ao_Bench : lw_tbl[292]? = some (Cond.arrayOver (.object "Cachebench$Bench")) := by decide +kernel
theorem lt_ao_Cache : lw_tbl[250]? = some (Cond.arrayOver (.object "Cachebench$Cache")) := by decide +kernel
theorem lt_ao_int : lw_tbl[758]? = some (Cond.arrayOver (.array .int)) := by decide +kernel
theorem lt_ao_Plain : lw_tbl[900]? = some (Cond.arrayOver (.object "CachebenchLaw$Plain")) := by decide +kernel
theorem lt_sys1 : Cond.native arraycopyName ∈ lw_good := lt_gw_in (i := 579) (by decide +kernel)
theorem lt_sys2 : Cond.static arraycopyName ∈ lw_good := lt_gw_in (i := 578) (by decide +kernel)
theorem lt_sys3 : Cond.initialized "java/lang/System" ∈ lw_good := lt_gw_in (i := 45) (by decide +kernel)
theorem lt_obj1 : Cond.instanceMethod Lib.objectInit ∈ lw_good := lt_gw_in (i := 57) (by decide +kernel)
theorem lt_obj2 : Cond.code Lib.objectInit ⟨#[0xb1]⟩ 1 none ∈ lw_good := lt_gw_in (i := 58) (by decide +kernel)
