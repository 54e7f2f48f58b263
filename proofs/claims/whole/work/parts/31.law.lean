theorem d_La_law_1026 : decode code 1026 = .ok (.aload_n 1, 1) := by decide +kernel
theorem d_La_law_1027 : decode code 1027 = .ok (.aload_n 0, 1) := by decide +kernel
theorem d_La_law_1028 : decode code 1028 = .ok (.iload_n 3, 1) := by decide +kernel
theorem d_La_law_1029 : decode code 1029 = .ok (.iconst 1, 1) := by decide +kernel
theorem d_La_law_1030 : decode code 1030 = .ok (.iadd, 1) := by decide +kernel
theorem d_La_law_1031 : decode code 1031 = .ok (.iaload, 1) := by decide +kernel
theorem d_La_law_1032 : decode code 1032 = .ok (.aload_n 0, 1) := by decide +kernel
theorem d_La_law_1033 : decode code 1033 = .ok (.iload_n 3, 1) := by decide +kernel
theorem d_La_law_1034 : decode code 1034 = .ok (.iconst 2, 1) := by decide +kernel
theorem d_La_law_1035 : decode code 1035 = .ok (.iadd, 1) := by decide +kernel
theorem d_La_law_1036 : decode code 1036 = .ok (.iaload, 1) := by decide +kernel
theorem d_La_law_1037 : decode code 1037 = .ok (.aload_n 0, 1) := by decide +kernel
theorem d_La_law_1038 : decode code 1038 = .ok (.iload_n 3, 1) := by decide +kernel
theorem d_La_law_1039 : decode code 1039 = .ok (.iconst 3, 1) := by decide +kernel
theorem d_La_law_1040 : decode code 1040 = .ok (.iadd, 1) := by decide +kernel
theorem d_La_law_1041 : decode code 1041 = .ok (.iaload, 1) := by decide +kernel
theorem d_La_law_1042 : decode code 1042 = .ok (.i2l, 1) := by decide +kernel
theorem d_La_law_1043 : decode code 1043 = .ok (.bipush 32, 2) := by decide +kernel
theorem d_La_law_1045 : decode code 1045 = .ok (.lshl, 1) := by decide +kernel
theorem d_La_law_1046 : decode code 1046 = .ok (.aload_n 0, 1) := by decide +kernel
theorem d_La_law_1047 : decode code 1047 = .ok (.iload_n 3, 1) := by decide +kernel
theorem d_La_law_1048 : decode code 1048 = .ok (.iconst 4, 1) := by decide +kernel
theorem d_La_law_1049 : decode code 1049 = .ok (.iadd, 1) := by decide +kernel
theorem d_La_law_1050 : decode code 1050 = .ok (.iaload, 1) := by decide +kernel
theorem d_La_law_1051 : decode code 1051 = .ok (.i2l, 1) := by decide +kernel
theorem d_La_law_1052 : decode code 1052 = .ok (.ldc2_w 35, 3) := by decide +kernel
theorem d_La_law_1055 : decode code 1055 = .ok (.land, 1) := by decide +kernel
theorem d_La_law_1056 : decode code 1056 = .ok (.lor, 1) := by decide +kernel
theorem d_La_law_1057 : decode code 1057 = .ok (.invokevirtual 80, 3) := by decide +kernel
theorem d_La_law_1060 : decode code 1060 = .ok (.aload_n 2, 1) := by decide +kernel
theorem d_La_law_1061 : decode code 1061 = .ok (.aload_n 0, 1) := by decide +kernel
theorem d_La_law_1062 : decode code 1062 = .ok (.iload_n 3, 1) := by decide +kernel
theorem d_La_law_1063 : decode code 1063 = .ok (.iconst 1, 1) := by decide +kernel
theorem d_La_law_1064 : decode code 1064 = .ok (.iadd, 1) := by decide +kernel
theorem d_La_law_1065 : decode code 1065 = .ok (.iaload, 1) := by decide +kernel
theorem d_La_law_1066 : decode code 1066 = .ok (.aload_n 0, 1) := by decide +kernel
theorem d_La_law_1067 : decode code 1067 = .ok (.iload_n 3, 1) := by decide +kernel
theorem d_La_law_1068 : decode code 1068 = .ok (.iconst 2, 1) := by decide +kernel
theorem d_La_law_1069 : decode code 1069 = .ok (.iadd, 1) := by decide +kernel
theorem d_La_law_1070 : decode code 1070 = .ok (.iaload, 1) := by decide +kernel
theorem d_La_law_1071 : decode code 1071 = .ok (.aload_n 0, 1) := by decide +kernel
theorem d_La_law_1072 : decode code 1072 = .ok (.iload_n 3, 1) := by decide +kernel
theorem d_La_law_1073 : decode code 1073 = .ok (.iconst 3, 1) := by decide +kernel
theorem d_La_law_1074 : decode code 1074 = .ok (.iadd, 1) := by decide +kernel
theorem d_La_law_1075 : decode code 1075 = .ok (.iaload, 1) := by decide +kernel
theorem d_La_law_1076 : decode code 1076 = .ok (.i2l, 1) := by decide +kernel
theorem d_La_law_1077 : decode code 1077 = .ok (.bipush 32, 2) := by decide +kernel
theorem d_La_law_1079 : decode code 1079 = .ok (.lshl, 1) := by decide +kernel
theorem d_La_law_1080 : decode code 1080 = .ok (.aload_n 0, 1) := by decide +kernel
theorem d_La_law_1081 : decode code 1081 = .ok (.iload_n 3, 1) := by decide +kernel
theorem d_La_law_1082 : decode code 1082 = .ok (.iconst 4, 1) := by decide +kernel
theorem d_La_law_1083 : decode code 1083 = .ok (.iadd, 1) := by decide +kernel
theorem d_La_law_1084 : decode code 1084 = .ok (.iaload, 1) := by decide +kernel
theorem d_La_law_1085 : decode code 1085 = .ok (.i2l, 1) := by decide +kernel
theorem d_La_law_1086 : decode code 1086 = .ok (.ldc2_w 35, 3) := by decide +kernel
theorem d_La_law_1089 : decode code 1089 = .ok (.land, 1) := by decide +kernel
theorem d_La_law_1090 : decode code 1090 = .ok (.lor, 1) := by decide +kernel
theorem d_La_law_1091 : decode code 1091 = .ok (.invokevirtual 83, 3) := by decide +kernel
theorem d_La_law_1094 : decode code 1094 = .ok (.lcmp, 1) := by decide +kernel
theorem d_La_law_1095 : decode code 1095 = .ok (.ifCond .eq 1591, 3) := by decide +kernel
theorem d_La_law_1098 : decode code 1098 = .ok (.iconst 0, 1) := by decide +kernel
theorem d_La_law_1099 : decode code 1099 = .ok (.ireturn, 1) := by decide +kernel
def B_La_law_1026 (L : Nat) (xs : Nat → Int32) (k18 : Int32 → Sto → Option (Bool × Sto)) (v3 : Int32) (σ : Sto) : Option (Bool × Sto) :=
  (if inb (v3 + (1 : Int32)) L = true then (if inb (v3 + (2 : Int32)) L = true then (if inb (v3 + (3 : Int32)) L = true then (if inb (v3 + (4 : Int32)) L = true then ((f_FR_core (xs (Int32.toNatClampNeg (v3 + (1 : Int32)))) (xs (Int32.toNatClampNeg (v3 + (2 : Int32)))) ((lsh (Int32.toInt64 (xs (Int32.toNatClampNeg (v3 + (3 : Int32))))) (32 : Int32)) ||| ((Int32.toInt64 (xs (Int32.toNatClampNeg (v3 + (4 : Int32))))) &&& (4294967295 : Int64))) σ).bind fun q29 => (if inb (v3 + (1 : Int32)) L = true then (if inb (v3 + (2 : Int32)) L = true then (if inb (v3 + (3 : Int32)) L = true then (if inb (v3 + (4 : Int32)) L = true then ((f_Mo_core (xs (Int32.toNatClampNeg (v3 + (1 : Int32)))) (xs (Int32.toNatClampNeg (v3 + (2 : Int32)))) ((lsh (Int32.toInt64 (xs (Int32.toNatClampNeg (v3 + (3 : Int32))))) (32 : Int32)) ||| ((Int32.toInt64 (xs (Int32.toNatClampNeg (v3 + (4 : Int32))))) &&& (4294967295 : Int64))) q29.2).bind fun q30 => (if q29.1 = q30.1 then B_La_law_2686 L xs k18 v3 q30.2
 else some (false, q30.2))) else none) else none) else none) else none)) else none) else none) else none) else none)
set_option maxHeartbeats 4000000 in
set_option maxRecDepth 100000 in
theorem vB_La_law_1026 {X : Xt} {E : En} {L : Nat} {xs : Nat → Int32} (hX : SX X E L xs) (g : GG X E 200 code R_La 4) {k18 : Int32 → Sto → Option (Bool × Sto)} (hk18 : ∀ (v3 : Int32) (σ : Sto), VV X E code 4 eB 18 [(0, .ref (E.2.1 999)), (1, .ref (E.2.1 0)), (2, .ref (E.2.1 48)), (3, .int v3)] [] σ (k18 v3 σ)) (v3 : Int32) (σ : Sto) : VV X E code 4 eB 1026 [(0, .ref (E.2.1 999)), (1, .ref (E.2.1 0)), (2, .ref (E.2.1 48)), (3, .int v3)] [] σ (B_La_law_1026 L xs k18 v3 σ) := by
  unfold B_La_law_1026
  refine v_aload_n 1 g d_La_law_1026 rfl ?_
  refine v_aload_n 0 g d_La_law_1027 rfl ?_
  refine v_iload_n 3 g d_La_law_1028 rfl ?_
  refine v_iconst (v := (1 : Int32)) g d_La_law_1029 (by decide +kernel) ?_
  refine v_iadd g d_La_law_1030 ?_
  refine v_sld hX g d_La_law_1031 (fun _ => ?_)
  refine v_aload_n 0 g d_La_law_1032 rfl ?_
  refine v_iload_n 3 g d_La_law_1033 rfl ?_
  refine v_iconst (v := (2 : Int32)) g d_La_law_1034 (by decide +kernel) ?_
  refine v_iadd g d_La_law_1035 ?_
  refine v_sld hX g d_La_law_1036 (fun _ => ?_)
  refine v_aload_n 0 g d_La_law_1037 rfl ?_
  refine v_iload_n 3 g d_La_law_1038 rfl ?_
  refine v_iconst (v := (3 : Int32)) g d_La_law_1039 (by decide +kernel) ?_
  refine v_iadd g d_La_law_1040 ?_
  refine v_sld hX g d_La_law_1041 (fun _ => ?_)
  refine v_i2l g d_La_law_1042 ?_
  refine v_bipush (v := (32 : Int32)) g d_La_law_1043 (by decide +kernel) ?_
  refine v_lshl g d_La_law_1045 ?_
  refine v_aload_n 0 g d_La_law_1046 rfl ?_
  refine v_iload_n 3 g d_La_law_1047 rfl ?_
  refine v_iconst (v := (4 : Int32)) g d_La_law_1048 (by decide +kernel) ?_
  refine v_iadd g d_La_law_1049 ?_
  refine v_sld hX g d_La_law_1050 (fun _ => ?_)
  refine v_i2l g d_La_law_1051 ?_
  refine v_ldc2 (v := (4294967295 : Int64)) g (m1 1567 (by decide +kernel) (by decide +kernel)) d_La_law_1052 ?_
  refine v_land g d_La_law_1055 ?_
  refine v_lor g d_La_law_1056 ?_
  refine v_callL (r_V (rest := []) [.int (xs (Int32.toNatClampNeg (v3 + (1 : Int32)))), .int (xs (Int32.toNatClampNeg (v3 + (2 : Int32)))), .long ((lsh (Int32.toInt64 (xs (Int32.toNatClampNeg (v3 + (3 : Int32))))) (32 : Int32)) ||| ((Int32.toInt64 (xs (Int32.toNatClampNeg (v3 + (4 : Int32))))) &&& (4294967295 : Int64)))] g (m1 576 (by decide +kernel) (by decide +kernel)) yv_FR_core rfl (fun r σ1 h => sp_FR_core g.2.2.1  h) rfl rfl (by decide) (Nat.le_of_ble_eq_true rfl) d_La_law_1057) (fun q29 => ?_)
  refine v_aload_n 2 g d_La_law_1060 rfl ?_
  refine v_aload_n 0 g d_La_law_1061 rfl ?_
  refine v_iload_n 3 g d_La_law_1062 rfl ?_
  refine v_iconst (v := (1 : Int32)) g d_La_law_1063 (by decide +kernel) ?_
  refine v_iadd g d_La_law_1064 ?_
  refine v_sld hX g d_La_law_1065 (fun _ => ?_)
  refine v_aload_n 0 g d_La_law_1066 rfl ?_
  refine v_iload_n 3 g d_La_law_1067 rfl ?_
  refine v_iconst (v := (2 : Int32)) g d_La_law_1068 (by decide +kernel) ?_
  refine v_iadd g d_La_law_1069 ?_
  refine v_sld hX g d_La_law_1070 (fun _ => ?_)
  refine v_aload_n 0 g d_La_law_1071 rfl ?_
  refine v_iload_n 3 g d_La_law_1072 rfl ?_
  refine v_iconst (v := (3 : Int32)) g d_La_law_1073 (by decide +kernel) ?_
  refine v_iadd g d_La_law_1074 ?_
  refine v_sld hX g d_La_law_1075 (fun _ => ?_)
  refine v_i2l g d_La_law_1076 ?_
  refine v_bipush (v := (32 : Int32)) g d_La_law_1077 (by decide +kernel) ?_
  refine v_lshl g d_La_law_1079 ?_
  refine v_aload_n 0 g d_La_law_1080 rfl ?_
  refine v_iload_n 3 g d_La_law_1081 rfl ?_
  refine v_iconst (v := (4 : Int32)) g d_La_law_1082 (by decide +kernel) ?_
  refine v_iadd g d_La_law_1083 ?_
  refine v_sld hX g d_La_law_1084 (fun _ => ?_)
  refine v_i2l g d_La_law_1085 ?_
  refine v_ldc2 (v := (4294967295 : Int64)) g (m1 1567 (by decide +kernel) (by decide +kernel)) d_La_law_1086 ?_
  refine v_land g d_La_law_1089 ?_
  refine v_lor g d_La_law_1090 ?_
  refine v_callL (r_V (rest := [.long q29.1]) [.int (xs (Int32.toNatClampNeg (v3 + (1 : Int32)))), .int (xs (Int32.toNatClampNeg (v3 + (2 : Int32)))), .long ((lsh (Int32.toInt64 (xs (Int32.toNatClampNeg (v3 + (3 : Int32))))) (32 : Int32)) ||| ((Int32.toInt64 (xs (Int32.toNatClampNeg (v3 + (4 : Int32))))) &&& (4294967295 : Int64)))] g (m1 1318 (by decide +kernel) (by decide +kernel)) yv_Mo_core rfl (fun r σ1 h => sp_Mo_core g.2.2.1  h) rfl rfl (by decide) (Nat.le_of_ble_eq_true rfl) d_La_law_1091) (fun q30 => ?_)
  refine v_lcmp_eq 2686 g d_La_law_1094 d_La_law_1095 (by decide) (fun _ => ?_) (fun _ => ?_)
  · exact v_sub [0,1,2,3] rfl (vB_La_law_2686 hX g hk18 v3 q30.2)
  · refine v_iconst (v := (0 : Int32)) g d_La_law_1098 (by decide +kernel) ?_
    exact v_ret d_La_law_1099 rfl
theorem d_La_law_1100 : decode code 1100 = .ok (.aload_n 1, 1) := by decide +kernel
theorem d_La_law_1101 : decode code 1101 = .ok (.aload_n 0, 1) := by decide +kernel
theorem d_La_law_1102 : decode code 1102 = .ok (.iload_n 3, 1) := by decide +kernel
theorem d_La_law_1103 : decode code 1103 = .ok (.iconst 1, 1) := by decide +kernel
theorem d_La_law_1104 : decode code 1104 = .ok (.iadd, 1) := by decide +kernel
theorem d_La_law_1105 : decode code 1105 = .ok (.iaload, 1) := by decide +kernel
theorem d_La_law_1106 : decode code 1106 = .ok (.aload_n 0, 1) := by decide +kernel
theorem d_La_law_1107 : decode code 1107 = .ok (.iload_n 3, 1) := by decide +kernel
theorem d_La_law_1108 : decode code 1108 = .ok (.iconst 2, 1) := by decide +kernel
theorem d_La_law_1109 : decode code 1109 = .ok (.iadd, 1) := by decide +kernel
theorem d_La_law_1110 : decode code 1110 = .ok (.iaload, 1) := by decide +kernel
theorem d_La_law_1111 : decode code 1111 = .ok (.aload_n 0, 1) := by decide +kernel
theorem d_La_law_1112 : decode code 1112 = .ok (.iload_n 3, 1) := by decide +kernel
theorem d_La_law_1113 : decode code 1113 = .ok (.iconst 3, 1) := by decide +kernel
theorem d_La_law_1114 : decode code 1114 = .ok (.iadd, 1) := by decide +kernel
theorem d_La_law_1115 : decode code 1115 = .ok (.iaload, 1) := by decide +kernel
theorem d_La_law_1116 : decode code 1116 = .ok (.i2l, 1) := by decide +kernel
theorem d_La_law_1117 : decode code 1117 = .ok (.bipush 32, 2) := by decide +kernel
theorem d_La_law_1119 : decode code 1119 = .ok (.lshl, 1) := by decide +kernel
theorem d_La_law_1120 : decode code 1120 = .ok (.aload_n 0, 1) := by decide +kernel
theorem d_La_law_1121 : decode code 1121 = .ok (.iload_n 3, 1) := by decide +kernel
theorem d_La_law_1122 : decode code 1122 = .ok (.iconst 4, 1) := by decide +kernel
theorem d_La_law_1123 : decode code 1123 = .ok (.iadd, 1) := by decide +kernel
theorem d_La_law_1124 : decode code 1124 = .ok (.iaload, 1) := by decide +kernel
theorem d_La_law_1125 : decode code 1125 = .ok (.i2l, 1) := by decide +kernel
theorem d_La_law_1126 : decode code 1126 = .ok (.ldc2_w 35, 3) := by decide +kernel
theorem d_La_law_1129 : decode code 1129 = .ok (.land, 1) := by decide +kernel
theorem d_La_law_1130 : decode code 1130 = .ok (.lor, 1) := by decide +kernel
theorem d_La_law_1131 : decode code 1131 = .ok (.invokevirtual 84, 3) := by decide +kernel
theorem d_La_law_1134 : decode code 1134 = .ok (.aload_n 2, 1) := by decide +kernel
theorem d_La_law_1135 : decode code 1135 = .ok (.aload_n 0, 1) := by decide +kernel
theorem d_La_law_1136 : decode code 1136 = .ok (.iload_n 3, 1) := by decide +kernel
theorem d_La_law_1137 : decode code 1137 = .ok (.iconst 1, 1) := by decide +kernel
theorem d_La_law_1138 : decode code 1138 = .ok (.iadd, 1) := by decide +kernel
theorem d_La_law_1139 : decode code 1139 = .ok (.iaload, 1) := by decide +kernel
theorem d_La_law_1140 : decode code 1140 = .ok (.aload_n 0, 1) := by decide +kernel
theorem d_La_law_1141 : decode code 1141 = .ok (.iload_n 3, 1) := by decide +kernel
theorem d_La_law_1142 : decode code 1142 = .ok (.iconst 2, 1) := by decide +kernel
theorem d_La_law_1143 : decode code 1143 = .ok (.iadd, 1) := by decide +kernel
theorem d_La_law_1144 : decode code 1144 = .ok (.iaload, 1) := by decide +kernel
theorem d_La_law_1145 : decode code 1145 = .ok (.aload_n 0, 1) := by decide +kernel
theorem d_La_law_1146 : decode code 1146 = .ok (.iload_n 3, 1) := by decide +kernel
theorem d_La_law_1147 : decode code 1147 = .ok (.iconst 3, 1) := by decide +kernel
theorem d_La_law_1148 : decode code 1148 = .ok (.iadd, 1) := by decide +kernel
theorem d_La_law_1149 : decode code 1149 = .ok (.iaload, 1) := by decide +kernel
theorem d_La_law_1150 : decode code 1150 = .ok (.i2l, 1) := by decide +kernel
theorem d_La_law_1151 : decode code 1151 = .ok (.bipush 32, 2) := by decide +kernel
theorem d_La_law_1153 : decode code 1153 = .ok (.lshl, 1) := by decide +kernel
theorem d_La_law_1154 : decode code 1154 = .ok (.aload_n 0, 1) := by decide +kernel
theorem d_La_law_1155 : decode code 1155 = .ok (.iload_n 3, 1) := by decide +kernel
theorem d_La_law_1156 : decode code 1156 = .ok (.iconst 4, 1) := by decide +kernel
theorem d_La_law_1157 : decode code 1157 = .ok (.iadd, 1) := by decide +kernel
theorem d_La_law_1158 : decode code 1158 = .ok (.iaload, 1) := by decide +kernel
theorem d_La_law_1159 : decode code 1159 = .ok (.i2l, 1) := by decide +kernel
theorem d_La_law_1160 : decode code 1160 = .ok (.ldc2_w 35, 3) := by decide +kernel
theorem d_La_law_1163 : decode code 1163 = .ok (.land, 1) := by decide +kernel
theorem d_La_law_1164 : decode code 1164 = .ok (.lor, 1) := by decide +kernel
theorem d_La_law_1165 : decode code 1165 = .ok (.invokevirtual 87, 3) := by decide +kernel
theorem d_La_law_1168 : decode code 1168 = .ok (.lcmp, 1) := by decide +kernel
theorem d_La_law_1169 : decode code 1169 = .ok (.ifCond .eq 1517, 3) := by decide +kernel
theorem d_La_law_1172 : decode code 1172 = .ok (.iconst 0, 1) := by decide +kernel
theorem d_La_law_1173 : decode code 1173 = .ok (.ireturn, 1) := by decide +kernel
def B_La_law_1100 (L : Nat) (xs : Nat → Int32) (k18 : Int32 → Sto → Option (Bool × Sto)) (v3 : Int32) (σ : Sto) : Option (Bool × Sto) :=
  (if inb (v3 + (1 : Int32)) L = true then (if inb (v3 + (2 : Int32)) L = true then (if inb (v3 + (3 : Int32)) L = true then (if inb (v3 + (4 : Int32)) L = true then ((f_FR_greatest (xs (Int32.toNatClampNeg (v3 + (1 : Int32)))) (xs (Int32.toNatClampNeg (v3 + (2 : Int32)))) ((lsh (Int32.toInt64 (xs (Int32.toNatClampNeg (v3 + (3 : Int32))))) (32 : Int32)) ||| ((Int32.toInt64 (xs (Int32.toNatClampNeg (v3 + (4 : Int32))))) &&& (4294967295 : Int64))) σ).bind fun q31 => (if inb (v3 + (1 : Int32)) L = true then (if inb (v3 + (2 : Int32)) L = true then (if inb (v3 + (3 : Int32)) L = true then (if inb (v3 + (4 : Int32)) L = true then ((f_Mo_greatest (xs (Int32.toNatClampNeg (v3 + (1 : Int32)))) (xs (Int32.toNatClampNeg (v3 + (2 : Int32)))) ((lsh (Int32.toInt64 (xs (Int32.toNatClampNeg (v3 + (3 : Int32))))) (32 : Int32)) ||| ((Int32.toInt64 (xs (Int32.toNatClampNeg (v3 + (4 : Int32))))) &&& (4294967295 : Int64))) q31.2).bind fun q32 => (if q31.1 = q32.1 then B_La_law_2686 L xs k18 v3 q32.2
 else some (false, q32.2))) else none) else none) else none) else none)) else none) else none) else none) else none)
set_option maxHeartbeats 4000000 in
set_option maxRecDepth 100000 in
theorem vB_La_law_1100 {X : Xt} {E : En} {L : Nat} {xs : Nat → Int32} (hX : SX X E L xs) (g : GG X E 200 code R_La 4) {k18 : Int32 → Sto → Option (Bool × Sto)} (hk18 : ∀ (v3 : Int32) (σ : Sto), VV X E code 4 eB 18 [(0, .ref (E.2.1 999)), (1, .ref (E.2.1 0)), (2, .ref (E.2.1 48)), (3, .int v3)] [] σ (k18 v3 σ)) (v3 : Int32) (σ : Sto) : VV X E code 4 eB 1100 [(0, .ref (E.2.1 999)), (1, .ref (E.2.1 0)), (2, .ref (E.2.1 48)), (3, .int v3)] [] σ (B_La_law_1100 L xs k18 v3 σ) := by
  unfold B_La_law_1100
  refine v_aload_n 1 g d_La_law_1100 rfl ?_
  refine v_aload_n 0 g d_La_law_1101 rfl ?_
  refine v_iload_n 3 g d_La_law_1102 rfl ?_
  refine v_iconst (v := (1 : Int32)) g d_La_law_1103 (by decide +kernel) ?_
  refine v_iadd g d_La_law_1104 ?_
  refine v_sld hX g d_La_law_1105 (fun _ => ?_)
  refine v_aload_n 0 g d_La_law_1106 rfl ?_
  refine v_iload_n 3 g d_La_law_1107 rfl ?_
  refine v_iconst (v := (2 : Int32)) g d_La_law_1108 (by decide +kernel) ?_
  refine v_iadd g d_La_law_1109 ?_
  refine v_sld hX g d_La_law_1110 (fun _ => ?_)
  refine v_aload_n 0 g d_La_law_1111 rfl ?_
  refine v_iload_n 3 g d_La_law_1112 rfl ?_
  refine v_iconst (v := (3 : Int32)) g d_La_law_1113 (by decide +kernel) ?_
  refine v_iadd g d_La_law_1114 ?_
  refine v_sld hX g d_La_law_1115 (fun _ => ?_)
  refine v_i2l g d_La_law_1116 ?_
  refine v_bipush (v := (32 : Int32)) g d_La_law_1117 (by decide +kernel) ?_
  refine v_lshl g d_La_law_1119 ?_
  refine v_aload_n 0 g d_La_law_1120 rfl ?_
  refine v_iload_n 3 g d_La_law_1121 rfl ?_
  refine v_iconst (v := (4 : Int32)) g d_La_law_1122 (by decide +kernel) ?_
  refine v_iadd g d_La_law_1123 ?_
  refine v_sld hX g d_La_law_1124 (fun _ => ?_)
  refine v_i2l g d_La_law_1125 ?_
  refine v_ldc2 (v := (4294967295 : Int64)) g (m1 1567 (by decide +kernel) (by decide +kernel)) d_La_law_1126 ?_
  refine v_land g d_La_law_1129 ?_
  refine v_lor g d_La_law_1130 ?_
  refine v_callL (r_V (rest := []) [.int (xs (Int32.toNatClampNeg (v3 + (1 : Int32)))), .int (xs (Int32.toNatClampNeg (v3 + (2 : Int32)))), .long ((lsh (Int32.toInt64 (xs (Int32.toNatClampNeg (v3 + (3 : Int32))))) (32 : Int32)) ||| ((Int32.toInt64 (xs (Int32.toNatClampNeg (v3 + (4 : Int32))))) &&& (4294967295 : Int64)))] g (m1 580 (by decide +kernel) (by decide +kernel)) yv_FR_greatest rfl (fun r σ1 h => sp_FR_greatest g.2.2.1  h) rfl rfl (by decide) (Nat.le_of_ble_eq_true rfl) d_La_law_1131) (fun q31 => ?_)
  refine v_aload_n 2 g d_La_law_1134 rfl ?_
  refine v_aload_n 0 g d_La_law_1135 rfl ?_
  refine v_iload_n 3 g d_La_law_1136 rfl ?_
  refine v_iconst (v := (1 : Int32)) g d_La_law_1137 (by decide +kernel) ?_
  refine v_iadd g d_La_law_1138 ?_
  refine v_sld hX g d_La_law_1139 (fun _ => ?_)
  refine v_aload_n 0 g d_La_law_1140 rfl ?_
  refine v_iload_n 3 g d_La_law_1141 rfl ?_
  refine v_iconst (v := (2 : Int32)) g d_La_law_1142 (by decide +kernel) ?_
  refine v_iadd g d_La_law_1143 ?_
  refine v_sld hX g d_La_law_1144 (fun _ => ?_)
  refine v_aload_n 0 g d_La_law_1145 rfl ?_
  refine v_iload_n 3 g d_La_law_1146 rfl ?_
  refine v_iconst (v := (3 : Int32)) g d_La_law_1147 (by decide +kernel) ?_
  refine v_iadd g d_La_law_1148 ?_
  refine v_sld hX g d_La_law_1149 (fun _ => ?_)
  refine v_i2l g d_La_law_1150 ?_
  refine v_bipush (v := (32 : Int32)) g d_La_law_1151 (by decide +kernel) ?_
  refine v_lshl g d_La_law_1153 ?_
  refine v_aload_n 0 g d_La_law_1154 rfl ?_
  refine v_iload_n 3 g d_La_law_1155 rfl ?_
  refine v_iconst (v := (4 : Int32)) g d_La_law_1156 (by decide +kernel) ?_
  refine v_iadd g d_La_law_1157 ?_
  refine v_sld hX g d_La_law_1158 (fun _ => ?_)
  refine v_i2l g d_La_law_1159 ?_
  refine v_ldc2 (v := (4294967295 : Int64)) g (m1 1567 (by decide +kernel) (by decide +kernel)) d_La_law_1160 ?_
  refine v_land g d_La_law_1163 ?_
  refine v_lor g d_La_law_1164 ?_
  refine v_callL (r_V (rest := [.long q31.1]) [.int (xs (Int32.toNatClampNeg (v3 + (1 : Int32)))), .int (xs (Int32.toNatClampNeg (v3 + (2 : Int32)))), .long ((lsh (Int32.toInt64 (xs (Int32.toNatClampNeg (v3 + (3 : Int32))))) (32 : Int32)) ||| ((Int32.toInt64 (xs (Int32.toNatClampNeg (v3 + (4 : Int32))))) &&& (4294967295 : Int64)))] g (m1 1323 (by decide +kernel) (by decide +kernel)) yv_Mo_greatest rfl (fun r σ1 h => sp_Mo_greatest g.2.2.1  h) rfl rfl (by decide) (Nat.le_of_ble_eq_true rfl) d_La_law_1165) (fun q32 => ?_)
  refine v_lcmp_eq 2686 g d_La_law_1168 d_La_law_1169 (by decide) (fun _ => ?_) (fun _ => ?_)
  · exact v_sub [0,1,2,3] rfl (vB_La_law_2686 hX g hk18 v3 q32.2)
  · refine v_iconst (v := (0 : Int32)) g d_La_law_1172 (by decide +kernel) ?_
    exact v_ret d_La_law_1173 rfl
theorem d_La_law_1174 : decode code 1174 = .ok (.aload_n 1, 1) := by decide +kernel
theorem d_La_law_1175 : decode code 1175 = .ok (.aload_n 0, 1) := by decide +kernel
theorem d_La_law_1176 : decode code 1176 = .ok (.iload_n 3, 1) := by decide +kernel
theorem d_La_law_1177 : decode code 1177 = .ok (.iconst 1, 1) := by decide +kernel
theorem d_La_law_1178 : decode code 1178 = .ok (.iadd, 1) := by decide +kernel
theorem d_La_law_1179 : decode code 1179 = .ok (.iaload, 1) := by decide +kernel
theorem d_La_law_1180 : decode code 1180 = .ok (.aload_n 0, 1) := by decide +kernel
theorem d_La_law_1181 : decode code 1181 = .ok (.iload_n 3, 1) := by decide +kernel
theorem d_La_law_1182 : decode code 1182 = .ok (.iconst 2, 1) := by decide +kernel
theorem d_La_law_1183 : decode code 1183 = .ok (.iadd, 1) := by decide +kernel
theorem d_La_law_1184 : decode code 1184 = .ok (.iaload, 1) := by decide +kernel
theorem d_La_law_1185 : decode code 1185 = .ok (.i2l, 1) := by decide +kernel
theorem d_La_law_1186 : decode code 1186 = .ok (.bipush 32, 2) := by decide +kernel
theorem d_La_law_1188 : decode code 1188 = .ok (.lshl, 1) := by decide +kernel
theorem d_La_law_1189 : decode code 1189 = .ok (.aload_n 0, 1) := by decide +kernel
theorem d_La_law_1190 : decode code 1190 = .ok (.iload_n 3, 1) := by decide +kernel
theorem d_La_law_1191 : decode code 1191 = .ok (.iconst 3, 1) := by decide +kernel
theorem d_La_law_1192 : decode code 1192 = .ok (.iadd, 1) := by decide +kernel
theorem d_La_law_1193 : decode code 1193 = .ok (.iaload, 1) := by decide +kernel
theorem d_La_law_1194 : decode code 1194 = .ok (.i2l, 1) := by decide +kernel
theorem d_La_law_1195 : decode code 1195 = .ok (.ldc2_w 35, 3) := by decide +kernel
theorem d_La_law_1198 : decode code 1198 = .ok (.land, 1) := by decide +kernel
theorem d_La_law_1199 : decode code 1199 = .ok (.lor, 1) := by decide +kernel
theorem d_La_law_1200 : decode code 1200 = .ok (.aload_n 0, 1) := by decide +kernel
theorem d_La_law_1201 : decode code 1201 = .ok (.iload_n 3, 1) := by decide +kernel
theorem d_La_law_1202 : decode code 1202 = .ok (.iconst 4, 1) := by decide +kernel
theorem d_La_law_1203 : decode code 1203 = .ok (.iadd, 1) := by decide +kernel
theorem d_La_law_1204 : decode code 1204 = .ok (.iaload, 1) := by decide +kernel
theorem d_La_law_1205 : decode code 1205 = .ok (.invokevirtual 88, 3) := by decide +kernel
theorem d_La_law_1208 : decode code 1208 = .ok (.aload_n 2, 1) := by decide +kernel
theorem d_La_law_1209 : decode code 1209 = .ok (.aload_n 0, 1) := by decide +kernel
theorem d_La_law_1210 : decode code 1210 = .ok (.iload_n 3, 1) := by decide +kernel
theorem d_La_law_1211 : decode code 1211 = .ok (.iconst 1, 1) := by decide +kernel
theorem d_La_law_1212 : decode code 1212 = .ok (.iadd, 1) := by decide +kernel
theorem d_La_law_1213 : decode code 1213 = .ok (.iaload, 1) := by decide +kernel
theorem d_La_law_1214 : decode code 1214 = .ok (.aload_n 0, 1) := by decide +kernel
theorem d_La_law_1215 : decode code 1215 = .ok (.iload_n 3, 1) := by decide +kernel
theorem d_La_law_1216 : decode code 1216 = .ok (.iconst 2, 1) := by decide +kernel
theorem d_La_law_1217 : decode code 1217 = .ok (.iadd, 1) := by decide +kernel
theorem d_La_law_1218 : decode code 1218 = .ok (.iaload, 1) := by decide +kernel
theorem d_La_law_1219 : decode code 1219 = .ok (.i2l, 1) := by decide +kernel
theorem d_La_law_1220 : decode code 1220 = .ok (.bipush 32, 2) := by decide +kernel
theorem d_La_law_1222 : decode code 1222 = .ok (.lshl, 1) := by decide +kernel
theorem d_La_law_1223 : decode code 1223 = .ok (.aload_n 0, 1) := by decide +kernel
theorem d_La_law_1224 : decode code 1224 = .ok (.iload_n 3, 1) := by decide +kernel
theorem d_La_law_1225 : decode code 1225 = .ok (.iconst 3, 1) := by decide +kernel
theorem d_La_law_1226 : decode code 1226 = .ok (.iadd, 1) := by decide +kernel
theorem d_La_law_1227 : decode code 1227 = .ok (.iaload, 1) := by decide +kernel
theorem d_La_law_1228 : decode code 1228 = .ok (.i2l, 1) := by decide +kernel
theorem d_La_law_1229 : decode code 1229 = .ok (.ldc2_w 35, 3) := by decide +kernel
theorem d_La_law_1232 : decode code 1232 = .ok (.land, 1) := by decide +kernel
theorem d_La_law_1233 : decode code 1233 = .ok (.lor, 1) := by decide +kernel
theorem d_La_law_1234 : decode code 1234 = .ok (.aload_n 0, 1) := by decide +kernel
theorem d_La_law_1235 : decode code 1235 = .ok (.iload_n 3, 1) := by decide +kernel
theorem d_La_law_1236 : decode code 1236 = .ok (.iconst 4, 1) := by decide +kernel
theorem d_La_law_1237 : decode code 1237 = .ok (.iadd, 1) := by decide +kernel
theorem d_La_law_1238 : decode code 1238 = .ok (.iaload, 1) := by decide +kernel
theorem d_La_law_1239 : decode code 1239 = .ok (.invokevirtual 91, 3) := by decide +kernel
theorem d_La_law_1242 : decode code 1242 = .ok (.lcmp, 1) := by decide +kernel
theorem d_La_law_1243 : decode code 1243 = .ok (.ifCond .eq 1443, 3) := by decide +kernel
theorem d_La_law_1246 : decode code 1246 = .ok (.iconst 0, 1) := by decide +kernel
theorem d_La_law_1247 : decode code 1247 = .ok (.ireturn, 1) := by decide +kernel
def B_La_law_1174 (L : Nat) (xs : Nat → Int32) (k18 : Int32 → Sto → Option (Bool × Sto)) (v3 : Int32) (σ : Sto) : Option (Bool × Sto) :=
  (if inb (v3 + (1 : Int32)) L = true then (if inb (v3 + (2 : Int32)) L = true then (if inb (v3 + (3 : Int32)) L = true then (if inb (v3 + (4 : Int32)) L = true then ((f_FR_grown (xs (Int32.toNatClampNeg (v3 + (1 : Int32)))) ((lsh (Int32.toInt64 (xs (Int32.toNatClampNeg (v3 + (2 : Int32))))) (32 : Int32)) ||| ((Int32.toInt64 (xs (Int32.toNatClampNeg (v3 + (3 : Int32))))) &&& (4294967295 : Int64))) (xs (Int32.toNatClampNeg (v3 + (4 : Int32)))) σ).bind fun q33 => (if inb (v3 + (1 : Int32)) L = true then (if inb (v3 + (2 : Int32)) L = true then (if inb (v3 + (3 : Int32)) L = true then (if inb (v3 + (4 : Int32)) L = true then ((f_Mo_grown (xs (Int32.toNatClampNeg (v3 + (1 : Int32)))) ((lsh (Int32.toInt64 (xs (Int32.toNatClampNeg (v3 + (2 : Int32))))) (32 : Int32)) ||| ((Int32.toInt64 (xs (Int32.toNatClampNeg (v3 + (3 : Int32))))) &&& (4294967295 : Int64))) (xs (Int32.toNatClampNeg (v3 + (4 : Int32)))) q33.2).bind fun q34 => (if q33.1 = q34.1 then B_La_law_2686 L xs k18 v3 q34.2
 else some (false, q34.2))) else none) else none) else none) else none)) else none) else none) else none) else none)
set_option maxHeartbeats 4000000 in
set_option maxRecDepth 100000 in
theorem vB_La_law_1174 {X : Xt} {E : En} {L : Nat} {xs : Nat → Int32} (hX : SX X E L xs) (g : GG X E 200 code R_La 4) {k18 : Int32 → Sto → Option (Bool × Sto)} (hk18 : ∀ (v3 : Int32) (σ : Sto), VV X E code 4 eB 18 [(0, .ref (E.2.1 999)), (1, .ref (E.2.1 0)), (2, .ref (E.2.1 48)), (3, .int v3)] [] σ (k18 v3 σ)) (v3 : Int32) (σ : Sto) : VV X E code 4 eB 1174 [(0, .ref (E.2.1 999)), (1, .ref (E.2.1 0)), (2, .ref (E.2.1 48)), (3, .int v3)] [] σ (B_La_law_1174 L xs k18 v3 σ) := by
  unfold B_La_law_1174
  refine v_aload_n 1 g d_La_law_1174 rfl ?_
  refine v_aload_n 0 g d_La_law_1175 rfl ?_
  refine v_iload_n 3 g d_La_law_1176 rfl ?_
  refine v_iconst (v := (1 : Int32)) g d_La_law_1177 (by decide +kernel) ?_
  refine v_iadd g d_La_law_1178 ?_
  refine v_sld hX g d_La_law_1179 (fun _ => ?_)
  refine v_aload_n 0 g d_La_law_1180 rfl ?_
  refine v_iload_n 3 g d_La_law_1181 rfl ?_
  refine v_iconst (v := (2 : Int32)) g d_La_law_1182 (by decide +kernel) ?_
  refine v_iadd g d_La_law_1183 ?_
  refine v_sld hX g d_La_law_1184 (fun _ => ?_)
  refine v_i2l g d_La_law_1185 ?_
  refine v_bipush (v := (32 : Int32)) g d_La_law_1186 (by decide +kernel) ?_
  refine v_lshl g d_La_law_1188 ?_
  refine v_aload_n 0 g d_La_law_1189 rfl ?_
  refine v_iload_n 3 g d_La_law_1190 rfl ?_
  refine v_iconst (v := (3 : Int32)) g d_La_law_1191 (by decide +kernel) ?_
  refine v_iadd g d_La_law_1192 ?_
  refine v_sld hX g d_La_law_1193 (fun _ => ?_)
  refine v_i2l g d_La_law_1194 ?_
  refine v_ldc2 (v := (4294967295 : Int64)) g (m1 1567 (by decide +kernel) (by decide +kernel)) d_La_law_1195 ?_
  refine v_land g d_La_law_1198 ?_
  refine v_lor g d_La_law_1199 ?_
  refine v_aload_n 0 g d_La_law_1200 rfl ?_
  refine v_iload_n 3 g d_La_law_1201 rfl ?_
  refine v_iconst (v := (4 : Int32)) g d_La_law_1202 (by decide +kernel) ?_
  refine v_iadd g d_La_law_1203 ?_
  refine v_sld hX g d_La_law_1204 (fun _ => ?_)
  refine v_callL (r_V (rest := []) [.int (xs (Int32.toNatClampNeg (v3 + (1 : Int32)))), .long ((lsh (Int32.toInt64 (xs (Int32.toNatClampNeg (v3 + (2 : Int32))))) (32 : Int32)) ||| ((Int32.toInt64 (xs (Int32.toNatClampNeg (v3 + (3 : Int32))))) &&& (4294967295 : Int64))), .int (xs (Int32.toNatClampNeg (v3 + (4 : Int32))))] g (m1 614 (by decide +kernel) (by decide +kernel)) yv_FR_grown rfl (fun r σ1 h => sp_FR_grown g.2.2.1  h) rfl rfl (by decide) (Nat.le_of_ble_eq_true rfl) d_La_law_1205) (fun q33 => ?_)
  refine v_aload_n 2 g d_La_law_1208 rfl ?_
  refine v_aload_n 0 g d_La_law_1209 rfl ?_
  refine v_iload_n 3 g d_La_law_1210 rfl ?_
  refine v_iconst (v := (1 : Int32)) g d_La_law_1211 (by decide +kernel) ?_
  refine v_iadd g d_La_law_1212 ?_
  refine v_sld hX g d_La_law_1213 (fun _ => ?_)
  refine v_aload_n 0 g d_La_law_1214 rfl ?_
  refine v_iload_n 3 g d_La_law_1215 rfl ?_
  refine v_iconst (v := (2 : Int32)) g d_La_law_1216 (by decide +kernel) ?_
  refine v_iadd g d_La_law_1217 ?_
  refine v_sld hX g d_La_law_1218 (fun _ => ?_)
  refine v_i2l g d_La_law_1219 ?_
  refine v_bipush (v := (32 : Int32)) g d_La_law_1220 (by decide +kernel) ?_
  refine v_lshl g d_La_law_1222 ?_
  refine v_aload_n 0 g d_La_law_1223 rfl ?_
  refine v_iload_n 3 g d_La_law_1224 rfl ?_
  refine v_iconst (v := (3 : Int32)) g d_La_law_1225 (by decide +kernel) ?_
  refine v_iadd g d_La_law_1226 ?_
  refine v_sld hX g d_La_law_1227 (fun _ => ?_)
  refine v_i2l g d_La_law_1228 ?_
  refine v_ldc2 (v := (4294967295 : Int64)) g (m1 1567 (by decide +kernel) (by decide +kernel)) d_La_law_1229 ?_
  refine v_land g d_La_law_1232 ?_
  refine v_lor g d_La_law_1233 ?_
  refine v_aload_n 0 g d_La_law_1234 rfl ?_
  refine v_iload_n 3 g d_La_law_1235 rfl ?_
  refine v_iconst (v := (4 : Int32)) g d_La_law_1236 (by decide +kernel) ?_
  refine v_iadd g d_La_law_1237 ?_
  refine v_sld hX g d_La_law_1238 (fun _ => ?_)
  refine v_callL (r_V (rest := [.long q33.1]) [.int (xs (Int32.toNatClampNeg (v3 + (1 : Int32)))), .long ((lsh (Int32.toInt64 (xs (Int32.toNatClampNeg (v3 + (2 : Int32))))) (32 : Int32)) ||| ((Int32.toInt64 (xs (Int32.toNatClampNeg (v3 + (3 : Int32))))) &&& (4294967295 : Int64))), .int (xs (Int32.toNatClampNeg (v3 + (4 : Int32))))] g (m1 1347 (by decide +kernel) (by decide +kernel)) yv_Mo_grown rfl (fun r σ1 h => sp_Mo_grown g.2.2.1  h) rfl rfl (by decide) (Nat.le_of_ble_eq_true rfl) d_La_law_1239) (fun q34 => ?_)
  refine v_lcmp_eq 2686 g d_La_law_1242 d_La_law_1243 (by decide) (fun _ => ?_) (fun _ => ?_)
  · exact v_sub [0,1,2,3] rfl (vB_La_law_2686 hX g hk18 v3 q34.2)
  · refine v_iconst (v := (0 : Int32)) g d_La_law_1246 (by decide +kernel) ?_
    exact v_ret d_La_law_1247 rfl
theorem d_La_law_1248 : decode code 1248 = .ok (.aload_n 1, 1) := by decide +kernel
theorem d_La_law_1249 : decode code 1249 = .ok (.aload_n 0, 1) := by decide +kernel
theorem d_La_law_1250 : decode code 1250 = .ok (.iload_n 3, 1) := by decide +kernel
theorem d_La_law_1251 : decode code 1251 = .ok (.iconst 1, 1) := by decide +kernel
theorem d_La_law_1252 : decode code 1252 = .ok (.iadd, 1) := by decide +kernel
theorem d_La_law_1253 : decode code 1253 = .ok (.iaload, 1) := by decide +kernel
theorem d_La_law_1254 : decode code 1254 = .ok (.aload_n 0, 1) := by decide +kernel
theorem d_La_law_1255 : decode code 1255 = .ok (.iload_n 3, 1) := by decide +kernel
theorem d_La_law_1256 : decode code 1256 = .ok (.iconst 2, 1) := by decide +kernel
theorem d_La_law_1257 : decode code 1257 = .ok (.iadd, 1) := by decide +kernel
theorem d_La_law_1258 : decode code 1258 = .ok (.iaload, 1) := by decide +kernel
theorem d_La_law_1259 : decode code 1259 = .ok (.aload_n 0, 1) := by decide +kernel
theorem d_La_law_1260 : decode code 1260 = .ok (.iload_n 3, 1) := by decide +kernel
theorem d_La_law_1261 : decode code 1261 = .ok (.iconst 3, 1) := by decide +kernel
theorem d_La_law_1262 : decode code 1262 = .ok (.iadd, 1) := by decide +kernel
theorem d_La_law_1263 : decode code 1263 = .ok (.iaload, 1) := by decide +kernel
theorem d_La_law_1264 : decode code 1264 = .ok (.i2l, 1) := by decide +kernel
theorem d_La_law_1265 : decode code 1265 = .ok (.bipush 32, 2) := by decide +kernel
theorem d_La_law_1267 : decode code 1267 = .ok (.lshl, 1) := by decide +kernel
theorem d_La_law_1268 : decode code 1268 = .ok (.aload_n 0, 1) := by decide +kernel
theorem d_La_law_1269 : decode code 1269 = .ok (.iload_n 3, 1) := by decide +kernel
theorem d_La_law_1270 : decode code 1270 = .ok (.iconst 4, 1) := by decide +kernel
theorem d_La_law_1271 : decode code 1271 = .ok (.iadd, 1) := by decide +kernel
theorem d_La_law_1272 : decode code 1272 = .ok (.iaload, 1) := by decide +kernel
theorem d_La_law_1273 : decode code 1273 = .ok (.i2l, 1) := by decide +kernel
theorem d_La_law_1274 : decode code 1274 = .ok (.ldc2_w 35, 3) := by decide +kernel
theorem d_La_law_1277 : decode code 1277 = .ok (.land, 1) := by decide +kernel
theorem d_La_law_1278 : decode code 1278 = .ok (.lor, 1) := by decide +kernel
theorem d_La_law_1279 : decode code 1279 = .ok (.aload_n 0, 1) := by decide +kernel
theorem d_La_law_1280 : decode code 1280 = .ok (.iload_n 3, 1) := by decide +kernel
theorem d_La_law_1281 : decode code 1281 = .ok (.iconst 5, 1) := by decide +kernel
theorem d_La_law_1282 : decode code 1282 = .ok (.iadd, 1) := by decide +kernel
theorem d_La_law_1283 : decode code 1283 = .ok (.iaload, 1) := by decide +kernel
theorem d_La_law_1284 : decode code 1284 = .ok (.invokevirtual 92, 3) := by decide +kernel
theorem d_La_law_1287 : decode code 1287 = .ok (.aload_n 2, 1) := by decide +kernel
theorem d_La_law_1288 : decode code 1288 = .ok (.aload_n 0, 1) := by decide +kernel
theorem d_La_law_1289 : decode code 1289 = .ok (.iload_n 3, 1) := by decide +kernel
theorem d_La_law_1290 : decode code 1290 = .ok (.iconst 1, 1) := by decide +kernel
theorem d_La_law_1291 : decode code 1291 = .ok (.iadd, 1) := by decide +kernel
theorem d_La_law_1292 : decode code 1292 = .ok (.iaload, 1) := by decide +kernel
theorem d_La_law_1293 : decode code 1293 = .ok (.aload_n 0, 1) := by decide +kernel
theorem d_La_law_1294 : decode code 1294 = .ok (.iload_n 3, 1) := by decide +kernel
theorem d_La_law_1295 : decode code 1295 = .ok (.iconst 2, 1) := by decide +kernel
theorem d_La_law_1296 : decode code 1296 = .ok (.iadd, 1) := by decide +kernel
theorem d_La_law_1297 : decode code 1297 = .ok (.iaload, 1) := by decide +kernel
theorem d_La_law_1298 : decode code 1298 = .ok (.aload_n 0, 1) := by decide +kernel
theorem d_La_law_1299 : decode code 1299 = .ok (.iload_n 3, 1) := by decide +kernel
theorem d_La_law_1300 : decode code 1300 = .ok (.iconst 3, 1) := by decide +kernel
theorem d_La_law_1301 : decode code 1301 = .ok (.iadd, 1) := by decide +kernel
theorem d_La_law_1302 : decode code 1302 = .ok (.iaload, 1) := by decide +kernel
theorem d_La_law_1303 : decode code 1303 = .ok (.i2l, 1) := by decide +kernel
theorem d_La_law_1304 : decode code 1304 = .ok (.bipush 32, 2) := by decide +kernel
theorem d_La_law_1306 : decode code 1306 = .ok (.lshl, 1) := by decide +kernel
theorem d_La_law_1307 : decode code 1307 = .ok (.aload_n 0, 1) := by decide +kernel
theorem d_La_law_1308 : decode code 1308 = .ok (.iload_n 3, 1) := by decide +kernel
theorem d_La_law_1309 : decode code 1309 = .ok (.iconst 4, 1) := by decide +kernel
theorem d_La_law_1310 : decode code 1310 = .ok (.iadd, 1) := by decide +kernel
theorem d_La_law_1311 : decode code 1311 = .ok (.iaload, 1) := by decide +kernel
theorem d_La_law_1312 : decode code 1312 = .ok (.i2l, 1) := by decide +kernel
theorem d_La_law_1313 : decode code 1313 = .ok (.ldc2_w 35, 3) := by decide +kernel
theorem d_La_law_1316 : decode code 1316 = .ok (.land, 1) := by decide +kernel
theorem d_La_law_1317 : decode code 1317 = .ok (.lor, 1) := by decide +kernel
theorem d_La_law_1318 : decode code 1318 = .ok (.aload_n 0, 1) := by decide +kernel
theorem d_La_law_1319 : decode code 1319 = .ok (.iload_n 3, 1) := by decide +kernel
theorem d_La_law_1320 : decode code 1320 = .ok (.iconst 5, 1) := by decide +kernel
theorem d_La_law_1321 : decode code 1321 = .ok (.iadd, 1) := by decide +kernel
theorem d_La_law_1322 : decode code 1322 = .ok (.iaload, 1) := by decide +kernel
theorem d_La_law_1323 : decode code 1323 = .ok (.invokevirtual 96, 3) := by decide +kernel
theorem d_La_law_1326 : decode code 1326 = .ok (.lcmp, 1) := by decide +kernel
theorem d_La_law_1327 : decode code 1327 = .ok (.ifCond .eq 1359, 3) := by decide +kernel
theorem d_La_law_1330 : decode code 1330 = .ok (.iconst 0, 1) := by decide +kernel
theorem d_La_law_1331 : decode code 1331 = .ok (.ireturn, 1) := by decide +kernel
def B_La_law_1248 (L : Nat) (xs : Nat → Int32) (k18 : Int32 → Sto → Option (Bool × Sto)) (v3 : Int32) (σ : Sto) : Option (Bool × Sto) :=
  (if inb (v3 + (1 : Int32)) L = true then (if inb (v3 + (2 : Int32)) L = true then (if inb (v3 + (3 : Int32)) L = true then (if inb (v3 + (4 : Int32)) L = true then (if inb (v3 + (5 : Int32)) L = true then ((f_FR_all (xs (Int32.toNatClampNeg (v3 + (1 : Int32)))) (xs (Int32.toNatClampNeg (v3 + (2 : Int32)))) ((lsh (Int32.toInt64 (xs (Int32.toNatClampNeg (v3 + (3 : Int32))))) (32 : Int32)) ||| ((Int32.toInt64 (xs (Int32.toNatClampNeg (v3 + (4 : Int32))))) &&& (4294967295 : Int64))) (xs (Int32.toNatClampNeg (v3 + (5 : Int32)))) σ).bind fun q35 => (if inb (v3 + (1 : Int32)) L = true then (if inb (v3 + (2 : Int32)) L = true then (if inb (v3 + (3 : Int32)) L = true then (if inb (v3 + (4 : Int32)) L = true then (if inb (v3 + (5 : Int32)) L = true then ((f_Mo_all (xs (Int32.toNatClampNeg (v3 + (1 : Int32)))) (xs (Int32.toNatClampNeg (v3 + (2 : Int32)))) ((lsh (Int32.toInt64 (xs (Int32.toNatClampNeg (v3 + (3 : Int32))))) (32 : Int32)) ||| ((Int32.toInt64 (xs (Int32.toNatClampNeg (v3 + (4 : Int32))))) &&& (4294967295 : Int64))) (xs (Int32.toNatClampNeg (v3 + (5 : Int32)))) q35.2).bind fun q36 => (if q35.1 = q36.1 then B_La_law_2686 L xs k18 v3 q36.2
 else some (false, q36.2))) else none) else none) else none) else none) else none)) else none) else none) else none) else none) else none)
set_option maxHeartbeats 4000000 in
set_option maxRecDepth 100000 in
theorem vB_La_law_1248 {X : Xt} {E : En} {L : Nat} {xs : Nat → Int32} (hX : SX X E L xs) (g : GG X E 200 code R_La 4) {k18 : Int32 → Sto → Option (Bool × Sto)} (hk18 : ∀ (v3 : Int32) (σ : Sto), VV X E code 4 eB 18 [(0, .ref (E.2.1 999)), (1, .ref (E.2.1 0)), (2, .ref (E.2.1 48)), (3, .int v3)] [] σ (k18 v3 σ)) (v3 : Int32) (σ : Sto) : VV X E code 4 eB 1248 [(0, .ref (E.2.1 999)), (1, .ref (E.2.1 0)), (2, .ref (E.2.1 48)), (3, .int v3)] [] σ (B_La_law_1248 L xs k18 v3 σ) := by
  unfold B_La_law_1248
  refine v_aload_n 1 g d_La_law_1248 rfl ?_
  refine v_aload_n 0 g d_La_law_1249 rfl ?_
  refine v_iload_n 3 g d_La_law_1250 rfl ?_
  refine v_iconst (v := (1 : Int32)) g d_La_law_1251 (by decide +kernel) ?_
  refine v_iadd g d_La_law_1252 ?_
  refine v_sld hX g d_La_law_1253 (fun _ => ?_)
  refine v_aload_n 0 g d_La_law_1254 rfl ?_
  refine v_iload_n 3 g d_La_law_1255 rfl ?_
  refine v_iconst (v := (2 : Int32)) g d_La_law_1256 (by decide +kernel) ?_
  refine v_iadd g d_La_law_1257 ?_
  refine v_sld hX g d_La_law_1258 (fun _ => ?_)
  refine v_aload_n 0 g d_La_law_1259 rfl ?_
  refine v_iload_n 3 g d_La_law_1260 rfl ?_
  refine v_iconst (v := (3 : Int32)) g d_La_law_1261 (by decide +kernel) ?_
  refine v_iadd g d_La_law_1262 ?_
  refine v_sld hX g d_La_law_1263 (fun _ => ?_)
  refine v_i2l g d_La_law_1264 ?_
  refine v_bipush (v := (32 : Int32)) g d_La_law_1265 (by decide +kernel) ?_
  refine v_lshl g d_La_law_1267 ?_
  refine v_aload_n 0 g d_La_law_1268 rfl ?_
  refine v_iload_n 3 g d_La_law_1269 rfl ?_
  refine v_iconst (v := (4 : Int32)) g d_La_law_1270 (by decide +kernel) ?_
  refine v_iadd g d_La_law_1271 ?_
  refine v_sld hX g d_La_law_1272 (fun _ => ?_)
  refine v_i2l g d_La_law_1273 ?_
  refine v_ldc2 (v := (4294967295 : Int64)) g (m1 1567 (by decide +kernel) (by decide +kernel)) d_La_law_1274 ?_
  refine v_land g d_La_law_1277 ?_
  refine v_lor g d_La_law_1278 ?_
  refine v_aload_n 0 g d_La_law_1279 rfl ?_
  refine v_iload_n 3 g d_La_law_1280 rfl ?_
  refine v_iconst (v := (5 : Int32)) g d_La_law_1281 (by decide +kernel) ?_
  refine v_iadd g d_La_law_1282 ?_
  refine v_sld hX g d_La_law_1283 (fun _ => ?_)
  refine v_callL (r_V (rest := []) [.int (xs (Int32.toNatClampNeg (v3 + (1 : Int32)))), .int (xs (Int32.toNatClampNeg (v3 + (2 : Int32)))), .long ((lsh (Int32.toInt64 (xs (Int32.toNatClampNeg (v3 + (3 : Int32))))) (32 : Int32)) ||| ((Int32.toInt64 (xs (Int32.toNatClampNeg (v3 + (4 : Int32))))) &&& (4294967295 : Int64))), .int (xs (Int32.toNatClampNeg (v3 + (5 : Int32))))] g (m1 618 (by decide +kernel) (by decide +kernel)) yv_FR_all rfl (fun r σ1 h => sp_FR_all g.2.2.1  h) rfl rfl (by decide) (Nat.le_of_ble_eq_true rfl) d_La_law_1284) (fun q35 => ?_)
  refine v_aload_n 2 g d_La_law_1287 rfl ?_
  refine v_aload_n 0 g d_La_law_1288 rfl ?_
  refine v_iload_n 3 g d_La_law_1289 rfl ?_
  refine v_iconst (v := (1 : Int32)) g d_La_law_1290 (by decide +kernel) ?_
  refine v_iadd g d_La_law_1291 ?_
  refine v_sld hX g d_La_law_1292 (fun _ => ?_)
  refine v_aload_n 0 g d_La_law_1293 rfl ?_
  refine v_iload_n 3 g d_La_law_1294 rfl ?_
  refine v_iconst (v := (2 : Int32)) g d_La_law_1295 (by decide +kernel) ?_
  refine v_iadd g d_La_law_1296 ?_
  refine v_sld hX g d_La_law_1297 (fun _ => ?_)
  refine v_aload_n 0 g d_La_law_1298 rfl ?_
  refine v_iload_n 3 g d_La_law_1299 rfl ?_
  refine v_iconst (v := (3 : Int32)) g d_La_law_1300 (by decide +kernel) ?_
  refine v_iadd g d_La_law_1301 ?_
  refine v_sld hX g d_La_law_1302 (fun _ => ?_)
  refine v_i2l g d_La_law_1303 ?_
  refine v_bipush (v := (32 : Int32)) g d_La_law_1304 (by decide +kernel) ?_
  refine v_lshl g d_La_law_1306 ?_
  refine v_aload_n 0 g d_La_law_1307 rfl ?_
  refine v_iload_n 3 g d_La_law_1308 rfl ?_
  refine v_iconst (v := (4 : Int32)) g d_La_law_1309 (by decide +kernel) ?_
  refine v_iadd g d_La_law_1310 ?_
  refine v_sld hX g d_La_law_1311 (fun _ => ?_)
  refine v_i2l g d_La_law_1312 ?_
  refine v_ldc2 (v := (4294967295 : Int64)) g (m1 1567 (by decide +kernel) (by decide +kernel)) d_La_law_1313 ?_
  refine v_land g d_La_law_1316 ?_
  refine v_lor g d_La_law_1317 ?_
  refine v_aload_n 0 g d_La_law_1318 rfl ?_
  refine v_iload_n 3 g d_La_law_1319 rfl ?_
  refine v_iconst (v := (5 : Int32)) g d_La_law_1320 (by decide +kernel) ?_
  refine v_iadd g d_La_law_1321 ?_
  refine v_sld hX g d_La_law_1322 (fun _ => ?_)
  refine v_callL (r_V (rest := [.long q35.1]) [.int (xs (Int32.toNatClampNeg (v3 + (1 : Int32)))), .int (xs (Int32.toNatClampNeg (v3 + (2 : Int32)))), .long ((lsh (Int32.toInt64 (xs (Int32.toNatClampNeg (v3 + (3 : Int32))))) (32 : Int32)) ||| ((Int32.toInt64 (xs (Int32.toNatClampNeg (v3 + (4 : Int32))))) &&& (4294967295 : Int64))), .int (xs (Int32.toNatClampNeg (v3 + (5 : Int32))))] g (m1 1351 (by decide +kernel) (by decide +kernel)) yv_Mo_all rfl (fun r σ1 h => sp_Mo_all g.2.2.1  h) rfl rfl (by decide) (Nat.le_of_ble_eq_true rfl) d_La_law_1323) (fun q36 => ?_)
  refine v_lcmp_eq 2686 g d_La_law_1326 d_La_law_1327 (by decide) (fun _ => ?_) (fun _ => ?_)
  · exact v_sub [0,1,2,3] rfl (vB_La_law_2686 hX g hk18 v3 q36.2)
  · refine v_iconst (v := (0 : Int32)) g d_La_law_1330 (by decide +kernel) ?_
    exact v_ret d_La_law_1331 rfl
theorem d_La_law_1332 : decode code 1332 = .ok (.aload_n 1, 1) := by decide +kernel
theorem d_La_law_1333 : decode code 1333 = .ok (.aload_n 0, 1) := by decide +kernel
theorem d_La_law_1334 : decode code 1334 = .ok (.iload_n 3, 1) := by decide +kernel
theorem d_La_law_1335 : decode code 1335 = .ok (.iconst 1, 1) := by decide +kernel
theorem d_La_law_1336 : decode code 1336 = .ok (.iadd, 1) := by decide +kernel
theorem d_La_law_1337 : decode code 1337 = .ok (.iaload, 1) := by decide +kernel
theorem d_La_law_1338 : decode code 1338 = .ok (.aload_n 0, 1) := by decide +kernel
theorem d_La_law_1339 : decode code 1339 = .ok (.iload_n 3, 1) := by decide +kernel
theorem d_La_law_1340 : decode code 1340 = .ok (.iconst 2, 1) := by decide +kernel
theorem d_La_law_1341 : decode code 1341 = .ok (.iadd, 1) := by decide +kernel
theorem d_La_law_1342 : decode code 1342 = .ok (.iaload, 1) := by decide +kernel
theorem d_La_law_1343 : decode code 1343 = .ok (.aload_n 0, 1) := by decide +kernel
theorem d_La_law_1344 : decode code 1344 = .ok (.iload_n 3, 1) := by decide +kernel
theorem d_La_law_1345 : decode code 1345 = .ok (.iconst 3, 1) := by decide +kernel
theorem d_La_law_1346 : decode code 1346 = .ok (.iadd, 1) := by decide +kernel
theorem d_La_law_1347 : decode code 1347 = .ok (.iaload, 1) := by decide +kernel
theorem d_La_law_1348 : decode code 1348 = .ok (.i2l, 1) := by decide +kernel
theorem d_La_law_1349 : decode code 1349 = .ok (.bipush 32, 2) := by decide +kernel
theorem d_La_law_1351 : decode code 1351 = .ok (.lshl, 1) := by decide +kernel
theorem d_La_law_1352 : decode code 1352 = .ok (.aload_n 0, 1) := by decide +kernel
theorem d_La_law_1353 : decode code 1353 = .ok (.iload_n 3, 1) := by decide +kernel
theorem d_La_law_1354 : decode code 1354 = .ok (.iconst 4, 1) := by decide +kernel
theorem d_La_law_1355 : decode code 1355 = .ok (.iadd, 1) := by decide +kernel
theorem d_La_law_1356 : decode code 1356 = .ok (.iaload, 1) := by decide +kernel
theorem d_La_law_1357 : decode code 1357 = .ok (.i2l, 1) := by decide +kernel
theorem d_La_law_1358 : decode code 1358 = .ok (.ldc2_w 35, 3) := by decide +kernel
theorem d_La_law_1361 : decode code 1361 = .ok (.land, 1) := by decide +kernel
theorem d_La_law_1362 : decode code 1362 = .ok (.lor, 1) := by decide +kernel
theorem d_La_law_1363 : decode code 1363 = .ok (.aload_n 0, 1) := by decide +kernel
theorem d_La_law_1364 : decode code 1364 = .ok (.iload_n 3, 1) := by decide +kernel
theorem d_La_law_1365 : decode code 1365 = .ok (.iconst 5, 1) := by decide +kernel
theorem d_La_law_1366 : decode code 1366 = .ok (.iadd, 1) := by decide +kernel
theorem d_La_law_1367 : decode code 1367 = .ok (.iaload, 1) := by decide +kernel
theorem d_La_law_1368 : decode code 1368 = .ok (.invokevirtual 97, 3) := by decide +kernel
theorem d_La_law_1371 : decode code 1371 = .ok (.aload_n 2, 1) := by decide +kernel
theorem d_La_law_1372 : decode code 1372 = .ok (.aload_n 0, 1) := by decide +kernel
theorem d_La_law_1373 : decode code 1373 = .ok (.iload_n 3, 1) := by decide +kernel
theorem d_La_law_1374 : decode code 1374 = .ok (.iconst 1, 1) := by decide +kernel
theorem d_La_law_1375 : decode code 1375 = .ok (.iadd, 1) := by decide +kernel
theorem d_La_law_1376 : decode code 1376 = .ok (.iaload, 1) := by decide +kernel
theorem d_La_law_1377 : decode code 1377 = .ok (.aload_n 0, 1) := by decide +kernel
theorem d_La_law_1378 : decode code 1378 = .ok (.iload_n 3, 1) := by decide +kernel
theorem d_La_law_1379 : decode code 1379 = .ok (.iconst 2, 1) := by decide +kernel
theorem d_La_law_1380 : decode code 1380 = .ok (.iadd, 1) := by decide +kernel
theorem d_La_law_1381 : decode code 1381 = .ok (.iaload, 1) := by decide +kernel
theorem d_La_law_1382 : decode code 1382 = .ok (.aload_n 0, 1) := by decide +kernel
theorem d_La_law_1383 : decode code 1383 = .ok (.iload_n 3, 1) := by decide +kernel
theorem d_La_law_1384 : decode code 1384 = .ok (.iconst 3, 1) := by decide +kernel
theorem d_La_law_1385 : decode code 1385 = .ok (.iadd, 1) := by decide +kernel
theorem d_La_law_1386 : decode code 1386 = .ok (.iaload, 1) := by decide +kernel
theorem d_La_law_1387 : decode code 1387 = .ok (.i2l, 1) := by decide +kernel
theorem d_La_law_1388 : decode code 1388 = .ok (.bipush 32, 2) := by decide +kernel
theorem d_La_law_1390 : decode code 1390 = .ok (.lshl, 1) := by decide +kernel
theorem d_La_law_1391 : decode code 1391 = .ok (.aload_n 0, 1) := by decide +kernel
theorem d_La_law_1392 : decode code 1392 = .ok (.iload_n 3, 1) := by decide +kernel
theorem d_La_law_1393 : decode code 1393 = .ok (.iconst 4, 1) := by decide +kernel
theorem d_La_law_1394 : decode code 1394 = .ok (.iadd, 1) := by decide +kernel
theorem d_La_law_1395 : decode code 1395 = .ok (.iaload, 1) := by decide +kernel
theorem d_La_law_1396 : decode code 1396 = .ok (.i2l, 1) := by decide +kernel
theorem d_La_law_1397 : decode code 1397 = .ok (.ldc2_w 35, 3) := by decide +kernel
theorem d_La_law_1400 : decode code 1400 = .ok (.land, 1) := by decide +kernel
theorem d_La_law_1401 : decode code 1401 = .ok (.lor, 1) := by decide +kernel
theorem d_La_law_1402 : decode code 1402 = .ok (.aload_n 0, 1) := by decide +kernel
theorem d_La_law_1403 : decode code 1403 = .ok (.iload_n 3, 1) := by decide +kernel
theorem d_La_law_1404 : decode code 1404 = .ok (.iconst 5, 1) := by decide +kernel
theorem d_La_law_1405 : decode code 1405 = .ok (.iadd, 1) := by decide +kernel
theorem d_La_law_1406 : decode code 1406 = .ok (.iaload, 1) := by decide +kernel
theorem d_La_law_1407 : decode code 1407 = .ok (.invokevirtual 101, 3) := by decide +kernel
theorem d_La_law_1410 : decode code 1410 = .ok (.if_icmp .eq 1276, 3) := by decide +kernel
theorem d_La_law_1413 : decode code 1413 = .ok (.iconst 0, 1) := by decide +kernel
theorem d_La_law_1414 : decode code 1414 = .ok (.ireturn, 1) := by decide +kernel
def B_La_law_1332 (L : Nat) (xs : Nat → Int32) (k18 : Int32 → Sto → Option (Bool × Sto)) (v3 : Int32) (σ : Sto) : Option (Bool × Sto) :=
  (if inb (v3 + (1 : Int32)) L = true then (if inb (v3 + (2 : Int32)) L = true then (if inb (v3 + (3 : Int32)) L = true then (if inb (v3 + (4 : Int32)) L = true then (if inb (v3 + (5 : Int32)) L = true then ((f_FR_turning (xs (Int32.toNatClampNeg (v3 + (1 : Int32)))) (xs (Int32.toNatClampNeg (v3 + (2 : Int32)))) ((lsh (Int32.toInt64 (xs (Int32.toNatClampNeg (v3 + (3 : Int32))))) (32 : Int32)) ||| ((Int32.toInt64 (xs (Int32.toNatClampNeg (v3 + (4 : Int32))))) &&& (4294967295 : Int64))) (xs (Int32.toNatClampNeg (v3 + (5 : Int32)))) σ).bind fun q37 => (if inb (v3 + (1 : Int32)) L = true then (if inb (v3 + (2 : Int32)) L = true then (if inb (v3 + (3 : Int32)) L = true then (if inb (v3 + (4 : Int32)) L = true then (if inb (v3 + (5 : Int32)) L = true then ((f_Mo_turning (xs (Int32.toNatClampNeg (v3 + (1 : Int32)))) (xs (Int32.toNatClampNeg (v3 + (2 : Int32)))) ((lsh (Int32.toInt64 (xs (Int32.toNatClampNeg (v3 + (3 : Int32))))) (32 : Int32)) ||| ((Int32.toInt64 (xs (Int32.toNatClampNeg (v3 + (4 : Int32))))) &&& (4294967295 : Int64))) (xs (Int32.toNatClampNeg (v3 + (5 : Int32)))) q37.2).bind fun q38 => (if q37.1 = q38.1 then B_La_law_2686 L xs k18 v3 q38.2
 else some (false, q38.2))) else none) else none) else none) else none) else none)) else none) else none) else none) else none) else none)
set_option maxHeartbeats 4000000 in
set_option maxRecDepth 100000 in
theorem vB_La_law_1332 {X : Xt} {E : En} {L : Nat} {xs : Nat → Int32} (hX : SX X E L xs) (g : GG X E 200 code R_La 4) {k18 : Int32 → Sto → Option (Bool × Sto)} (hk18 : ∀ (v3 : Int32) (σ : Sto), VV X E code 4 eB 18 [(0, .ref (E.2.1 999)), (1, .ref (E.2.1 0)), (2, .ref (E.2.1 48)), (3, .int v3)] [] σ (k18 v3 σ)) (v3 : Int32) (σ : Sto) : VV X E code 4 eB 1332 [(0, .ref (E.2.1 999)), (1, .ref (E.2.1 0)), (2, .ref (E.2.1 48)), (3, .int v3)] [] σ (B_La_law_1332 L xs k18 v3 σ) := by
  unfold B_La_law_1332
  refine v_aload_n 1 g d_La_law_1332 rfl ?_
  refine v_aload_n 0 g d_La_law_1333 rfl ?_
  refine v_iload_n 3 g d_La_law_1334 rfl ?_
  refine v_iconst (v := (1 : Int32)) g d_La_law_1335 (by decide +kernel) ?_
  refine v_iadd g d_La_law_1336 ?_
  refine v_sld hX g d_La_law_1337 (fun _ => ?_)
  refine v_aload_n 0 g d_La_law_1338 rfl ?_
  refine v_iload_n 3 g d_La_law_1339 rfl ?_
  refine v_iconst (v := (2 : Int32)) g d_La_law_1340 (by decide +kernel) ?_
  refine v_iadd g d_La_law_1341 ?_
  refine v_sld hX g d_La_law_1342 (fun _ => ?_)
  refine v_aload_n 0 g d_La_law_1343 rfl ?_
  refine v_iload_n 3 g d_La_law_1344 rfl ?_
  refine v_iconst (v := (3 : Int32)) g d_La_law_1345 (by decide +kernel) ?_
  refine v_iadd g d_La_law_1346 ?_
  refine v_sld hX g d_La_law_1347 (fun _ => ?_)
  refine v_i2l g d_La_law_1348 ?_
  refine v_bipush (v := (32 : Int32)) g d_La_law_1349 (by decide +kernel) ?_
  refine v_lshl g d_La_law_1351 ?_
  refine v_aload_n 0 g d_La_law_1352 rfl ?_
  refine v_iload_n 3 g d_La_law_1353 rfl ?_
  refine v_iconst (v := (4 : Int32)) g d_La_law_1354 (by decide +kernel) ?_
  refine v_iadd g d_La_law_1355 ?_
  refine v_sld hX g d_La_law_1356 (fun _ => ?_)
  refine v_i2l g d_La_law_1357 ?_
  refine v_ldc2 (v := (4294967295 : Int64)) g (m1 1567 (by decide +kernel) (by decide +kernel)) d_La_law_1358 ?_
  refine v_land g d_La_law_1361 ?_
  refine v_lor g d_La_law_1362 ?_
  refine v_aload_n 0 g d_La_law_1363 rfl ?_
  refine v_iload_n 3 g d_La_law_1364 rfl ?_
  refine v_iconst (v := (5 : Int32)) g d_La_law_1365 (by decide +kernel) ?_
  refine v_iadd g d_La_law_1366 ?_
  refine v_sld hX g d_La_law_1367 (fun _ => ?_)
  refine v_callI (r_V (rest := []) [.int (xs (Int32.toNatClampNeg (v3 + (1 : Int32)))), .int (xs (Int32.toNatClampNeg (v3 + (2 : Int32)))), .long ((lsh (Int32.toInt64 (xs (Int32.toNatClampNeg (v3 + (3 : Int32))))) (32 : Int32)) ||| ((Int32.toInt64 (xs (Int32.toNatClampNeg (v3 + (4 : Int32))))) &&& (4294967295 : Int64))), .int (xs (Int32.toNatClampNeg (v3 + (5 : Int32))))] g (m1 634 (by decide +kernel) (by decide +kernel)) yv_FR_turning rfl (fun r σ1 h => sp_FR_turning g.2.2.1  h) rfl rfl (by decide) (Nat.le_of_ble_eq_true rfl) d_La_law_1368) (fun q37 => ?_)
  refine v_aload_n 2 g d_La_law_1371 rfl ?_
  refine v_aload_n 0 g d_La_law_1372 rfl ?_
  refine v_iload_n 3 g d_La_law_1373 rfl ?_
  refine v_iconst (v := (1 : Int32)) g d_La_law_1374 (by decide +kernel) ?_
  refine v_iadd g d_La_law_1375 ?_
  refine v_sld hX g d_La_law_1376 (fun _ => ?_)
  refine v_aload_n 0 g d_La_law_1377 rfl ?_
  refine v_iload_n 3 g d_La_law_1378 rfl ?_
  refine v_iconst (v := (2 : Int32)) g d_La_law_1379 (by decide +kernel) ?_
  refine v_iadd g d_La_law_1380 ?_
  refine v_sld hX g d_La_law_1381 (fun _ => ?_)
  refine v_aload_n 0 g d_La_law_1382 rfl ?_
  refine v_iload_n 3 g d_La_law_1383 rfl ?_
  refine v_iconst (v := (3 : Int32)) g d_La_law_1384 (by decide +kernel) ?_
  refine v_iadd g d_La_law_1385 ?_
  refine v_sld hX g d_La_law_1386 (fun _ => ?_)
  refine v_i2l g d_La_law_1387 ?_
  refine v_bipush (v := (32 : Int32)) g d_La_law_1388 (by decide +kernel) ?_
  refine v_lshl g d_La_law_1390 ?_
  refine v_aload_n 0 g d_La_law_1391 rfl ?_
  refine v_iload_n 3 g d_La_law_1392 rfl ?_
  refine v_iconst (v := (4 : Int32)) g d_La_law_1393 (by decide +kernel) ?_
  refine v_iadd g d_La_law_1394 ?_
  refine v_sld hX g d_La_law_1395 (fun _ => ?_)
  refine v_i2l g d_La_law_1396 ?_
  refine v_ldc2 (v := (4294967295 : Int64)) g (m1 1567 (by decide +kernel) (by decide +kernel)) d_La_law_1397 ?_
  refine v_land g d_La_law_1400 ?_
  refine v_lor g d_La_law_1401 ?_
  refine v_aload_n 0 g d_La_law_1402 rfl ?_
  refine v_iload_n 3 g d_La_law_1403 rfl ?_
  refine v_iconst (v := (5 : Int32)) g d_La_law_1404 (by decide +kernel) ?_
  refine v_iadd g d_La_law_1405 ?_
  refine v_sld hX g d_La_law_1406 (fun _ => ?_)
  refine v_callI (r_V (rest := [.int q37.1]) [.int (xs (Int32.toNatClampNeg (v3 + (1 : Int32)))), .int (xs (Int32.toNatClampNeg (v3 + (2 : Int32)))), .long ((lsh (Int32.toInt64 (xs (Int32.toNatClampNeg (v3 + (3 : Int32))))) (32 : Int32)) ||| ((Int32.toInt64 (xs (Int32.toNatClampNeg (v3 + (4 : Int32))))) &&& (4294967295 : Int64))), .int (xs (Int32.toNatClampNeg (v3 + (5 : Int32))))] g (m1 1356 (by decide +kernel) (by decide +kernel)) yv_Mo_turning rfl (fun r σ1 h => sp_Mo_turning g.2.2.1  h) rfl rfl (by decide) (Nat.le_of_ble_eq_true rfl) d_La_law_1407) (fun q38 => ?_)
  refine v_icmp_eq 2686 g d_La_law_1410 (by decide) (fun _ => ?_) (fun _ => ?_)
  · exact v_sub [0,1,2,3] rfl (vB_La_law_2686 hX g hk18 v3 q38.2)
  · refine v_iconst (v := (0 : Int32)) g d_La_law_1413 (by decide +kernel) ?_
    exact v_ret d_La_law_1414 rfl
theorem d_La_law_1415 : decode code 1415 = .ok (.aload_n 1, 1) := by decide +kernel
theorem d_La_law_1416 : decode code 1416 = .ok (.aload_n 0, 1) := by decide +kernel
theorem d_La_law_1417 : decode code 1417 = .ok (.iload_n 3, 1) := by decide +kernel
theorem d_La_law_1418 : decode code 1418 = .ok (.iconst 1, 1) := by decide +kernel
theorem d_La_law_1419 : decode code 1419 = .ok (.iadd, 1) := by decide +kernel
theorem d_La_law_1420 : decode code 1420 = .ok (.iaload, 1) := by decide +kernel
theorem d_La_law_1421 : decode code 1421 = .ok (.aload_n 0, 1) := by decide +kernel
theorem d_La_law_1422 : decode code 1422 = .ok (.iload_n 3, 1) := by decide +kernel
theorem d_La_law_1423 : decode code 1423 = .ok (.iconst 2, 1) := by decide +kernel
theorem d_La_law_1424 : decode code 1424 = .ok (.iadd, 1) := by decide +kernel
theorem d_La_law_1425 : decode code 1425 = .ok (.iaload, 1) := by decide +kernel
theorem d_La_law_1426 : decode code 1426 = .ok (.i2l, 1) := by decide +kernel
theorem d_La_law_1427 : decode code 1427 = .ok (.bipush 32, 2) := by decide +kernel
theorem d_La_law_1429 : decode code 1429 = .ok (.lshl, 1) := by decide +kernel
theorem d_La_law_1430 : decode code 1430 = .ok (.aload_n 0, 1) := by decide +kernel
theorem d_La_law_1431 : decode code 1431 = .ok (.iload_n 3, 1) := by decide +kernel
theorem d_La_law_1432 : decode code 1432 = .ok (.iconst 3, 1) := by decide +kernel
theorem d_La_law_1433 : decode code 1433 = .ok (.iadd, 1) := by decide +kernel
theorem d_La_law_1434 : decode code 1434 = .ok (.iaload, 1) := by decide +kernel
theorem d_La_law_1435 : decode code 1435 = .ok (.i2l, 1) := by decide +kernel
theorem d_La_law_1436 : decode code 1436 = .ok (.ldc2_w 35, 3) := by decide +kernel
theorem d_La_law_1439 : decode code 1439 = .ok (.land, 1) := by decide +kernel
theorem d_La_law_1440 : decode code 1440 = .ok (.lor, 1) := by decide +kernel
theorem d_La_law_1441 : decode code 1441 = .ok (.invokevirtual 102, 3) := by decide +kernel
theorem d_La_law_1444 : decode code 1444 = .ok (.aload_n 2, 1) := by decide +kernel
theorem d_La_law_1445 : decode code 1445 = .ok (.aload_n 0, 1) := by decide +kernel
theorem d_La_law_1446 : decode code 1446 = .ok (.iload_n 3, 1) := by decide +kernel
theorem d_La_law_1447 : decode code 1447 = .ok (.iconst 1, 1) := by decide +kernel
theorem d_La_law_1448 : decode code 1448 = .ok (.iadd, 1) := by decide +kernel
theorem d_La_law_1449 : decode code 1449 = .ok (.iaload, 1) := by decide +kernel
theorem d_La_law_1450 : decode code 1450 = .ok (.aload_n 0, 1) := by decide +kernel
theorem d_La_law_1451 : decode code 1451 = .ok (.iload_n 3, 1) := by decide +kernel
theorem d_La_law_1452 : decode code 1452 = .ok (.iconst 2, 1) := by decide +kernel
theorem d_La_law_1453 : decode code 1453 = .ok (.iadd, 1) := by decide +kernel
theorem d_La_law_1454 : decode code 1454 = .ok (.iaload, 1) := by decide +kernel
theorem d_La_law_1455 : decode code 1455 = .ok (.i2l, 1) := by decide +kernel
theorem d_La_law_1456 : decode code 1456 = .ok (.bipush 32, 2) := by decide +kernel
theorem d_La_law_1458 : decode code 1458 = .ok (.lshl, 1) := by decide +kernel
theorem d_La_law_1459 : decode code 1459 = .ok (.aload_n 0, 1) := by decide +kernel
theorem d_La_law_1460 : decode code 1460 = .ok (.iload_n 3, 1) := by decide +kernel
theorem d_La_law_1461 : decode code 1461 = .ok (.iconst 3, 1) := by decide +kernel
theorem d_La_law_1462 : decode code 1462 = .ok (.iadd, 1) := by decide +kernel
theorem d_La_law_1463 : decode code 1463 = .ok (.iaload, 1) := by decide +kernel
theorem d_La_law_1464 : decode code 1464 = .ok (.i2l, 1) := by decide +kernel
theorem d_La_law_1465 : decode code 1465 = .ok (.ldc2_w 35, 3) := by decide +kernel
theorem d_La_law_1468 : decode code 1468 = .ok (.land, 1) := by decide +kernel
theorem d_La_law_1469 : decode code 1469 = .ok (.lor, 1) := by decide +kernel
theorem d_La_law_1470 : decode code 1470 = .ok (.invokevirtual 105, 3) := by decide +kernel
theorem d_La_law_1473 : decode code 1473 = .ok (.if_icmp .eq 1213, 3) := by decide +kernel
theorem d_La_law_1476 : decode code 1476 = .ok (.iconst 0, 1) := by decide +kernel
theorem d_La_law_1477 : decode code 1477 = .ok (.ireturn, 1) := by decide +kernel
def B_La_law_1415 (L : Nat) (xs : Nat → Int32) (k18 : Int32 → Sto → Option (Bool × Sto)) (v3 : Int32) (σ : Sto) : Option (Bool × Sto) :=
  (if inb (v3 + (1 : Int32)) L = true then (if inb (v3 + (2 : Int32)) L = true then (if inb (v3 + (3 : Int32)) L = true then ((f_FR_fewest (xs (Int32.toNatClampNeg (v3 + (1 : Int32)))) ((lsh (Int32.toInt64 (xs (Int32.toNatClampNeg (v3 + (2 : Int32))))) (32 : Int32)) ||| ((Int32.toInt64 (xs (Int32.toNatClampNeg (v3 + (3 : Int32))))) &&& (4294967295 : Int64))) σ).bind fun q39 => (if inb (v3 + (1 : Int32)) L = true then (if inb (v3 + (2 : Int32)) L = true then (if inb (v3 + (3 : Int32)) L = true then ((f_Mo_fewest (xs (Int32.toNatClampNeg (v3 + (1 : Int32)))) ((lsh (Int32.toInt64 (xs (Int32.toNatClampNeg (v3 + (2 : Int32))))) (32 : Int32)) ||| ((Int32.toInt64 (xs (Int32.toNatClampNeg (v3 + (3 : Int32))))) &&& (4294967295 : Int64))) q39.2).bind fun q40 => (if q39.1 = q40.1 then B_La_law_2686 L xs k18 v3 q40.2
 else some (false, q40.2))) else none) else none) else none)) else none) else none) else none)
set_option maxHeartbeats 4000000 in
set_option maxRecDepth 100000 in
theorem vB_La_law_1415 {X : Xt} {E : En} {L : Nat} {xs : Nat → Int32} (hX : SX X E L xs) (g : GG X E 200 code R_La 4) {k18 : Int32 → Sto → Option (Bool × Sto)} (hk18 : ∀ (v3 : Int32) (σ : Sto), VV X E code 4 eB 18 [(0, .ref (E.2.1 999)), (1, .ref (E.2.1 0)), (2, .ref (E.2.1 48)), (3, .int v3)] [] σ (k18 v3 σ)) (v3 : Int32) (σ : Sto) : VV X E code 4 eB 1415 [(0, .ref (E.2.1 999)), (1, .ref (E.2.1 0)), (2, .ref (E.2.1 48)), (3, .int v3)] [] σ (B_La_law_1415 L xs k18 v3 σ) := by
  unfold B_La_law_1415
  refine v_aload_n 1 g d_La_law_1415 rfl ?_
  refine v_aload_n 0 g d_La_law_1416 rfl ?_
  refine v_iload_n 3 g d_La_law_1417 rfl ?_
  refine v_iconst (v := (1 : Int32)) g d_La_law_1418 (by decide +kernel) ?_
  refine v_iadd g d_La_law_1419 ?_
  refine v_sld hX g d_La_law_1420 (fun _ => ?_)
  refine v_aload_n 0 g d_La_law_1421 rfl ?_
  refine v_iload_n 3 g d_La_law_1422 rfl ?_
  refine v_iconst (v := (2 : Int32)) g d_La_law_1423 (by decide +kernel) ?_
  refine v_iadd g d_La_law_1424 ?_
  refine v_sld hX g d_La_law_1425 (fun _ => ?_)
  refine v_i2l g d_La_law_1426 ?_
  refine v_bipush (v := (32 : Int32)) g d_La_law_1427 (by decide +kernel) ?_
  refine v_lshl g d_La_law_1429 ?_
  refine v_aload_n 0 g d_La_law_1430 rfl ?_
  refine v_iload_n 3 g d_La_law_1431 rfl ?_
  refine v_iconst (v := (3 : Int32)) g d_La_law_1432 (by decide +kernel) ?_
  refine v_iadd g d_La_law_1433 ?_
  refine v_sld hX g d_La_law_1434 (fun _ => ?_)
  refine v_i2l g d_La_law_1435 ?_
  refine v_ldc2 (v := (4294967295 : Int64)) g (m1 1567 (by decide +kernel) (by decide +kernel)) d_La_law_1436 ?_
  refine v_land g d_La_law_1439 ?_
  refine v_lor g d_La_law_1440 ?_
  refine v_callI (r_V (rest := []) [.int (xs (Int32.toNatClampNeg (v3 + (1 : Int32)))), .long ((lsh (Int32.toInt64 (xs (Int32.toNatClampNeg (v3 + (2 : Int32))))) (32 : Int32)) ||| ((Int32.toInt64 (xs (Int32.toNatClampNeg (v3 + (3 : Int32))))) &&& (4294967295 : Int64)))] g (m1 670 (by decide +kernel) (by decide +kernel)) yv_FR_fewest rfl (fun r σ1 h => sp_FR_fewest g.2.2.1  h) rfl rfl (by decide) (Nat.le_of_ble_eq_true rfl) d_La_law_1441) (fun q39 => ?_)
  refine v_aload_n 2 g d_La_law_1444 rfl ?_
  refine v_aload_n 0 g d_La_law_1445 rfl ?_
  refine v_iload_n 3 g d_La_law_1446 rfl ?_
  refine v_iconst (v := (1 : Int32)) g d_La_law_1447 (by decide +kernel) ?_
  refine v_iadd g d_La_law_1448 ?_
  refine v_sld hX g d_La_law_1449 (fun _ => ?_)
  refine v_aload_n 0 g d_La_law_1450 rfl ?_
  refine v_iload_n 3 g d_La_law_1451 rfl ?_
  refine v_iconst (v := (2 : Int32)) g d_La_law_1452 (by decide +kernel) ?_
  refine v_iadd g d_La_law_1453 ?_
  refine v_sld hX g d_La_law_1454 (fun _ => ?_)
  refine v_i2l g d_La_law_1455 ?_
  refine v_bipush (v := (32 : Int32)) g d_La_law_1456 (by decide +kernel) ?_
  refine v_lshl g d_La_law_1458 ?_
  refine v_aload_n 0 g d_La_law_1459 rfl ?_
  refine v_iload_n 3 g d_La_law_1460 rfl ?_
  refine v_iconst (v := (3 : Int32)) g d_La_law_1461 (by decide +kernel) ?_
  refine v_iadd g d_La_law_1462 ?_
  refine v_sld hX g d_La_law_1463 (fun _ => ?_)
  refine v_i2l g d_La_law_1464 ?_
  refine v_ldc2 (v := (4294967295 : Int64)) g (m1 1567 (by decide +kernel) (by decide +kernel)) d_La_law_1465 ?_
  refine v_land g d_La_law_1468 ?_
  refine v_lor g d_La_law_1469 ?_
  refine v_callI (r_V (rest := [.int q39.1]) [.int (xs (Int32.toNatClampNeg (v3 + (1 : Int32)))), .long ((lsh (Int32.toInt64 (xs (Int32.toNatClampNeg (v3 + (2 : Int32))))) (32 : Int32)) ||| ((Int32.toInt64 (xs (Int32.toNatClampNeg (v3 + (3 : Int32))))) &&& (4294967295 : Int64)))] g (m1 1364 (by decide +kernel) (by decide +kernel)) yv_Mo_fewest rfl (fun r σ1 h => sp_Mo_fewest g.2.2.1  h) rfl rfl (by decide) (Nat.le_of_ble_eq_true rfl) d_La_law_1470) (fun q40 => ?_)
  refine v_icmp_eq 2686 g d_La_law_1473 (by decide) (fun _ => ?_) (fun _ => ?_)
  · exact v_sub [0,1,2,3] rfl (vB_La_law_2686 hX g hk18 v3 q40.2)
  · refine v_iconst (v := (0 : Int32)) g d_La_law_1476 (by decide +kernel) ?_
    exact v_ret d_La_law_1477 rfl
theorem d_La_law_1478 : decode code 1478 = .ok (.aload_n 1, 1) := by decide +kernel
theorem d_La_law_1479 : decode code 1479 = .ok (.aload_n 0, 1) := by decide +kernel
theorem d_La_law_1480 : decode code 1480 = .ok (.iload_n 3, 1) := by decide +kernel
theorem d_La_law_1481 : decode code 1481 = .ok (.iconst 1, 1) := by decide +kernel
theorem d_La_law_1482 : decode code 1482 = .ok (.iadd, 1) := by decide +kernel
theorem d_La_law_1483 : decode code 1483 = .ok (.iaload, 1) := by decide +kernel
theorem d_La_law_1484 : decode code 1484 = .ok (.aload_n 0, 1) := by decide +kernel
theorem d_La_law_1485 : decode code 1485 = .ok (.iload_n 3, 1) := by decide +kernel
theorem d_La_law_1486 : decode code 1486 = .ok (.iconst 2, 1) := by decide +kernel
theorem d_La_law_1487 : decode code 1487 = .ok (.iadd, 1) := by decide +kernel
theorem d_La_law_1488 : decode code 1488 = .ok (.iaload, 1) := by decide +kernel
theorem d_La_law_1489 : decode code 1489 = .ok (.i2l, 1) := by decide +kernel
theorem d_La_law_1490 : decode code 1490 = .ok (.bipush 32, 2) := by decide +kernel
theorem d_La_law_1492 : decode code 1492 = .ok (.lshl, 1) := by decide +kernel
theorem d_La_law_1493 : decode code 1493 = .ok (.aload_n 0, 1) := by decide +kernel
theorem d_La_law_1494 : decode code 1494 = .ok (.iload_n 3, 1) := by decide +kernel
theorem d_La_law_1495 : decode code 1495 = .ok (.iconst 3, 1) := by decide +kernel
theorem d_La_law_1496 : decode code 1496 = .ok (.iadd, 1) := by decide +kernel
theorem d_La_law_1497 : decode code 1497 = .ok (.iaload, 1) := by decide +kernel
theorem d_La_law_1498 : decode code 1498 = .ok (.i2l, 1) := by decide +kernel
theorem d_La_law_1499 : decode code 1499 = .ok (.ldc2_w 35, 3) := by decide +kernel
theorem d_La_law_1502 : decode code 1502 = .ok (.land, 1) := by decide +kernel
theorem d_La_law_1503 : decode code 1503 = .ok (.lor, 1) := by decide +kernel
theorem d_La_law_1504 : decode code 1504 = .ok (.aload_n 0, 1) := by decide +kernel
theorem d_La_law_1505 : decode code 1505 = .ok (.iload_n 3, 1) := by decide +kernel
theorem d_La_law_1506 : decode code 1506 = .ok (.iconst 4, 1) := by decide +kernel
theorem d_La_law_1507 : decode code 1507 = .ok (.iadd, 1) := by decide +kernel
theorem d_La_law_1508 : decode code 1508 = .ok (.iaload, 1) := by decide +kernel
theorem d_La_law_1509 : decode code 1509 = .ok (.i2l, 1) := by decide +kernel
theorem d_La_law_1510 : decode code 1510 = .ok (.bipush 32, 2) := by decide +kernel
theorem d_La_law_1512 : decode code 1512 = .ok (.lshl, 1) := by decide +kernel
theorem d_La_law_1513 : decode code 1513 = .ok (.aload_n 0, 1) := by decide +kernel
theorem d_La_law_1514 : decode code 1514 = .ok (.iload_n 3, 1) := by decide +kernel
theorem d_La_law_1515 : decode code 1515 = .ok (.iconst 5, 1) := by decide +kernel
theorem d_La_law_1516 : decode code 1516 = .ok (.iadd, 1) := by decide +kernel
theorem d_La_law_1517 : decode code 1517 = .ok (.iaload, 1) := by decide +kernel
theorem d_La_law_1518 : decode code 1518 = .ok (.i2l, 1) := by decide +kernel
theorem d_La_law_1519 : decode code 1519 = .ok (.ldc2_w 35, 3) := by decide +kernel
theorem d_La_law_1522 : decode code 1522 = .ok (.land, 1) := by decide +kernel
theorem d_La_law_1523 : decode code 1523 = .ok (.lor, 1) := by decide +kernel
theorem d_La_law_1524 : decode code 1524 = .ok (.invokevirtual 106, 3) := by decide +kernel
theorem d_La_law_1527 : decode code 1527 = .ok (.aload_n 2, 1) := by decide +kernel
theorem d_La_law_1528 : decode code 1528 = .ok (.aload_n 0, 1) := by decide +kernel
theorem d_La_law_1529 : decode code 1529 = .ok (.iload_n 3, 1) := by decide +kernel
theorem d_La_law_1530 : decode code 1530 = .ok (.iconst 1, 1) := by decide +kernel
theorem d_La_law_1531 : decode code 1531 = .ok (.iadd, 1) := by decide +kernel
theorem d_La_law_1532 : decode code 1532 = .ok (.iaload, 1) := by decide +kernel
theorem d_La_law_1533 : decode code 1533 = .ok (.aload_n 0, 1) := by decide +kernel
theorem d_La_law_1534 : decode code 1534 = .ok (.iload_n 3, 1) := by decide +kernel
theorem d_La_law_1535 : decode code 1535 = .ok (.iconst 2, 1) := by decide +kernel
theorem d_La_law_1536 : decode code 1536 = .ok (.iadd, 1) := by decide +kernel
theorem d_La_law_1537 : decode code 1537 = .ok (.iaload, 1) := by decide +kernel
theorem d_La_law_1538 : decode code 1538 = .ok (.i2l, 1) := by decide +kernel
theorem d_La_law_1539 : decode code 1539 = .ok (.bipush 32, 2) := by decide +kernel
theorem d_La_law_1541 : decode code 1541 = .ok (.lshl, 1) := by decide +kernel
theorem d_La_law_1542 : decode code 1542 = .ok (.aload_n 0, 1) := by decide +kernel
theorem d_La_law_1543 : decode code 1543 = .ok (.iload_n 3, 1) := by decide +kernel
theorem d_La_law_1544 : decode code 1544 = .ok (.iconst 3, 1) := by decide +kernel
theorem d_La_law_1545 : decode code 1545 = .ok (.iadd, 1) := by decide +kernel
theorem d_La_law_1546 : decode code 1546 = .ok (.iaload, 1) := by decide +kernel
theorem d_La_law_1547 : decode code 1547 = .ok (.i2l, 1) := by decide +kernel
theorem d_La_law_1548 : decode code 1548 = .ok (.ldc2_w 35, 3) := by decide +kernel
theorem d_La_law_1551 : decode code 1551 = .ok (.land, 1) := by decide +kernel
theorem d_La_law_1552 : decode code 1552 = .ok (.lor, 1) := by decide +kernel
theorem d_La_law_1553 : decode code 1553 = .ok (.aload_n 0, 1) := by decide +kernel
theorem d_La_law_1554 : decode code 1554 = .ok (.iload_n 3, 1) := by decide +kernel
theorem d_La_law_1555 : decode code 1555 = .ok (.iconst 4, 1) := by decide +kernel
theorem d_La_law_1556 : decode code 1556 = .ok (.iadd, 1) := by decide +kernel
theorem d_La_law_1557 : decode code 1557 = .ok (.iaload, 1) := by decide +kernel
theorem d_La_law_1558 : decode code 1558 = .ok (.i2l, 1) := by decide +kernel
theorem d_La_law_1559 : decode code 1559 = .ok (.bipush 32, 2) := by decide +kernel
theorem d_La_law_1561 : decode code 1561 = .ok (.lshl, 1) := by decide +kernel
theorem d_La_law_1562 : decode code 1562 = .ok (.aload_n 0, 1) := by decide +kernel
theorem d_La_law_1563 : decode code 1563 = .ok (.iload_n 3, 1) := by decide +kernel
theorem d_La_law_1564 : decode code 1564 = .ok (.iconst 5, 1) := by decide +kernel
theorem d_La_law_1565 : decode code 1565 = .ok (.iadd, 1) := by decide +kernel
theorem d_La_law_1566 : decode code 1566 = .ok (.iaload, 1) := by decide +kernel
theorem d_La_law_1567 : decode code 1567 = .ok (.i2l, 1) := by decide +kernel
theorem d_La_law_1568 : decode code 1568 = .ok (.ldc2_w 35, 3) := by decide +kernel
theorem d_La_law_1571 : decode code 1571 = .ok (.land, 1) := by decide +kernel
theorem d_La_law_1572 : decode code 1572 = .ok (.lor, 1) := by decide +kernel
theorem d_La_law_1573 : decode code 1573 = .ok (.invokevirtual 110, 3) := by decide +kernel
theorem d_La_law_1576 : decode code 1576 = .ok (.lcmp, 1) := by decide +kernel
theorem d_La_law_1577 : decode code 1577 = .ok (.ifCond .eq 1109, 3) := by decide +kernel
theorem d_La_law_1580 : decode code 1580 = .ok (.iconst 0, 1) := by decide +kernel
theorem d_La_law_1581 : decode code 1581 = .ok (.ireturn, 1) := by decide +kernel
def B_La_law_1478 (L : Nat) (xs : Nat → Int32) (k18 : Int32 → Sto → Option (Bool × Sto)) (v3 : Int32) (σ : Sto) : Option (Bool × Sto) :=
  (if inb (v3 + (1 : Int32)) L = true then (if inb (v3 + (2 : Int32)) L = true then (if inb (v3 + (3 : Int32)) L = true then (if inb (v3 + (4 : Int32)) L = true then (if inb (v3 + (5 : Int32)) L = true then ((f_FR_better (xs (Int32.toNatClampNeg (v3 + (1 : Int32)))) ((lsh (Int32.toInt64 (xs (Int32.toNatClampNeg (v3 + (2 : Int32))))) (32 : Int32)) ||| ((Int32.toInt64 (xs (Int32.toNatClampNeg (v3 + (3 : Int32))))) &&& (4294967295 : Int64))) ((lsh (Int32.toInt64 (xs (Int32.toNatClampNeg (v3 + (4 : Int32))))) (32 : Int32)) ||| ((Int32.toInt64 (xs (Int32.toNatClampNeg (v3 + (5 : Int32))))) &&& (4294967295 : Int64))) σ).bind fun q41 => (if inb (v3 + (1 : Int32)) L = true then (if inb (v3 + (2 : Int32)) L = true then (if inb (v3 + (3 : Int32)) L = true then (if inb (v3 + (4 : Int32)) L = true then (if inb (v3 + (5 : Int32)) L = true then ((f_Mo_better (xs (Int32.toNatClampNeg (v3 + (1 : Int32)))) ((lsh (Int32.toInt64 (xs (Int32.toNatClampNeg (v3 + (2 : Int32))))) (32 : Int32)) ||| ((Int32.toInt64 (xs (Int32.toNatClampNeg (v3 + (3 : Int32))))) &&& (4294967295 : Int64))) ((lsh (Int32.toInt64 (xs (Int32.toNatClampNeg (v3 + (4 : Int32))))) (32 : Int32)) ||| ((Int32.toInt64 (xs (Int32.toNatClampNeg (v3 + (5 : Int32))))) &&& (4294967295 : Int64))) q41.2).bind fun q42 => (if q41.1 = q42.1 then B_La_law_2686 L xs k18 v3 q42.2
 else some (false, q42.2))) else none) else none) else none) else none) else none)) else none) else none) else none) else none) else none)
set_option maxHeartbeats 4000000 in
set_option maxRecDepth 100000 in
theorem vB_La_law_1478 {X : Xt} {E : En} {L : Nat} {xs : Nat → Int32} (hX : SX X E L xs) (g : GG X E 200 code R_La 4) {k18 : Int32 → Sto → Option (Bool × Sto)} (hk18 : ∀ (v3 : Int32) (σ : Sto), VV X E code 4 eB 18 [(0, .ref (E.2.1 999)), (1, .ref (E.2.1 0)), (2, .ref (E.2.1 48)), (3, .int v3)] [] σ (k18 v3 σ)) (v3 : Int32) (σ : Sto) : VV X E code 4 eB 1478 [(0, .ref (E.2.1 999)), (1, .ref (E.2.1 0)), (2, .ref (E.2.1 48)), (3, .int v3)] [] σ (B_La_law_1478 L xs k18 v3 σ) := by
  unfold B_La_law_1478
  refine v_aload_n 1 g d_La_law_1478 rfl ?_
  refine v_aload_n 0 g d_La_law_1479 rfl ?_
  refine v_iload_n 3 g d_La_law_1480 rfl ?_
  refine v_iconst (v := (1 : Int32)) g d_La_law_1481 (by decide +kernel) ?_
  refine v_iadd g d_La_law_1482 ?_
  refine v_sld hX g d_La_law_1483 (fun _ => ?_)
  refine v_aload_n 0 g d_La_law_1484 rfl ?_
  refine v_iload_n 3 g d_La_law_1485 rfl ?_
  refine v_iconst (v := (2 : Int32)) g d_La_law_1486 (by decide +kernel) ?_
  refine v_iadd g d_La_law_1487 ?_
  refine v_sld hX g d_La_law_1488 (fun _ => ?_)
  refine v_i2l g d_La_law_1489 ?_
  refine v_bipush (v := (32 : Int32)) g d_La_law_1490 (by decide +kernel) ?_
  refine v_lshl g d_La_law_1492 ?_
  refine v_aload_n 0 g d_La_law_1493 rfl ?_
  refine v_iload_n 3 g d_La_law_1494 rfl ?_
  refine v_iconst (v := (3 : Int32)) g d_La_law_1495 (by decide +kernel) ?_
  refine v_iadd g d_La_law_1496 ?_
  refine v_sld hX g d_La_law_1497 (fun _ => ?_)
  refine v_i2l g d_La_law_1498 ?_
  refine v_ldc2 (v := (4294967295 : Int64)) g (m1 1567 (by decide +kernel) (by decide +kernel)) d_La_law_1499 ?_
  refine v_land g d_La_law_1502 ?_
  refine v_lor g d_La_law_1503 ?_
  refine v_aload_n 0 g d_La_law_1504 rfl ?_
  refine v_iload_n 3 g d_La_law_1505 rfl ?_
  refine v_iconst (v := (4 : Int32)) g d_La_law_1506 (by decide +kernel) ?_
  refine v_iadd g d_La_law_1507 ?_
  refine v_sld hX g d_La_law_1508 (fun _ => ?_)
  refine v_i2l g d_La_law_1509 ?_
  refine v_bipush (v := (32 : Int32)) g d_La_law_1510 (by decide +kernel) ?_
  refine v_lshl g d_La_law_1512 ?_
  refine v_aload_n 0 g d_La_law_1513 rfl ?_
  refine v_iload_n 3 g d_La_law_1514 rfl ?_
  refine v_iconst (v := (5 : Int32)) g d_La_law_1515 (by decide +kernel) ?_
  refine v_iadd g d_La_law_1516 ?_
  refine v_sld hX g d_La_law_1517 (fun _ => ?_)
  refine v_i2l g d_La_law_1518 ?_
  refine v_ldc2 (v := (4294967295 : Int64)) g (m1 1567 (by decide +kernel) (by decide +kernel)) d_La_law_1519 ?_
  refine v_land g d_La_law_1522 ?_
  refine v_lor g d_La_law_1523 ?_
  refine v_callL (r_V (rest := []) [.int (xs (Int32.toNatClampNeg (v3 + (1 : Int32)))), .long ((lsh (Int32.toInt64 (xs (Int32.toNatClampNeg (v3 + (2 : Int32))))) (32 : Int32)) ||| ((Int32.toInt64 (xs (Int32.toNatClampNeg (v3 + (3 : Int32))))) &&& (4294967295 : Int64))), .long ((lsh (Int32.toInt64 (xs (Int32.toNatClampNeg (v3 + (4 : Int32))))) (32 : Int32)) ||| ((Int32.toInt64 (xs (Int32.toNatClampNeg (v3 + (5 : Int32))))) &&& (4294967295 : Int64)))] g (m1 682 (by decide +kernel) (by decide +kernel)) yv_FR_better rfl (fun r σ1 h => sp_FR_better g.2.2.1  h) rfl rfl (by decide) (Nat.le_of_ble_eq_true rfl) d_La_law_1524) (fun q41 => ?_)
  refine v_aload_n 2 g d_La_law_1527 rfl ?_
  refine v_aload_n 0 g d_La_law_1528 rfl ?_
  refine v_iload_n 3 g d_La_law_1529 rfl ?_
  refine v_iconst (v := (1 : Int32)) g d_La_law_1530 (by decide +kernel) ?_
  refine v_iadd g d_La_law_1531 ?_
  refine v_sld hX g d_La_law_1532 (fun _ => ?_)
  refine v_aload_n 0 g d_La_law_1533 rfl ?_
  refine v_iload_n 3 g d_La_law_1534 rfl ?_
  refine v_iconst (v := (2 : Int32)) g d_La_law_1535 (by decide +kernel) ?_
  refine v_iadd g d_La_law_1536 ?_
  refine v_sld hX g d_La_law_1537 (fun _ => ?_)
  refine v_i2l g d_La_law_1538 ?_
  refine v_bipush (v := (32 : Int32)) g d_La_law_1539 (by decide +kernel) ?_
  refine v_lshl g d_La_law_1541 ?_
  refine v_aload_n 0 g d_La_law_1542 rfl ?_
  refine v_iload_n 3 g d_La_law_1543 rfl ?_
  refine v_iconst (v := (3 : Int32)) g d_La_law_1544 (by decide +kernel) ?_
  refine v_iadd g d_La_law_1545 ?_
  refine v_sld hX g d_La_law_1546 (fun _ => ?_)
  refine v_i2l g d_La_law_1547 ?_
  refine v_ldc2 (v := (4294967295 : Int64)) g (m1 1567 (by decide +kernel) (by decide +kernel)) d_La_law_1548 ?_
  refine v_land g d_La_law_1551 ?_
  refine v_lor g d_La_law_1552 ?_
  refine v_aload_n 0 g d_La_law_1553 rfl ?_
  refine v_iload_n 3 g d_La_law_1554 rfl ?_
  refine v_iconst (v := (4 : Int32)) g d_La_law_1555 (by decide +kernel) ?_
  refine v_iadd g d_La_law_1556 ?_
  refine v_sld hX g d_La_law_1557 (fun _ => ?_)
  refine v_i2l g d_La_law_1558 ?_
  refine v_bipush (v := (32 : Int32)) g d_La_law_1559 (by decide +kernel) ?_
  refine v_lshl g d_La_law_1561 ?_
  refine v_aload_n 0 g d_La_law_1562 rfl ?_
  refine v_iload_n 3 g d_La_law_1563 rfl ?_
  refine v_iconst (v := (5 : Int32)) g d_La_law_1564 (by decide +kernel) ?_
  refine v_iadd g d_La_law_1565 ?_
  refine v_sld hX g d_La_law_1566 (fun _ => ?_)
  refine v_i2l g d_La_law_1567 ?_
  refine v_ldc2 (v := (4294967295 : Int64)) g (m1 1567 (by decide +kernel) (by decide +kernel)) d_La_law_1568 ?_
  refine v_land g d_La_law_1571 ?_
  refine v_lor g d_La_law_1572 ?_
  refine v_callL (r_V (rest := [.long q41.1]) [.int (xs (Int32.toNatClampNeg (v3 + (1 : Int32)))), .long ((lsh (Int32.toInt64 (xs (Int32.toNatClampNeg (v3 + (2 : Int32))))) (32 : Int32)) ||| ((Int32.toInt64 (xs (Int32.toNatClampNeg (v3 + (3 : Int32))))) &&& (4294967295 : Int64))), .long ((lsh (Int32.toInt64 (xs (Int32.toNatClampNeg (v3 + (4 : Int32))))) (32 : Int32)) ||| ((Int32.toInt64 (xs (Int32.toNatClampNeg (v3 + (5 : Int32))))) &&& (4294967295 : Int64)))] g (m1 1372 (by decide +kernel) (by decide +kernel)) yv_Mo_better rfl (fun r σ1 h => sp_Mo_better g.2.2.1  h) rfl rfl (by decide) (Nat.le_of_ble_eq_true rfl) d_La_law_1573) (fun q42 => ?_)
  refine v_lcmp_eq 2686 g d_La_law_1576 d_La_law_1577 (by decide) (fun _ => ?_) (fun _ => ?_)
  · exact v_sub [0,1,2,3] rfl (vB_La_law_2686 hX g hk18 v3 q42.2)
  · refine v_iconst (v := (0 : Int32)) g d_La_law_1580 (by decide +kernel) ?_
    exact v_ret d_La_law_1581 rfl
theorem d_La_law_1582 : decode code 1582 = .ok (.aload_n 1, 1) := by decide +kernel
theorem d_La_law_1583 : decode code 1583 = .ok (.aload_n 0, 1) := by decide +kernel
theorem d_La_law_1584 : decode code 1584 = .ok (.iload_n 3, 1) := by decide +kernel
theorem d_La_law_1585 : decode code 1585 = .ok (.iconst 1, 1) := by decide +kernel
theorem d_La_law_1586 : decode code 1586 = .ok (.iadd, 1) := by decide +kernel
theorem d_La_law_1587 : decode code 1587 = .ok (.iaload, 1) := by decide +kernel
theorem d_La_law_1588 : decode code 1588 = .ok (.aload_n 0, 1) := by decide +kernel
theorem d_La_law_1589 : decode code 1589 = .ok (.iload_n 3, 1) := by decide +kernel
theorem d_La_law_1590 : decode code 1590 = .ok (.iconst 2, 1) := by decide +kernel
theorem d_La_law_1591 : decode code 1591 = .ok (.iadd, 1) := by decide +kernel
theorem d_La_law_1592 : decode code 1592 = .ok (.iaload, 1) := by decide +kernel
theorem d_La_law_1593 : decode code 1593 = .ok (.aload_n 0, 1) := by decide +kernel
theorem d_La_law_1594 : decode code 1594 = .ok (.iload_n 3, 1) := by decide +kernel
theorem d_La_law_1595 : decode code 1595 = .ok (.iconst 3, 1) := by decide +kernel
theorem d_La_law_1596 : decode code 1596 = .ok (.iadd, 1) := by decide +kernel
theorem d_La_law_1597 : decode code 1597 = .ok (.iaload, 1) := by decide +kernel
theorem d_La_law_1598 : decode code 1598 = .ok (.aload_n 0, 1) := by decide +kernel
theorem d_La_law_1599 : decode code 1599 = .ok (.iload_n 3, 1) := by decide +kernel
theorem d_La_law_1600 : decode code 1600 = .ok (.iconst 4, 1) := by decide +kernel
theorem d_La_law_1601 : decode code 1601 = .ok (.iadd, 1) := by decide +kernel
theorem d_La_law_1602 : decode code 1602 = .ok (.iaload, 1) := by decide +kernel
theorem d_La_law_1603 : decode code 1603 = .ok (.aload_n 0, 1) := by decide +kernel
theorem d_La_law_1604 : decode code 1604 = .ok (.iload_n 3, 1) := by decide +kernel
theorem d_La_law_1605 : decode code 1605 = .ok (.iconst 5, 1) := by decide +kernel
theorem d_La_law_1606 : decode code 1606 = .ok (.iadd, 1) := by decide +kernel
theorem d_La_law_1607 : decode code 1607 = .ok (.iaload, 1) := by decide +kernel
theorem d_La_law_1608 : decode code 1608 = .ok (.i2l, 1) := by decide +kernel
theorem d_La_law_1609 : decode code 1609 = .ok (.bipush 32, 2) := by decide +kernel
theorem d_La_law_1611 : decode code 1611 = .ok (.lshl, 1) := by decide +kernel
theorem d_La_law_1612 : decode code 1612 = .ok (.aload_n 0, 1) := by decide +kernel
theorem d_La_law_1613 : decode code 1613 = .ok (.iload_n 3, 1) := by decide +kernel
theorem d_La_law_1614 : decode code 1614 = .ok (.bipush 6, 2) := by decide +kernel
theorem d_La_law_1616 : decode code 1616 = .ok (.iadd, 1) := by decide +kernel
theorem d_La_law_1617 : decode code 1617 = .ok (.iaload, 1) := by decide +kernel
theorem d_La_law_1618 : decode code 1618 = .ok (.i2l, 1) := by decide +kernel
theorem d_La_law_1619 : decode code 1619 = .ok (.ldc2_w 35, 3) := by decide +kernel
theorem d_La_law_1622 : decode code 1622 = .ok (.land, 1) := by decide +kernel
theorem d_La_law_1623 : decode code 1623 = .ok (.lor, 1) := by decide +kernel
theorem d_La_law_1624 : decode code 1624 = .ok (.invokevirtual 111, 3) := by decide +kernel
theorem d_La_law_1627 : decode code 1627 = .ok (.aload_n 2, 1) := by decide +kernel
theorem d_La_law_1628 : decode code 1628 = .ok (.aload_n 0, 1) := by decide +kernel
theorem d_La_law_1629 : decode code 1629 = .ok (.iload_n 3, 1) := by decide +kernel
theorem d_La_law_1630 : decode code 1630 = .ok (.iconst 1, 1) := by decide +kernel
theorem d_La_law_1631 : decode code 1631 = .ok (.iadd, 1) := by decide +kernel
theorem d_La_law_1632 : decode code 1632 = .ok (.iaload, 1) := by decide +kernel
theorem d_La_law_1633 : decode code 1633 = .ok (.aload_n 0, 1) := by decide +kernel
theorem d_La_law_1634 : decode code 1634 = .ok (.iload_n 3, 1) := by decide +kernel
theorem d_La_law_1635 : decode code 1635 = .ok (.iconst 2, 1) := by decide +kernel
theorem d_La_law_1636 : decode code 1636 = .ok (.iadd, 1) := by decide +kernel
theorem d_La_law_1637 : decode code 1637 = .ok (.iaload, 1) := by decide +kernel
theorem d_La_law_1638 : decode code 1638 = .ok (.aload_n 0, 1) := by decide +kernel
theorem d_La_law_1639 : decode code 1639 = .ok (.iload_n 3, 1) := by decide +kernel
theorem d_La_law_1640 : decode code 1640 = .ok (.iconst 3, 1) := by decide +kernel
theorem d_La_law_1641 : decode code 1641 = .ok (.iadd, 1) := by decide +kernel
theorem d_La_law_1642 : decode code 1642 = .ok (.iaload, 1) := by decide +kernel
theorem d_La_law_1643 : decode code 1643 = .ok (.aload_n 0, 1) := by decide +kernel
theorem d_La_law_1644 : decode code 1644 = .ok (.iload_n 3, 1) := by decide +kernel
theorem d_La_law_1645 : decode code 1645 = .ok (.iconst 4, 1) := by decide +kernel
theorem d_La_law_1646 : decode code 1646 = .ok (.iadd, 1) := by decide +kernel
theorem d_La_law_1647 : decode code 1647 = .ok (.iaload, 1) := by decide +kernel
theorem d_La_law_1648 : decode code 1648 = .ok (.aload_n 0, 1) := by decide +kernel
theorem d_La_law_1649 : decode code 1649 = .ok (.iload_n 3, 1) := by decide +kernel
theorem d_La_law_1650 : decode code 1650 = .ok (.iconst 5, 1) := by decide +kernel
theorem d_La_law_1651 : decode code 1651 = .ok (.iadd, 1) := by decide +kernel
theorem d_La_law_1652 : decode code 1652 = .ok (.iaload, 1) := by decide +kernel
theorem d_La_law_1653 : decode code 1653 = .ok (.i2l, 1) := by decide +kernel
theorem d_La_law_1654 : decode code 1654 = .ok (.bipush 32, 2) := by decide +kernel
theorem d_La_law_1656 : decode code 1656 = .ok (.lshl, 1) := by decide +kernel
theorem d_La_law_1657 : decode code 1657 = .ok (.aload_n 0, 1) := by decide +kernel
theorem d_La_law_1658 : decode code 1658 = .ok (.iload_n 3, 1) := by decide +kernel
theorem d_La_law_1659 : decode code 1659 = .ok (.bipush 6, 2) := by decide +kernel
theorem d_La_law_1661 : decode code 1661 = .ok (.iadd, 1) := by decide +kernel
theorem d_La_law_1662 : decode code 1662 = .ok (.iaload, 1) := by decide +kernel
theorem d_La_law_1663 : decode code 1663 = .ok (.i2l, 1) := by decide +kernel
theorem d_La_law_1664 : decode code 1664 = .ok (.ldc2_w 35, 3) := by decide +kernel
theorem d_La_law_1667 : decode code 1667 = .ok (.land, 1) := by decide +kernel
theorem d_La_law_1668 : decode code 1668 = .ok (.lor, 1) := by decide +kernel
theorem d_La_law_1669 : decode code 1669 = .ok (.invokevirtual 115, 3) := by decide +kernel
theorem d_La_law_1672 : decode code 1672 = .ok (.if_icmp .eq 1014, 3) := by decide +kernel
theorem d_La_law_1675 : decode code 1675 = .ok (.iconst 0, 1) := by decide +kernel
theorem d_La_law_1676 : decode code 1676 = .ok (.ireturn, 1) := by decide +kernel
def B_La_law_1582 (L : Nat) (xs : Nat → Int32) (k18 : Int32 → Sto → Option (Bool × Sto)) (v3 : Int32) (σ : Sto) : Option (Bool × Sto) :=
  (if inb (v3 + (1 : Int32)) L = true then (if inb (v3 + (2 : Int32)) L = true then (if inb (v3 + (3 : Int32)) L = true then (if inb (v3 + (4 : Int32)) L = true then (if inb (v3 + (5 : Int32)) L = true then (if inb (v3 + (6 : Int32)) L = true then ((f_FR_prove (xs (Int32.toNatClampNeg (v3 + (1 : Int32)))) (xs (Int32.toNatClampNeg (v3 + (2 : Int32)))) (xs (Int32.toNatClampNeg (v3 + (3 : Int32)))) (xs (Int32.toNatClampNeg (v3 + (4 : Int32)))) ((lsh (Int32.toInt64 (xs (Int32.toNatClampNeg (v3 + (5 : Int32))))) (32 : Int32)) ||| ((Int32.toInt64 (xs (Int32.toNatClampNeg (v3 + (6 : Int32))))) &&& (4294967295 : Int64))) σ).bind fun q43 => (if inb (v3 + (1 : Int32)) L = true then (if inb (v3 + (2 : Int32)) L = true then (if inb (v3 + (3 : Int32)) L = true then (if inb (v3 + (4 : Int32)) L = true then (if inb (v3 + (5 : Int32)) L = true then (if inb (v3 + (6 : Int32)) L = true then ((f_Mo_prove (xs (Int32.toNatClampNeg (v3 + (1 : Int32)))) (xs (Int32.toNatClampNeg (v3 + (2 : Int32)))) (xs (Int32.toNatClampNeg (v3 + (3 : Int32)))) (xs (Int32.toNatClampNeg (v3 + (4 : Int32)))) ((lsh (Int32.toInt64 (xs (Int32.toNatClampNeg (v3 + (5 : Int32))))) (32 : Int32)) ||| ((Int32.toInt64 (xs (Int32.toNatClampNeg (v3 + (6 : Int32))))) &&& (4294967295 : Int64))) q43.2).bind fun q44 => (if q43.1 = q44.1 then B_La_law_2686 L xs k18 v3 q44.2
 else some (false, q44.2))) else none) else none) else none) else none) else none) else none)) else none) else none) else none) else none) else none) else none)
set_option maxHeartbeats 4000000 in
set_option maxRecDepth 100000 in
theorem vB_La_law_1582 {X : Xt} {E : En} {L : Nat} {xs : Nat → Int32} (hX : SX X E L xs) (g : GG X E 200 code R_La 4) {k18 : Int32 → Sto → Option (Bool × Sto)} (hk18 : ∀ (v3 : Int32) (σ : Sto), VV X E code 4 eB 18 [(0, .ref (E.2.1 999)), (1, .ref (E.2.1 0)), (2, .ref (E.2.1 48)), (3, .int v3)] [] σ (k18 v3 σ)) (v3 : Int32) (σ : Sto) : VV X E code 4 eB 1582 [(0, .ref (E.2.1 999)), (1, .ref (E.2.1 0)), (2, .ref (E.2.1 48)), (3, .int v3)] [] σ (B_La_law_1582 L xs k18 v3 σ) := by
  unfold B_La_law_1582
  refine v_aload_n 1 g d_La_law_1582 rfl ?_
  refine v_aload_n 0 g d_La_law_1583 rfl ?_
  refine v_iload_n 3 g d_La_law_1584 rfl ?_
  refine v_iconst (v := (1 : Int32)) g d_La_law_1585 (by decide +kernel) ?_
  refine v_iadd g d_La_law_1586 ?_
  refine v_sld hX g d_La_law_1587 (fun _ => ?_)
  refine v_aload_n 0 g d_La_law_1588 rfl ?_
  refine v_iload_n 3 g d_La_law_1589 rfl ?_
  refine v_iconst (v := (2 : Int32)) g d_La_law_1590 (by decide +kernel) ?_
  refine v_iadd g d_La_law_1591 ?_
  refine v_sld hX g d_La_law_1592 (fun _ => ?_)
  refine v_aload_n 0 g d_La_law_1593 rfl ?_
  refine v_iload_n 3 g d_La_law_1594 rfl ?_
  refine v_iconst (v := (3 : Int32)) g d_La_law_1595 (by decide +kernel) ?_
  refine v_iadd g d_La_law_1596 ?_
  refine v_sld hX g d_La_law_1597 (fun _ => ?_)
  refine v_aload_n 0 g d_La_law_1598 rfl ?_
  refine v_iload_n 3 g d_La_law_1599 rfl ?_
  refine v_iconst (v := (4 : Int32)) g d_La_law_1600 (by decide +kernel) ?_
  refine v_iadd g d_La_law_1601 ?_
  refine v_sld hX g d_La_law_1602 (fun _ => ?_)
  refine v_aload_n 0 g d_La_law_1603 rfl ?_
  refine v_iload_n 3 g d_La_law_1604 rfl ?_
  refine v_iconst (v := (5 : Int32)) g d_La_law_1605 (by decide +kernel) ?_
  refine v_iadd g d_La_law_1606 ?_
  refine v_sld hX g d_La_law_1607 (fun _ => ?_)
  refine v_i2l g d_La_law_1608 ?_
  refine v_bipush (v := (32 : Int32)) g d_La_law_1609 (by decide +kernel) ?_
  refine v_lshl g d_La_law_1611 ?_
  refine v_aload_n 0 g d_La_law_1612 rfl ?_
  refine v_iload_n 3 g d_La_law_1613 rfl ?_
  refine v_bipush (v := (6 : Int32)) g d_La_law_1614 (by decide +kernel) ?_
  refine v_iadd g d_La_law_1616 ?_
  refine v_sld hX g d_La_law_1617 (fun _ => ?_)
  refine v_i2l g d_La_law_1618 ?_
  refine v_ldc2 (v := (4294967295 : Int64)) g (m1 1567 (by decide +kernel) (by decide +kernel)) d_La_law_1619 ?_
  refine v_land g d_La_law_1622 ?_
  refine v_lor g d_La_law_1623 ?_
  refine v_callI (r_V (rest := []) [.int (xs (Int32.toNatClampNeg (v3 + (1 : Int32)))), .int (xs (Int32.toNatClampNeg (v3 + (2 : Int32)))), .int (xs (Int32.toNatClampNeg (v3 + (3 : Int32)))), .int (xs (Int32.toNatClampNeg (v3 + (4 : Int32)))), .long ((lsh (Int32.toInt64 (xs (Int32.toNatClampNeg (v3 + (5 : Int32))))) (32 : Int32)) ||| ((Int32.toInt64 (xs (Int32.toNatClampNeg (v3 + (6 : Int32))))) &&& (4294967295 : Int64)))] g (m1 705 (by decide +kernel) (by decide +kernel)) yv_FR_prove rfl (fun r σ1 h => sp_FR_prove g.2.2.1  h) rfl rfl (by decide) (Nat.le_of_ble_eq_true rfl) d_La_law_1624) (fun q43 => ?_)
  refine v_aload_n 2 g d_La_law_1627 rfl ?_
  refine v_aload_n 0 g d_La_law_1628 rfl ?_
  refine v_iload_n 3 g d_La_law_1629 rfl ?_
  refine v_iconst (v := (1 : Int32)) g d_La_law_1630 (by decide +kernel) ?_
  refine v_iadd g d_La_law_1631 ?_
  refine v_sld hX g d_La_law_1632 (fun _ => ?_)
  refine v_aload_n 0 g d_La_law_1633 rfl ?_
  refine v_iload_n 3 g d_La_law_1634 rfl ?_
  refine v_iconst (v := (2 : Int32)) g d_La_law_1635 (by decide +kernel) ?_
  refine v_iadd g d_La_law_1636 ?_
  refine v_sld hX g d_La_law_1637 (fun _ => ?_)
  refine v_aload_n 0 g d_La_law_1638 rfl ?_
  refine v_iload_n 3 g d_La_law_1639 rfl ?_
  refine v_iconst (v := (3 : Int32)) g d_La_law_1640 (by decide +kernel) ?_
  refine v_iadd g d_La_law_1641 ?_
  refine v_sld hX g d_La_law_1642 (fun _ => ?_)
  refine v_aload_n 0 g d_La_law_1643 rfl ?_
  refine v_iload_n 3 g d_La_law_1644 rfl ?_
  refine v_iconst (v := (4 : Int32)) g d_La_law_1645 (by decide +kernel) ?_
  refine v_iadd g d_La_law_1646 ?_
  refine v_sld hX g d_La_law_1647 (fun _ => ?_)
  refine v_aload_n 0 g d_La_law_1648 rfl ?_
  refine v_iload_n 3 g d_La_law_1649 rfl ?_
  refine v_iconst (v := (5 : Int32)) g d_La_law_1650 (by decide +kernel) ?_
  refine v_iadd g d_La_law_1651 ?_
  refine v_sld hX g d_La_law_1652 (fun _ => ?_)
  refine v_i2l g d_La_law_1653 ?_
  refine v_bipush (v := (32 : Int32)) g d_La_law_1654 (by decide +kernel) ?_
  refine v_lshl g d_La_law_1656 ?_
  refine v_aload_n 0 g d_La_law_1657 rfl ?_
  refine v_iload_n 3 g d_La_law_1658 rfl ?_
  refine v_bipush (v := (6 : Int32)) g d_La_law_1659 (by decide +kernel) ?_
  refine v_iadd g d_La_law_1661 ?_
  refine v_sld hX g d_La_law_1662 (fun _ => ?_)
  refine v_i2l g d_La_law_1663 ?_
  refine v_ldc2 (v := (4294967295 : Int64)) g (m1 1567 (by decide +kernel) (by decide +kernel)) d_La_law_1664 ?_
  refine v_land g d_La_law_1667 ?_
  refine v_lor g d_La_law_1668 ?_
  refine v_callI (r_V (rest := [.int q43.1]) [.int (xs (Int32.toNatClampNeg (v3 + (1 : Int32)))), .int (xs (Int32.toNatClampNeg (v3 + (2 : Int32)))), .int (xs (Int32.toNatClampNeg (v3 + (3 : Int32)))), .int (xs (Int32.toNatClampNeg (v3 + (4 : Int32)))), .long ((lsh (Int32.toInt64 (xs (Int32.toNatClampNeg (v3 + (5 : Int32))))) (32 : Int32)) ||| ((Int32.toInt64 (xs (Int32.toNatClampNeg (v3 + (6 : Int32))))) &&& (4294967295 : Int64)))] g (m1 1381 (by decide +kernel) (by decide +kernel)) yv_Mo_prove rfl (fun r σ1 h => sp_Mo_prove g.2.2.1  h) rfl rfl (by decide) (Nat.le_of_ble_eq_true rfl) d_La_law_1669) (fun q44 => ?_)
  refine v_icmp_eq 2686 g d_La_law_1672 (by decide) (fun _ => ?_) (fun _ => ?_)
  · exact v_sub [0,1,2,3] rfl (vB_La_law_2686 hX g hk18 v3 q44.2)
  · refine v_iconst (v := (0 : Int32)) g d_La_law_1675 (by decide +kernel) ?_
    exact v_ret d_La_law_1676 rfl
theorem d_La_law_1677 : decode code 1677 = .ok (.aload_n 1, 1) := by decide +kernel
theorem d_La_law_1678 : decode code 1678 = .ok (.aload_n 0, 1) := by decide +kernel
theorem d_La_law_1679 : decode code 1679 = .ok (.iload_n 3, 1) := by decide +kernel
theorem d_La_law_1680 : decode code 1680 = .ok (.iconst 1, 1) := by decide +kernel
theorem d_La_law_1681 : decode code 1681 = .ok (.iadd, 1) := by decide +kernel
theorem d_La_law_1682 : decode code 1682 = .ok (.iaload, 1) := by decide +kernel
theorem d_La_law_1683 : decode code 1683 = .ok (.invokevirtual 116, 3) := by decide +kernel
theorem d_La_law_1686 : decode code 1686 = .ok (.aload_n 2, 1) := by decide +kernel
theorem d_La_law_1687 : decode code 1687 = .ok (.aload_n 0, 1) := by decide +kernel
theorem d_La_law_1688 : decode code 1688 = .ok (.iload_n 3, 1) := by decide +kernel
theorem d_La_law_1689 : decode code 1689 = .ok (.iconst 1, 1) := by decide +kernel
theorem d_La_law_1690 : decode code 1690 = .ok (.iadd, 1) := by decide +kernel
theorem d_La_law_1691 : decode code 1691 = .ok (.iaload, 1) := by decide +kernel
theorem d_La_law_1692 : decode code 1692 = .ok (.invokevirtual 120, 3) := by decide +kernel
theorem d_La_law_1695 : decode code 1695 = .ok (.if_icmp .eq 991, 3) := by decide +kernel
theorem d_La_law_1698 : decode code 1698 = .ok (.iconst 0, 1) := by decide +kernel
theorem d_La_law_1699 : decode code 1699 = .ok (.ireturn, 1) := by decide +kernel
def B_La_law_1677 (L : Nat) (xs : Nat → Int32) (k18 : Int32 → Sto → Option (Bool × Sto)) (v3 : Int32) (σ : Sto) : Option (Bool × Sto) :=
  (if inb (v3 + (1 : Int32)) L = true then ((f_FR_proof (xs (Int32.toNatClampNeg (v3 + (1 : Int32)))) σ).bind fun q45 => (if inb (v3 + (1 : Int32)) L = true then ((f_Mo_proof (xs (Int32.toNatClampNeg (v3 + (1 : Int32)))) q45.2).bind fun q46 => (if q45.1 = q46.1 then B_La_law_2686 L xs k18 v3 q46.2
 else some (false, q46.2))) else none)) else none)
set_option maxHeartbeats 4000000 in
set_option maxRecDepth 100000 in
theorem vB_La_law_1677 {X : Xt} {E : En} {L : Nat} {xs : Nat → Int32} (hX : SX X E L xs) (g : GG X E 200 code R_La 4) {k18 : Int32 → Sto → Option (Bool × Sto)} (hk18 : ∀ (v3 : Int32) (σ : Sto), VV X E code 4 eB 18 [(0, .ref (E.2.1 999)), (1, .ref (E.2.1 0)), (2, .ref (E.2.1 48)), (3, .int v3)] [] σ (k18 v3 σ)) (v3 : Int32) (σ : Sto) : VV X E code 4 eB 1677 [(0, .ref (E.2.1 999)), (1, .ref (E.2.1 0)), (2, .ref (E.2.1 48)), (3, .int v3)] [] σ (B_La_law_1677 L xs k18 v3 σ) := by
  unfold B_La_law_1677
  refine v_aload_n 1 g d_La_law_1677 rfl ?_
  refine v_aload_n 0 g d_La_law_1678 rfl ?_
  refine v_iload_n 3 g d_La_law_1679 rfl ?_
  refine v_iconst (v := (1 : Int32)) g d_La_law_1680 (by decide +kernel) ?_
  refine v_iadd g d_La_law_1681 ?_
  refine v_sld hX g d_La_law_1682 (fun _ => ?_)
  refine v_callI (r_V (rest := []) [.int (xs (Int32.toNatClampNeg (v3 + (1 : Int32))))] g (m1 737 (by decide +kernel) (by decide +kernel)) yv_FR_proof rfl (fun r σ1 h => sp_FR_proof g.2.2.1  h) rfl rfl (by decide) (Nat.le_of_ble_eq_true rfl) d_La_law_1683) (fun q45 => ?_)
  refine v_aload_n 2 g d_La_law_1686 rfl ?_
  refine v_aload_n 0 g d_La_law_1687 rfl ?_
  refine v_iload_n 3 g d_La_law_1688 rfl ?_
  refine v_iconst (v := (1 : Int32)) g d_La_law_1689 (by decide +kernel) ?_
  refine v_iadd g d_La_law_1690 ?_
  refine v_sld hX g d_La_law_1691 (fun _ => ?_)
  refine v_callI (r_V (rest := [.int q45.1]) [.int (xs (Int32.toNatClampNeg (v3 + (1 : Int32))))] g (m1 1393 (by decide +kernel) (by decide +kernel)) yv_Mo_proof rfl (fun r σ1 h => sp_Mo_proof g.2.2.1  h) rfl rfl (by decide) (Nat.le_of_ble_eq_true rfl) d_La_law_1692) (fun q46 => ?_)
  refine v_icmp_eq 2686 g d_La_law_1695 (by decide) (fun _ => ?_) (fun _ => ?_)
  · exact v_sub [0,1,2,3] rfl (vB_La_law_2686 hX g hk18 v3 q46.2)
  · refine v_iconst (v := (0 : Int32)) g d_La_law_1698 (by decide +kernel) ?_
    exact v_ret d_La_law_1699 rfl
theorem d_La_law_1700 : decode code 1700 = .ok (.aload_n 1, 1) := by decide +kernel
theorem d_La_law_1701 : decode code 1701 = .ok (.aload_n 0, 1) := by decide +kernel
theorem d_La_law_1702 : decode code 1702 = .ok (.iload_n 3, 1) := by decide +kernel
theorem d_La_law_1703 : decode code 1703 = .ok (.iconst 1, 1) := by decide +kernel
theorem d_La_law_1704 : decode code 1704 = .ok (.iadd, 1) := by decide +kernel
theorem d_La_law_1705 : decode code 1705 = .ok (.iaload, 1) := by decide +kernel
theorem d_La_law_1706 : decode code 1706 = .ok (.aload_n 0, 1) := by decide +kernel
theorem d_La_law_1707 : decode code 1707 = .ok (.iload_n 3, 1) := by decide +kernel
theorem d_La_law_1708 : decode code 1708 = .ok (.iconst 2, 1) := by decide +kernel
theorem d_La_law_1709 : decode code 1709 = .ok (.iadd, 1) := by decide +kernel
theorem d_La_law_1710 : decode code 1710 = .ok (.iaload, 1) := by decide +kernel
theorem d_La_law_1711 : decode code 1711 = .ok (.aload_n 0, 1) := by decide +kernel
theorem d_La_law_1712 : decode code 1712 = .ok (.iload_n 3, 1) := by decide +kernel
theorem d_La_law_1713 : decode code 1713 = .ok (.iconst 3, 1) := by decide +kernel
theorem d_La_law_1714 : decode code 1714 = .ok (.iadd, 1) := by decide +kernel
theorem d_La_law_1715 : decode code 1715 = .ok (.iaload, 1) := by decide +kernel
theorem d_La_law_1716 : decode code 1716 = .ok (.aload_n 0, 1) := by decide +kernel
theorem d_La_law_1717 : decode code 1717 = .ok (.iload_n 3, 1) := by decide +kernel
theorem d_La_law_1718 : decode code 1718 = .ok (.iconst 4, 1) := by decide +kernel
theorem d_La_law_1719 : decode code 1719 = .ok (.iadd, 1) := by decide +kernel
theorem d_La_law_1720 : decode code 1720 = .ok (.iaload, 1) := by decide +kernel
theorem d_La_law_1721 : decode code 1721 = .ok (.aload_n 0, 1) := by decide +kernel
theorem d_La_law_1722 : decode code 1722 = .ok (.iload_n 3, 1) := by decide +kernel
theorem d_La_law_1723 : decode code 1723 = .ok (.iconst 5, 1) := by decide +kernel
theorem d_La_law_1724 : decode code 1724 = .ok (.iadd, 1) := by decide +kernel
theorem d_La_law_1725 : decode code 1725 = .ok (.iaload, 1) := by decide +kernel
theorem d_La_law_1726 : decode code 1726 = .ok (.aload_n 0, 1) := by decide +kernel
theorem d_La_law_1727 : decode code 1727 = .ok (.iload_n 3, 1) := by decide +kernel
theorem d_La_law_1728 : decode code 1728 = .ok (.bipush 6, 2) := by decide +kernel
theorem d_La_law_1730 : decode code 1730 = .ok (.iadd, 1) := by decide +kernel
theorem d_La_law_1731 : decode code 1731 = .ok (.iaload, 1) := by decide +kernel
theorem d_La_law_1732 : decode code 1732 = .ok (.i2l, 1) := by decide +kernel
theorem d_La_law_1733 : decode code 1733 = .ok (.bipush 32, 2) := by decide +kernel
theorem d_La_law_1735 : decode code 1735 = .ok (.lshl, 1) := by decide +kernel
theorem d_La_law_1736 : decode code 1736 = .ok (.aload_n 0, 1) := by decide +kernel
theorem d_La_law_1737 : decode code 1737 = .ok (.iload_n 3, 1) := by decide +kernel
theorem d_La_law_1738 : decode code 1738 = .ok (.bipush 7, 2) := by decide +kernel
theorem d_La_law_1740 : decode code 1740 = .ok (.iadd, 1) := by decide +kernel
theorem d_La_law_1741 : decode code 1741 = .ok (.iaload, 1) := by decide +kernel
theorem d_La_law_1742 : decode code 1742 = .ok (.i2l, 1) := by decide +kernel
theorem d_La_law_1743 : decode code 1743 = .ok (.ldc2_w 35, 3) := by decide +kernel
theorem d_La_law_1746 : decode code 1746 = .ok (.land, 1) := by decide +kernel
theorem d_La_law_1747 : decode code 1747 = .ok (.lor, 1) := by decide +kernel
theorem d_La_law_1748 : decode code 1748 = .ok (.invokevirtual 121, 3) := by decide +kernel
theorem d_La_law_1751 : decode code 1751 = .ok (.aload_n 2, 1) := by decide +kernel
theorem d_La_law_1752 : decode code 1752 = .ok (.aload_n 0, 1) := by decide +kernel
theorem d_La_law_1753 : decode code 1753 = .ok (.iload_n 3, 1) := by decide +kernel
theorem d_La_law_1754 : decode code 1754 = .ok (.iconst 1, 1) := by decide +kernel
theorem d_La_law_1755 : decode code 1755 = .ok (.iadd, 1) := by decide +kernel
theorem d_La_law_1756 : decode code 1756 = .ok (.iaload, 1) := by decide +kernel
theorem d_La_law_1757 : decode code 1757 = .ok (.aload_n 0, 1) := by decide +kernel
theorem d_La_law_1758 : decode code 1758 = .ok (.iload_n 3, 1) := by decide +kernel
theorem d_La_law_1759 : decode code 1759 = .ok (.iconst 2, 1) := by decide +kernel
theorem d_La_law_1760 : decode code 1760 = .ok (.iadd, 1) := by decide +kernel
theorem d_La_law_1761 : decode code 1761 = .ok (.iaload, 1) := by decide +kernel
theorem d_La_law_1762 : decode code 1762 = .ok (.aload_n 0, 1) := by decide +kernel
theorem d_La_law_1763 : decode code 1763 = .ok (.iload_n 3, 1) := by decide +kernel
theorem d_La_law_1764 : decode code 1764 = .ok (.iconst 3, 1) := by decide +kernel
theorem d_La_law_1765 : decode code 1765 = .ok (.iadd, 1) := by decide +kernel
theorem d_La_law_1766 : decode code 1766 = .ok (.iaload, 1) := by decide +kernel
theorem d_La_law_1767 : decode code 1767 = .ok (.aload_n 0, 1) := by decide +kernel
theorem d_La_law_1768 : decode code 1768 = .ok (.iload_n 3, 1) := by decide +kernel
theorem d_La_law_1769 : decode code 1769 = .ok (.iconst 4, 1) := by decide +kernel
theorem d_La_law_1770 : decode code 1770 = .ok (.iadd, 1) := by decide +kernel
theorem d_La_law_1771 : decode code 1771 = .ok (.iaload, 1) := by decide +kernel
theorem d_La_law_1772 : decode code 1772 = .ok (.aload_n 0, 1) := by decide +kernel
theorem d_La_law_1773 : decode code 1773 = .ok (.iload_n 3, 1) := by decide +kernel
theorem d_La_law_1774 : decode code 1774 = .ok (.iconst 5, 1) := by decide +kernel
theorem d_La_law_1775 : decode code 1775 = .ok (.iadd, 1) := by decide +kernel
theorem d_La_law_1776 : decode code 1776 = .ok (.iaload, 1) := by decide +kernel
theorem d_La_law_1777 : decode code 1777 = .ok (.aload_n 0, 1) := by decide +kernel
theorem d_La_law_1778 : decode code 1778 = .ok (.iload_n 3, 1) := by decide +kernel
theorem d_La_law_1779 : decode code 1779 = .ok (.bipush 6, 2) := by decide +kernel
theorem d_La_law_1781 : decode code 1781 = .ok (.iadd, 1) := by decide +kernel
theorem d_La_law_1782 : decode code 1782 = .ok (.iaload, 1) := by decide +kernel
theorem d_La_law_1783 : decode code 1783 = .ok (.i2l, 1) := by decide +kernel
theorem d_La_law_1784 : decode code 1784 = .ok (.bipush 32, 2) := by decide +kernel
theorem d_La_law_1786 : decode code 1786 = .ok (.lshl, 1) := by decide +kernel
theorem d_La_law_1787 : decode code 1787 = .ok (.aload_n 0, 1) := by decide +kernel
theorem d_La_law_1788 : decode code 1788 = .ok (.iload_n 3, 1) := by decide +kernel
theorem d_La_law_1789 : decode code 1789 = .ok (.bipush 7, 2) := by decide +kernel
theorem d_La_law_1791 : decode code 1791 = .ok (.iadd, 1) := by decide +kernel
theorem d_La_law_1792 : decode code 1792 = .ok (.iaload, 1) := by decide +kernel
theorem d_La_law_1793 : decode code 1793 = .ok (.i2l, 1) := by decide +kernel
theorem d_La_law_1794 : decode code 1794 = .ok (.ldc2_w 35, 3) := by decide +kernel
theorem d_La_law_1797 : decode code 1797 = .ok (.land, 1) := by decide +kernel
theorem d_La_law_1798 : decode code 1798 = .ok (.lor, 1) := by decide +kernel
theorem d_La_law_1799 : decode code 1799 = .ok (.invokevirtual 125, 3) := by decide +kernel
theorem d_La_law_1802 : decode code 1802 = .ok (.if_icmp .eq 884, 3) := by decide +kernel
theorem d_La_law_1805 : decode code 1805 = .ok (.iconst 0, 1) := by decide +kernel
theorem d_La_law_1806 : decode code 1806 = .ok (.ireturn, 1) := by decide +kernel
def B_La_law_1700 (L : Nat) (xs : Nat → Int32) (k18 : Int32 → Sto → Option (Bool × Sto)) (v3 : Int32) (σ : Sto) : Option (Bool × Sto) :=
  (if inb (v3 + (1 : Int32)) L = true then (if inb (v3 + (2 : Int32)) L = true then (if inb (v3 + (3 : Int32)) L = true then (if inb (v3 + (4 : Int32)) L = true then (if inb (v3 + (5 : Int32)) L = true then (if inb (v3 + (6 : Int32)) L = true then (if inb (v3 + (7 : Int32)) L = true then ((f_FR_check (xs (Int32.toNatClampNeg (v3 + (1 : Int32)))) (xs (Int32.toNatClampNeg (v3 + (2 : Int32)))) (xs (Int32.toNatClampNeg (v3 + (3 : Int32)))) (xs (Int32.toNatClampNeg (v3 + (4 : Int32)))) (xs (Int32.toNatClampNeg (v3 + (5 : Int32)))) ((lsh (Int32.toInt64 (xs (Int32.toNatClampNeg (v3 + (6 : Int32))))) (32 : Int32)) ||| ((Int32.toInt64 (xs (Int32.toNatClampNeg (v3 + (7 : Int32))))) &&& (4294967295 : Int64))) σ).bind fun q47 => (if inb (v3 + (1 : Int32)) L = true then (if inb (v3 + (2 : Int32)) L = true then (if inb (v3 + (3 : Int32)) L = true then (if inb (v3 + (4 : Int32)) L = true then (if inb (v3 + (5 : Int32)) L = true then (if inb (v3 + (6 : Int32)) L = true then (if inb (v3 + (7 : Int32)) L = true then ((f_Mo_check (xs (Int32.toNatClampNeg (v3 + (1 : Int32)))) (xs (Int32.toNatClampNeg (v3 + (2 : Int32)))) (xs (Int32.toNatClampNeg (v3 + (3 : Int32)))) (xs (Int32.toNatClampNeg (v3 + (4 : Int32)))) (xs (Int32.toNatClampNeg (v3 + (5 : Int32)))) ((lsh (Int32.toInt64 (xs (Int32.toNatClampNeg (v3 + (6 : Int32))))) (32 : Int32)) ||| ((Int32.toInt64 (xs (Int32.toNatClampNeg (v3 + (7 : Int32))))) &&& (4294967295 : Int64))) q47.2).bind fun q48 => (if q47.1 = q48.1 then B_La_law_2686 L xs k18 v3 q48.2
 else some (false, q48.2))) else none) else none) else none) else none) else none) else none) else none)) else none) else none) else none) else none) else none) else none) else none)
set_option maxHeartbeats 4000000 in
set_option maxRecDepth 100000 in
theorem vB_La_law_1700 {X : Xt} {E : En} {L : Nat} {xs : Nat → Int32} (hX : SX X E L xs) (g : GG X E 200 code R_La 4) {k18 : Int32 → Sto → Option (Bool × Sto)} (hk18 : ∀ (v3 : Int32) (σ : Sto), VV X E code 4 eB 18 [(0, .ref (E.2.1 999)), (1, .ref (E.2.1 0)), (2, .ref (E.2.1 48)), (3, .int v3)] [] σ (k18 v3 σ)) (v3 : Int32) (σ : Sto) : VV X E code 4 eB 1700 [(0, .ref (E.2.1 999)), (1, .ref (E.2.1 0)), (2, .ref (E.2.1 48)), (3, .int v3)] [] σ (B_La_law_1700 L xs k18 v3 σ) := by
  unfold B_La_law_1700
  refine v_aload_n 1 g d_La_law_1700 rfl ?_
  refine v_aload_n 0 g d_La_law_1701 rfl ?_
  refine v_iload_n 3 g d_La_law_1702 rfl ?_
  refine v_iconst (v := (1 : Int32)) g d_La_law_1703 (by decide +kernel) ?_
  refine v_iadd g d_La_law_1704 ?_
  refine v_sld hX g d_La_law_1705 (fun _ => ?_)
  refine v_aload_n 0 g d_La_law_1706 rfl ?_
  refine v_iload_n 3 g d_La_law_1707 rfl ?_
  refine v_iconst (v := (2 : Int32)) g d_La_law_1708 (by decide +kernel) ?_
  refine v_iadd g d_La_law_1709 ?_
  refine v_sld hX g d_La_law_1710 (fun _ => ?_)
  refine v_aload_n 0 g d_La_law_1711 rfl ?_
  refine v_iload_n 3 g d_La_law_1712 rfl ?_
  refine v_iconst (v := (3 : Int32)) g d_La_law_1713 (by decide +kernel) ?_
  refine v_iadd g d_La_law_1714 ?_
  refine v_sld hX g d_La_law_1715 (fun _ => ?_)
  refine v_aload_n 0 g d_La_law_1716 rfl ?_
  refine v_iload_n 3 g d_La_law_1717 rfl ?_
  refine v_iconst (v := (4 : Int32)) g d_La_law_1718 (by decide +kernel) ?_
  refine v_iadd g d_La_law_1719 ?_
  refine v_sld hX g d_La_law_1720 (fun _ => ?_)
  refine v_aload_n 0 g d_La_law_1721 rfl ?_
  refine v_iload_n 3 g d_La_law_1722 rfl ?_
  refine v_iconst (v := (5 : Int32)) g d_La_law_1723 (by decide +kernel) ?_
  refine v_iadd g d_La_law_1724 ?_
  refine v_sld hX g d_La_law_1725 (fun _ => ?_)
  refine v_aload_n 0 g d_La_law_1726 rfl ?_
  refine v_iload_n 3 g d_La_law_1727 rfl ?_
  refine v_bipush (v := (6 : Int32)) g d_La_law_1728 (by decide +kernel) ?_
  refine v_iadd g d_La_law_1730 ?_
  refine v_sld hX g d_La_law_1731 (fun _ => ?_)
  refine v_i2l g d_La_law_1732 ?_
  refine v_bipush (v := (32 : Int32)) g d_La_law_1733 (by decide +kernel) ?_
  refine v_lshl g d_La_law_1735 ?_
  refine v_aload_n 0 g d_La_law_1736 rfl ?_
  refine v_iload_n 3 g d_La_law_1737 rfl ?_
  refine v_bipush (v := (7 : Int32)) g d_La_law_1738 (by decide +kernel) ?_
  refine v_iadd g d_La_law_1740 ?_
  refine v_sld hX g d_La_law_1741 (fun _ => ?_)
  refine v_i2l g d_La_law_1742 ?_
  refine v_ldc2 (v := (4294967295 : Int64)) g (m1 1567 (by decide +kernel) (by decide +kernel)) d_La_law_1743 ?_
  refine v_land g d_La_law_1746 ?_
  refine v_lor g d_La_law_1747 ?_
  refine v_callI (r_V (rest := []) [.int (xs (Int32.toNatClampNeg (v3 + (1 : Int32)))), .int (xs (Int32.toNatClampNeg (v3 + (2 : Int32)))), .int (xs (Int32.toNatClampNeg (v3 + (3 : Int32)))), .int (xs (Int32.toNatClampNeg (v3 + (4 : Int32)))), .int (xs (Int32.toNatClampNeg (v3 + (5 : Int32)))), .long ((lsh (Int32.toInt64 (xs (Int32.toNatClampNeg (v3 + (6 : Int32))))) (32 : Int32)) ||| ((Int32.toInt64 (xs (Int32.toNatClampNeg (v3 + (7 : Int32))))) &&& (4294967295 : Int64)))] g (m1 741 (by decide +kernel) (by decide +kernel)) yv_FR_check rfl (fun r σ1 h => sp_FR_check g.2.2.1  h) rfl rfl (by decide) (Nat.le_of_ble_eq_true rfl) d_La_law_1748) (fun q47 => ?_)
  refine v_aload_n 2 g d_La_law_1751 rfl ?_
  refine v_aload_n 0 g d_La_law_1752 rfl ?_
  refine v_iload_n 3 g d_La_law_1753 rfl ?_
  refine v_iconst (v := (1 : Int32)) g d_La_law_1754 (by decide +kernel) ?_
  refine v_iadd g d_La_law_1755 ?_
  refine v_sld hX g d_La_law_1756 (fun _ => ?_)
  refine v_aload_n 0 g d_La_law_1757 rfl ?_
  refine v_iload_n 3 g d_La_law_1758 rfl ?_
  refine v_iconst (v := (2 : Int32)) g d_La_law_1759 (by decide +kernel) ?_
  refine v_iadd g d_La_law_1760 ?_
  refine v_sld hX g d_La_law_1761 (fun _ => ?_)
  refine v_aload_n 0 g d_La_law_1762 rfl ?_
  refine v_iload_n 3 g d_La_law_1763 rfl ?_
  refine v_iconst (v := (3 : Int32)) g d_La_law_1764 (by decide +kernel) ?_
  refine v_iadd g d_La_law_1765 ?_
  refine v_sld hX g d_La_law_1766 (fun _ => ?_)
  refine v_aload_n 0 g d_La_law_1767 rfl ?_
  refine v_iload_n 3 g d_La_law_1768 rfl ?_
  refine v_iconst (v := (4 : Int32)) g d_La_law_1769 (by decide +kernel) ?_
  refine v_iadd g d_La_law_1770 ?_
  refine v_sld hX g d_La_law_1771 (fun _ => ?_)
  refine v_aload_n 0 g d_La_law_1772 rfl ?_
  refine v_iload_n 3 g d_La_law_1773 rfl ?_
  refine v_iconst (v := (5 : Int32)) g d_La_law_1774 (by decide +kernel) ?_
  refine v_iadd g d_La_law_1775 ?_
  refine v_sld hX g d_La_law_1776 (fun _ => ?_)
  refine v_aload_n 0 g d_La_law_1777 rfl ?_
  refine v_iload_n 3 g d_La_law_1778 rfl ?_
  refine v_bipush (v := (6 : Int32)) g d_La_law_1779 (by decide +kernel) ?_
  refine v_iadd g d_La_law_1781 ?_
  refine v_sld hX g d_La_law_1782 (fun _ => ?_)
  refine v_i2l g d_La_law_1783 ?_
  refine v_bipush (v := (32 : Int32)) g d_La_law_1784 (by decide +kernel) ?_
  refine v_lshl g d_La_law_1786 ?_
  refine v_aload_n 0 g d_La_law_1787 rfl ?_
  refine v_iload_n 3 g d_La_law_1788 rfl ?_
  refine v_bipush (v := (7 : Int32)) g d_La_law_1789 (by decide +kernel) ?_
  refine v_iadd g d_La_law_1791 ?_
  refine v_sld hX g d_La_law_1792 (fun _ => ?_)
  refine v_i2l g d_La_law_1793 ?_
  refine v_ldc2 (v := (4294967295 : Int64)) g (m1 1567 (by decide +kernel) (by decide +kernel)) d_La_law_1794 ?_
  refine v_land g d_La_law_1797 ?_
  refine v_lor g d_La_law_1798 ?_
  refine v_callI (r_V (rest := [.int q47.1]) [.int (xs (Int32.toNatClampNeg (v3 + (1 : Int32)))), .int (xs (Int32.toNatClampNeg (v3 + (2 : Int32)))), .int (xs (Int32.toNatClampNeg (v3 + (3 : Int32)))), .int (xs (Int32.toNatClampNeg (v3 + (4 : Int32)))), .int (xs (Int32.toNatClampNeg (v3 + (5 : Int32)))), .long ((lsh (Int32.toInt64 (xs (Int32.toNatClampNeg (v3 + (6 : Int32))))) (32 : Int32)) ||| ((Int32.toInt64 (xs (Int32.toNatClampNeg (v3 + (7 : Int32))))) &&& (4294967295 : Int64)))] g (m1 1397 (by decide +kernel) (by decide +kernel)) yv_Mo_check rfl (fun r σ1 h => sp_Mo_check g.2.2.1  h) rfl rfl (by decide) (Nat.le_of_ble_eq_true rfl) d_La_law_1799) (fun q48 => ?_)
  refine v_icmp_eq 2686 g d_La_law_1802 (by decide) (fun _ => ?_) (fun _ => ?_)
  · exact v_sub [0,1,2,3] rfl (vB_La_law_2686 hX g hk18 v3 q48.2)
  · refine v_iconst (v := (0 : Int32)) g d_La_law_1805 (by decide +kernel) ?_
    exact v_ret d_La_law_1806 rfl
theorem d_La_law_1807 : decode code 1807 = .ok (.aload_n 1, 1) := by decide +kernel
theorem d_La_law_1808 : decode code 1808 = .ok (.aload_n 0, 1) := by decide +kernel
theorem d_La_law_1809 : decode code 1809 = .ok (.iload_n 3, 1) := by decide +kernel
theorem d_La_law_1810 : decode code 1810 = .ok (.iconst 1, 1) := by decide +kernel
theorem d_La_law_1811 : decode code 1811 = .ok (.iadd, 1) := by decide +kernel
theorem d_La_law_1812 : decode code 1812 = .ok (.iaload, 1) := by decide +kernel
theorem d_La_law_1813 : decode code 1813 = .ok (.invokevirtual 126, 3) := by decide +kernel
theorem d_La_law_1816 : decode code 1816 = .ok (.aload_n 2, 1) := by decide +kernel
theorem d_La_law_1817 : decode code 1817 = .ok (.aload_n 0, 1) := by decide +kernel
theorem d_La_law_1818 : decode code 1818 = .ok (.iload_n 3, 1) := by decide +kernel
theorem d_La_law_1819 : decode code 1819 = .ok (.iconst 1, 1) := by decide +kernel
theorem d_La_law_1820 : decode code 1820 = .ok (.iadd, 1) := by decide +kernel
theorem d_La_law_1821 : decode code 1821 = .ok (.iaload, 1) := by decide +kernel
theorem d_La_law_1822 : decode code 1822 = .ok (.invokevirtual 129, 3) := by decide +kernel
theorem d_La_law_1825 : decode code 1825 = .ok (.if_icmp .eq 861, 3) := by decide +kernel
theorem d_La_law_1828 : decode code 1828 = .ok (.iconst 0, 1) := by decide +kernel
theorem d_La_law_1829 : decode code 1829 = .ok (.ireturn, 1) := by decide +kernel
def B_La_law_1807 (L : Nat) (xs : Nat → Int32) (k18 : Int32 → Sto → Option (Bool × Sto)) (v3 : Int32) (σ : Sto) : Option (Bool × Sto) :=
  (if inb (v3 + (1 : Int32)) L = true then ((f_FR_writes (xs (Int32.toNatClampNeg (v3 + (1 : Int32)))) σ).bind fun q49 => (if inb (v3 + (1 : Int32)) L = true then ((f_Mo_writes (xs (Int32.toNatClampNeg (v3 + (1 : Int32)))) q49.2).bind fun q50 => (if q49.1 = q50.1 then B_La_law_2686 L xs k18 v3 q50.2
 else some (false, q50.2))) else none)) else none)
set_option maxHeartbeats 4000000 in
set_option maxRecDepth 100000 in
theorem vB_La_law_1807 {X : Xt} {E : En} {L : Nat} {xs : Nat → Int32} (hX : SX X E L xs) (g : GG X E 200 code R_La 4) {k18 : Int32 → Sto → Option (Bool × Sto)} (hk18 : ∀ (v3 : Int32) (σ : Sto), VV X E code 4 eB 18 [(0, .ref (E.2.1 999)), (1, .ref (E.2.1 0)), (2, .ref (E.2.1 48)), (3, .int v3)] [] σ (k18 v3 σ)) (v3 : Int32) (σ : Sto) : VV X E code 4 eB 1807 [(0, .ref (E.2.1 999)), (1, .ref (E.2.1 0)), (2, .ref (E.2.1 48)), (3, .int v3)] [] σ (B_La_law_1807 L xs k18 v3 σ) := by
  unfold B_La_law_1807
  refine v_aload_n 1 g d_La_law_1807 rfl ?_
  refine v_aload_n 0 g d_La_law_1808 rfl ?_
  refine v_iload_n 3 g d_La_law_1809 rfl ?_
  refine v_iconst (v := (1 : Int32)) g d_La_law_1810 (by decide +kernel) ?_
  refine v_iadd g d_La_law_1811 ?_
  refine v_sld hX g d_La_law_1812 (fun _ => ?_)
  refine v_callI (r_V (rest := []) [.int (xs (Int32.toNatClampNeg (v3 + (1 : Int32))))] g (m1 766 (by decide +kernel) (by decide +kernel)) yv_FR_writes rfl (fun r σ1 h => sp_FR_writes g.2.2.1  h) rfl rfl (by decide) (Nat.le_of_ble_eq_true rfl) d_La_law_1813) (fun q49 => ?_)
  refine v_aload_n 2 g d_La_law_1816 rfl ?_
  refine v_aload_n 0 g d_La_law_1817 rfl ?_
  refine v_iload_n 3 g d_La_law_1818 rfl ?_
  refine v_iconst (v := (1 : Int32)) g d_La_law_1819 (by decide +kernel) ?_
  refine v_iadd g d_La_law_1820 ?_
  refine v_sld hX g d_La_law_1821 (fun _ => ?_)
  refine v_callI (r_V (rest := [.int q49.1]) [.int (xs (Int32.toNatClampNeg (v3 + (1 : Int32))))] g (m1 1408 (by decide +kernel) (by decide +kernel)) yv_Mo_writes rfl (fun r σ1 h => sp_Mo_writes g.2.2.1  h) rfl rfl (by decide) (Nat.le_of_ble_eq_true rfl) d_La_law_1822) (fun q50 => ?_)
  refine v_icmp_eq 2686 g d_La_law_1825 (by decide) (fun _ => ?_) (fun _ => ?_)
  · exact v_sub [0,1,2,3] rfl (vB_La_law_2686 hX g hk18 v3 q50.2)
  · refine v_iconst (v := (0 : Int32)) g d_La_law_1828 (by decide +kernel) ?_
    exact v_ret d_La_law_1829 rfl
theorem d_La_law_1830 : decode code 1830 = .ok (.aload_n 1, 1) := by decide +kernel
theorem d_La_law_1831 : decode code 1831 = .ok (.aload_n 0, 1) := by decide +kernel
theorem d_La_law_1832 : decode code 1832 = .ok (.iload_n 3, 1) := by decide +kernel
theorem d_La_law_1833 : decode code 1833 = .ok (.iconst 1, 1) := by decide +kernel
theorem d_La_law_1834 : decode code 1834 = .ok (.iadd, 1) := by decide +kernel
theorem d_La_law_1835 : decode code 1835 = .ok (.iaload, 1) := by decide +kernel
theorem d_La_law_1836 : decode code 1836 = .ok (.aload_n 0, 1) := by decide +kernel
theorem d_La_law_1837 : decode code 1837 = .ok (.iload_n 3, 1) := by decide +kernel
theorem d_La_law_1838 : decode code 1838 = .ok (.iconst 2, 1) := by decide +kernel
theorem d_La_law_1839 : decode code 1839 = .ok (.iadd, 1) := by decide +kernel
theorem d_La_law_1840 : decode code 1840 = .ok (.iaload, 1) := by decide +kernel
theorem d_La_law_1841 : decode code 1841 = .ok (.aload_n 0, 1) := by decide +kernel
theorem d_La_law_1842 : decode code 1842 = .ok (.iload_n 3, 1) := by decide +kernel
theorem d_La_law_1843 : decode code 1843 = .ok (.iconst 3, 1) := by decide +kernel
theorem d_La_law_1844 : decode code 1844 = .ok (.iadd, 1) := by decide +kernel
theorem d_La_law_1845 : decode code 1845 = .ok (.iaload, 1) := by decide +kernel
theorem d_La_law_1846 : decode code 1846 = .ok (.aload_n 0, 1) := by decide +kernel
theorem d_La_law_1847 : decode code 1847 = .ok (.iload_n 3, 1) := by decide +kernel
theorem d_La_law_1848 : decode code 1848 = .ok (.iconst 4, 1) := by decide +kernel
theorem d_La_law_1849 : decode code 1849 = .ok (.iadd, 1) := by decide +kernel
theorem d_La_law_1850 : decode code 1850 = .ok (.iaload, 1) := by decide +kernel
theorem d_La_law_1851 : decode code 1851 = .ok (.i2l, 1) := by decide +kernel
theorem d_La_law_1852 : decode code 1852 = .ok (.bipush 32, 2) := by decide +kernel
theorem d_La_law_1854 : decode code 1854 = .ok (.lshl, 1) := by decide +kernel
theorem d_La_law_1855 : decode code 1855 = .ok (.aload_n 0, 1) := by decide +kernel
theorem d_La_law_1856 : decode code 1856 = .ok (.iload_n 3, 1) := by decide +kernel
theorem d_La_law_1857 : decode code 1857 = .ok (.iconst 5, 1) := by decide +kernel
theorem d_La_law_1858 : decode code 1858 = .ok (.iadd, 1) := by decide +kernel
theorem d_La_law_1859 : decode code 1859 = .ok (.iaload, 1) := by decide +kernel
theorem d_La_law_1860 : decode code 1860 = .ok (.i2l, 1) := by decide +kernel
theorem d_La_law_1861 : decode code 1861 = .ok (.ldc2_w 35, 3) := by decide +kernel
theorem d_La_law_1864 : decode code 1864 = .ok (.land, 1) := by decide +kernel
theorem d_La_law_1865 : decode code 1865 = .ok (.lor, 1) := by decide +kernel
theorem d_La_law_1866 : decode code 1866 = .ok (.invokevirtual 130, 3) := by decide +kernel
theorem d_La_law_1869 : decode code 1869 = .ok (.aload_n 2, 1) := by decide +kernel
theorem d_La_law_1870 : decode code 1870 = .ok (.aload_n 0, 1) := by decide +kernel
theorem d_La_law_1871 : decode code 1871 = .ok (.iload_n 3, 1) := by decide +kernel
theorem d_La_law_1872 : decode code 1872 = .ok (.iconst 1, 1) := by decide +kernel
theorem d_La_law_1873 : decode code 1873 = .ok (.iadd, 1) := by decide +kernel
theorem d_La_law_1874 : decode code 1874 = .ok (.iaload, 1) := by decide +kernel
theorem d_La_law_1875 : decode code 1875 = .ok (.aload_n 0, 1) := by decide +kernel
theorem d_La_law_1876 : decode code 1876 = .ok (.iload_n 3, 1) := by decide +kernel
theorem d_La_law_1877 : decode code 1877 = .ok (.iconst 2, 1) := by decide +kernel
theorem d_La_law_1878 : decode code 1878 = .ok (.iadd, 1) := by decide +kernel
theorem d_La_law_1879 : decode code 1879 = .ok (.iaload, 1) := by decide +kernel
theorem d_La_law_1880 : decode code 1880 = .ok (.aload_n 0, 1) := by decide +kernel
theorem d_La_law_1881 : decode code 1881 = .ok (.iload_n 3, 1) := by decide +kernel
theorem d_La_law_1882 : decode code 1882 = .ok (.iconst 3, 1) := by decide +kernel
theorem d_La_law_1883 : decode code 1883 = .ok (.iadd, 1) := by decide +kernel
theorem d_La_law_1884 : decode code 1884 = .ok (.iaload, 1) := by decide +kernel
theorem d_La_law_1885 : decode code 1885 = .ok (.aload_n 0, 1) := by decide +kernel
theorem d_La_law_1886 : decode code 1886 = .ok (.iload_n 3, 1) := by decide +kernel
theorem d_La_law_1887 : decode code 1887 = .ok (.iconst 4, 1) := by decide +kernel
theorem d_La_law_1888 : decode code 1888 = .ok (.iadd, 1) := by decide +kernel
theorem d_La_law_1889 : decode code 1889 = .ok (.iaload, 1) := by decide +kernel
theorem d_La_law_1890 : decode code 1890 = .ok (.i2l, 1) := by decide +kernel
theorem d_La_law_1891 : decode code 1891 = .ok (.bipush 32, 2) := by decide +kernel
theorem d_La_law_1893 : decode code 1893 = .ok (.lshl, 1) := by decide +kernel
theorem d_La_law_1894 : decode code 1894 = .ok (.aload_n 0, 1) := by decide +kernel
theorem d_La_law_1895 : decode code 1895 = .ok (.iload_n 3, 1) := by decide +kernel
theorem d_La_law_1896 : decode code 1896 = .ok (.iconst 5, 1) := by decide +kernel
theorem d_La_law_1897 : decode code 1897 = .ok (.iadd, 1) := by decide +kernel
theorem d_La_law_1898 : decode code 1898 = .ok (.iaload, 1) := by decide +kernel
theorem d_La_law_1899 : decode code 1899 = .ok (.i2l, 1) := by decide +kernel
theorem d_La_law_1900 : decode code 1900 = .ok (.ldc2_w 35, 3) := by decide +kernel
theorem d_La_law_1903 : decode code 1903 = .ok (.land, 1) := by decide +kernel
theorem d_La_law_1904 : decode code 1904 = .ok (.lor, 1) := by decide +kernel
theorem d_La_law_1905 : decode code 1905 = .ok (.invokevirtual 133, 3) := by decide +kernel
theorem d_La_law_1908 : decode code 1908 = .ok (.if_icmp .eq 778, 3) := by decide +kernel
theorem d_La_law_1911 : decode code 1911 = .ok (.iconst 0, 1) := by decide +kernel
theorem d_La_law_1912 : decode code 1912 = .ok (.ireturn, 1) := by decide +kernel
def B_La_law_1830 (L : Nat) (xs : Nat → Int32) (k18 : Int32 → Sto → Option (Bool × Sto)) (v3 : Int32) (σ : Sto) : Option (Bool × Sto) :=
  (if inb (v3 + (1 : Int32)) L = true then (if inb (v3 + (2 : Int32)) L = true then (if inb (v3 + (3 : Int32)) L = true then (if inb (v3 + (4 : Int32)) L = true then (if inb (v3 + (5 : Int32)) L = true then ((f_FR_cover (xs (Int32.toNatClampNeg (v3 + (1 : Int32)))) (xs (Int32.toNatClampNeg (v3 + (2 : Int32)))) (xs (Int32.toNatClampNeg (v3 + (3 : Int32)))) ((lsh (Int32.toInt64 (xs (Int32.toNatClampNeg (v3 + (4 : Int32))))) (32 : Int32)) ||| ((Int32.toInt64 (xs (Int32.toNatClampNeg (v3 + (5 : Int32))))) &&& (4294967295 : Int64))) σ).bind fun q51 => (if inb (v3 + (1 : Int32)) L = true then (if inb (v3 + (2 : Int32)) L = true then (if inb (v3 + (3 : Int32)) L = true then (if inb (v3 + (4 : Int32)) L = true then (if inb (v3 + (5 : Int32)) L = true then ((f_Mo_cover (xs (Int32.toNatClampNeg (v3 + (1 : Int32)))) (xs (Int32.toNatClampNeg (v3 + (2 : Int32)))) (xs (Int32.toNatClampNeg (v3 + (3 : Int32)))) ((lsh (Int32.toInt64 (xs (Int32.toNatClampNeg (v3 + (4 : Int32))))) (32 : Int32)) ||| ((Int32.toInt64 (xs (Int32.toNatClampNeg (v3 + (5 : Int32))))) &&& (4294967295 : Int64))) q51.2).bind fun q52 => (if q51.1 = q52.1 then B_La_law_2686 L xs k18 v3 q52.2
 else some (false, q52.2))) else none) else none) else none) else none) else none)) else none) else none) else none) else none) else none)
set_option maxHeartbeats 4000000 in
set_option maxRecDepth 100000 in
theorem vB_La_law_1830 {X : Xt} {E : En} {L : Nat} {xs : Nat → Int32} (hX : SX X E L xs) (g : GG X E 200 code R_La 4) {k18 : Int32 → Sto → Option (Bool × Sto)} (hk18 : ∀ (v3 : Int32) (σ : Sto), VV X E code 4 eB 18 [(0, .ref (E.2.1 999)), (1, .ref (E.2.1 0)), (2, .ref (E.2.1 48)), (3, .int v3)] [] σ (k18 v3 σ)) (v3 : Int32) (σ : Sto) : VV X E code 4 eB 1830 [(0, .ref (E.2.1 999)), (1, .ref (E.2.1 0)), (2, .ref (E.2.1 48)), (3, .int v3)] [] σ (B_La_law_1830 L xs k18 v3 σ) := by
  unfold B_La_law_1830
  refine v_aload_n 1 g d_La_law_1830 rfl ?_
  refine v_aload_n 0 g d_La_law_1831 rfl ?_
  refine v_iload_n 3 g d_La_law_1832 rfl ?_
  refine v_iconst (v := (1 : Int32)) g d_La_law_1833 (by decide +kernel) ?_
  refine v_iadd g d_La_law_1834 ?_
  refine v_sld hX g d_La_law_1835 (fun _ => ?_)
  refine v_aload_n 0 g d_La_law_1836 rfl ?_
  refine v_iload_n 3 g d_La_law_1837 rfl ?_
  refine v_iconst (v := (2 : Int32)) g d_La_law_1838 (by decide +kernel) ?_
  refine v_iadd g d_La_law_1839 ?_
  refine v_sld hX g d_La_law_1840 (fun _ => ?_)
  refine v_aload_n 0 g d_La_law_1841 rfl ?_
  refine v_iload_n 3 g d_La_law_1842 rfl ?_
  refine v_iconst (v := (3 : Int32)) g d_La_law_1843 (by decide +kernel) ?_
  refine v_iadd g d_La_law_1844 ?_
  refine v_sld hX g d_La_law_1845 (fun _ => ?_)
  refine v_aload_n 0 g d_La_law_1846 rfl ?_
  refine v_iload_n 3 g d_La_law_1847 rfl ?_
  refine v_iconst (v := (4 : Int32)) g d_La_law_1848 (by decide +kernel) ?_
  refine v_iadd g d_La_law_1849 ?_
  refine v_sld hX g d_La_law_1850 (fun _ => ?_)
  refine v_i2l g d_La_law_1851 ?_
  refine v_bipush (v := (32 : Int32)) g d_La_law_1852 (by decide +kernel) ?_
  refine v_lshl g d_La_law_1854 ?_
  refine v_aload_n 0 g d_La_law_1855 rfl ?_
  refine v_iload_n 3 g d_La_law_1856 rfl ?_
  refine v_iconst (v := (5 : Int32)) g d_La_law_1857 (by decide +kernel) ?_
  refine v_iadd g d_La_law_1858 ?_
  refine v_sld hX g d_La_law_1859 (fun _ => ?_)
  refine v_i2l g d_La_law_1860 ?_
  refine v_ldc2 (v := (4294967295 : Int64)) g (m1 1567 (by decide +kernel) (by decide +kernel)) d_La_law_1861 ?_
  refine v_land g d_La_law_1864 ?_
  refine v_lor g d_La_law_1865 ?_
  refine v_callI (r_V (rest := []) [.int (xs (Int32.toNatClampNeg (v3 + (1 : Int32)))), .int (xs (Int32.toNatClampNeg (v3 + (2 : Int32)))), .int (xs (Int32.toNatClampNeg (v3 + (3 : Int32)))), .long ((lsh (Int32.toInt64 (xs (Int32.toNatClampNeg (v3 + (4 : Int32))))) (32 : Int32)) ||| ((Int32.toInt64 (xs (Int32.toNatClampNeg (v3 + (5 : Int32))))) &&& (4294967295 : Int64)))] g (m1 783 (by decide +kernel) (by decide +kernel)) yv_FR_cover rfl (fun r σ1 h => sp_FR_cover g.2.2.1  h) rfl rfl (by decide) (Nat.le_of_ble_eq_true rfl) d_La_law_1866) (fun q51 => ?_)
  refine v_aload_n 2 g d_La_law_1869 rfl ?_
  refine v_aload_n 0 g d_La_law_1870 rfl ?_
  refine v_iload_n 3 g d_La_law_1871 rfl ?_
  refine v_iconst (v := (1 : Int32)) g d_La_law_1872 (by decide +kernel) ?_
  refine v_iadd g d_La_law_1873 ?_
  refine v_sld hX g d_La_law_1874 (fun _ => ?_)
  refine v_aload_n 0 g d_La_law_1875 rfl ?_
  refine v_iload_n 3 g d_La_law_1876 rfl ?_
  refine v_iconst (v := (2 : Int32)) g d_La_law_1877 (by decide +kernel) ?_
  refine v_iadd g d_La_law_1878 ?_
  refine v_sld hX g d_La_law_1879 (fun _ => ?_)
  refine v_aload_n 0 g d_La_law_1880 rfl ?_
  refine v_iload_n 3 g d_La_law_1881 rfl ?_
  refine v_iconst (v := (3 : Int32)) g d_La_law_1882 (by decide +kernel) ?_
  refine v_iadd g d_La_law_1883 ?_
  refine v_sld hX g d_La_law_1884 (fun _ => ?_)
  refine v_aload_n 0 g d_La_law_1885 rfl ?_
  refine v_iload_n 3 g d_La_law_1886 rfl ?_
  refine v_iconst (v := (4 : Int32)) g d_La_law_1887 (by decide +kernel) ?_
  refine v_iadd g d_La_law_1888 ?_
  refine v_sld hX g d_La_law_1889 (fun _ => ?_)
  refine v_i2l g d_La_law_1890 ?_
  refine v_bipush (v := (32 : Int32)) g d_La_law_1891 (by decide +kernel) ?_
  refine v_lshl g d_La_law_1893 ?_
  refine v_aload_n 0 g d_La_law_1894 rfl ?_
  refine v_iload_n 3 g d_La_law_1895 rfl ?_
  refine v_iconst (v := (5 : Int32)) g d_La_law_1896 (by decide +kernel) ?_
  refine v_iadd g d_La_law_1897 ?_
  refine v_sld hX g d_La_law_1898 (fun _ => ?_)
  refine v_i2l g d_La_law_1899 ?_
  refine v_ldc2 (v := (4294967295 : Int64)) g (m1 1567 (by decide +kernel) (by decide +kernel)) d_La_law_1900 ?_
  refine v_land g d_La_law_1903 ?_
  refine v_lor g d_La_law_1904 ?_
  refine v_callI (r_V (rest := [.int q51.1]) [.int (xs (Int32.toNatClampNeg (v3 + (1 : Int32)))), .int (xs (Int32.toNatClampNeg (v3 + (2 : Int32)))), .int (xs (Int32.toNatClampNeg (v3 + (3 : Int32)))), .long ((lsh (Int32.toInt64 (xs (Int32.toNatClampNeg (v3 + (4 : Int32))))) (32 : Int32)) ||| ((Int32.toInt64 (xs (Int32.toNatClampNeg (v3 + (5 : Int32))))) &&& (4294967295 : Int64)))] g (m1 1416 (by decide +kernel) (by decide +kernel)) yv_Mo_cover rfl (fun r σ1 h => sp_Mo_cover g.2.2.1  h) rfl rfl (by decide) (Nat.le_of_ble_eq_true rfl) d_La_law_1905) (fun q52 => ?_)
  refine v_icmp_eq 2686 g d_La_law_1908 (by decide) (fun _ => ?_) (fun _ => ?_)
  · exact v_sub [0,1,2,3] rfl (vB_La_law_2686 hX g hk18 v3 q52.2)
  · refine v_iconst (v := (0 : Int32)) g d_La_law_1911 (by decide +kernel) ?_
    exact v_ret d_La_law_1912 rfl
theorem d_La_law_1913 : decode code 1913 = .ok (.aload_n 1, 1) := by decide +kernel
theorem d_La_law_1914 : decode code 1914 = .ok (.aload_n 0, 1) := by decide +kernel
theorem d_La_law_1915 : decode code 1915 = .ok (.iload_n 3, 1) := by decide +kernel
theorem d_La_law_1916 : decode code 1916 = .ok (.iconst 1, 1) := by decide +kernel
theorem d_La_law_1917 : decode code 1917 = .ok (.iadd, 1) := by decide +kernel
theorem d_La_law_1918 : decode code 1918 = .ok (.iaload, 1) := by decide +kernel
theorem d_La_law_1919 : decode code 1919 = .ok (.aload_n 0, 1) := by decide +kernel
theorem d_La_law_1920 : decode code 1920 = .ok (.iload_n 3, 1) := by decide +kernel
theorem d_La_law_1921 : decode code 1921 = .ok (.iconst 2, 1) := by decide +kernel
theorem d_La_law_1922 : decode code 1922 = .ok (.iadd, 1) := by decide +kernel
theorem d_La_law_1923 : decode code 1923 = .ok (.iaload, 1) := by decide +kernel
theorem d_La_law_1924 : decode code 1924 = .ok (.aload_n 0, 1) := by decide +kernel
theorem d_La_law_1925 : decode code 1925 = .ok (.iload_n 3, 1) := by decide +kernel
theorem d_La_law_1926 : decode code 1926 = .ok (.iconst 3, 1) := by decide +kernel
theorem d_La_law_1927 : decode code 1927 = .ok (.iadd, 1) := by decide +kernel
theorem d_La_law_1928 : decode code 1928 = .ok (.iaload, 1) := by decide +kernel
theorem d_La_law_1929 : decode code 1929 = .ok (.i2l, 1) := by decide +kernel
theorem d_La_law_1930 : decode code 1930 = .ok (.bipush 32, 2) := by decide +kernel
theorem d_La_law_1932 : decode code 1932 = .ok (.lshl, 1) := by decide +kernel
theorem d_La_law_1933 : decode code 1933 = .ok (.aload_n 0, 1) := by decide +kernel
theorem d_La_law_1934 : decode code 1934 = .ok (.iload_n 3, 1) := by decide +kernel
theorem d_La_law_1935 : decode code 1935 = .ok (.iconst 4, 1) := by decide +kernel
theorem d_La_law_1936 : decode code 1936 = .ok (.iadd, 1) := by decide +kernel
theorem d_La_law_1937 : decode code 1937 = .ok (.iaload, 1) := by decide +kernel
theorem d_La_law_1938 : decode code 1938 = .ok (.i2l, 1) := by decide +kernel
theorem d_La_law_1939 : decode code 1939 = .ok (.ldc2_w 35, 3) := by decide +kernel
theorem d_La_law_1942 : decode code 1942 = .ok (.land, 1) := by decide +kernel
theorem d_La_law_1943 : decode code 1943 = .ok (.lor, 1) := by decide +kernel
theorem d_La_law_1944 : decode code 1944 = .ok (.invokevirtual 134, 3) := by decide +kernel
theorem d_La_law_1947 : decode code 1947 = .ok (.aload_n 2, 1) := by decide +kernel
theorem d_La_law_1948 : decode code 1948 = .ok (.aload_n 0, 1) := by decide +kernel
theorem d_La_law_1949 : decode code 1949 = .ok (.iload_n 3, 1) := by decide +kernel
theorem d_La_law_1950 : decode code 1950 = .ok (.iconst 1, 1) := by decide +kernel
theorem d_La_law_1951 : decode code 1951 = .ok (.iadd, 1) := by decide +kernel
theorem d_La_law_1952 : decode code 1952 = .ok (.iaload, 1) := by decide +kernel
theorem d_La_law_1953 : decode code 1953 = .ok (.aload_n 0, 1) := by decide +kernel
theorem d_La_law_1954 : decode code 1954 = .ok (.iload_n 3, 1) := by decide +kernel
theorem d_La_law_1955 : decode code 1955 = .ok (.iconst 2, 1) := by decide +kernel
theorem d_La_law_1956 : decode code 1956 = .ok (.iadd, 1) := by decide +kernel
theorem d_La_law_1957 : decode code 1957 = .ok (.iaload, 1) := by decide +kernel
theorem d_La_law_1958 : decode code 1958 = .ok (.aload_n 0, 1) := by decide +kernel
theorem d_La_law_1959 : decode code 1959 = .ok (.iload_n 3, 1) := by decide +kernel
theorem d_La_law_1960 : decode code 1960 = .ok (.iconst 3, 1) := by decide +kernel
theorem d_La_law_1961 : decode code 1961 = .ok (.iadd, 1) := by decide +kernel
theorem d_La_law_1962 : decode code 1962 = .ok (.iaload, 1) := by decide +kernel
theorem d_La_law_1963 : decode code 1963 = .ok (.i2l, 1) := by decide +kernel
theorem d_La_law_1964 : decode code 1964 = .ok (.bipush 32, 2) := by decide +kernel
theorem d_La_law_1966 : decode code 1966 = .ok (.lshl, 1) := by decide +kernel
theorem d_La_law_1967 : decode code 1967 = .ok (.aload_n 0, 1) := by decide +kernel
theorem d_La_law_1968 : decode code 1968 = .ok (.iload_n 3, 1) := by decide +kernel
theorem d_La_law_1969 : decode code 1969 = .ok (.iconst 4, 1) := by decide +kernel
theorem d_La_law_1970 : decode code 1970 = .ok (.iadd, 1) := by decide +kernel
theorem d_La_law_1971 : decode code 1971 = .ok (.iaload, 1) := by decide +kernel
theorem d_La_law_1972 : decode code 1972 = .ok (.i2l, 1) := by decide +kernel
theorem d_La_law_1973 : decode code 1973 = .ok (.ldc2_w 35, 3) := by decide +kernel
theorem d_La_law_1976 : decode code 1976 = .ok (.land, 1) := by decide +kernel
theorem d_La_law_1977 : decode code 1977 = .ok (.lor, 1) := by decide +kernel
theorem d_La_law_1978 : decode code 1978 = .ok (.invokevirtual 138, 3) := by decide +kernel
theorem d_La_law_1981 : decode code 1981 = .ok (.if_icmp .eq 705, 3) := by decide +kernel
theorem d_La_law_1984 : decode code 1984 = .ok (.iconst 0, 1) := by decide +kernel
theorem d_La_law_1985 : decode code 1985 = .ok (.ireturn, 1) := by decide +kernel
def B_La_law_1913 (L : Nat) (xs : Nat → Int32) (k18 : Int32 → Sto → Option (Bool × Sto)) (v3 : Int32) (σ : Sto) : Option (Bool × Sto) :=
  (if inb (v3 + (1 : Int32)) L = true then (if inb (v3 + (2 : Int32)) L = true then (if inb (v3 + (3 : Int32)) L = true then (if inb (v3 + (4 : Int32)) L = true then ((f_FR_film (xs (Int32.toNatClampNeg (v3 + (1 : Int32)))) (xs (Int32.toNatClampNeg (v3 + (2 : Int32)))) ((lsh (Int32.toInt64 (xs (Int32.toNatClampNeg (v3 + (3 : Int32))))) (32 : Int32)) ||| ((Int32.toInt64 (xs (Int32.toNatClampNeg (v3 + (4 : Int32))))) &&& (4294967295 : Int64))) σ).bind fun q53 => (if inb (v3 + (1 : Int32)) L = true then (if inb (v3 + (2 : Int32)) L = true then (if inb (v3 + (3 : Int32)) L = true then (if inb (v3 + (4 : Int32)) L = true then ((f_Mo_film (xs (Int32.toNatClampNeg (v3 + (1 : Int32)))) (xs (Int32.toNatClampNeg (v3 + (2 : Int32)))) ((lsh (Int32.toInt64 (xs (Int32.toNatClampNeg (v3 + (3 : Int32))))) (32 : Int32)) ||| ((Int32.toInt64 (xs (Int32.toNatClampNeg (v3 + (4 : Int32))))) &&& (4294967295 : Int64))) q53.2).bind fun q54 => (if q53.1 = q54.1 then B_La_law_2686 L xs k18 v3 q54.2
 else some (false, q54.2))) else none) else none) else none) else none)) else none) else none) else none) else none)
set_option maxHeartbeats 4000000 in
set_option maxRecDepth 100000 in
theorem vB_La_law_1913 {X : Xt} {E : En} {L : Nat} {xs : Nat → Int32} (hX : SX X E L xs) (g : GG X E 200 code R_La 4) {k18 : Int32 → Sto → Option (Bool × Sto)} (hk18 : ∀ (v3 : Int32) (σ : Sto), VV X E code 4 eB 18 [(0, .ref (E.2.1 999)), (1, .ref (E.2.1 0)), (2, .ref (E.2.1 48)), (3, .int v3)] [] σ (k18 v3 σ)) (v3 : Int32) (σ : Sto) : VV X E code 4 eB 1913 [(0, .ref (E.2.1 999)), (1, .ref (E.2.1 0)), (2, .ref (E.2.1 48)), (3, .int v3)] [] σ (B_La_law_1913 L xs k18 v3 σ) := by
  unfold B_La_law_1913
  refine v_aload_n 1 g d_La_law_1913 rfl ?_
  refine v_aload_n 0 g d_La_law_1914 rfl ?_
  refine v_iload_n 3 g d_La_law_1915 rfl ?_
  refine v_iconst (v := (1 : Int32)) g d_La_law_1916 (by decide +kernel) ?_
  refine v_iadd g d_La_law_1917 ?_
  refine v_sld hX g d_La_law_1918 (fun _ => ?_)
  refine v_aload_n 0 g d_La_law_1919 rfl ?_
  refine v_iload_n 3 g d_La_law_1920 rfl ?_
  refine v_iconst (v := (2 : Int32)) g d_La_law_1921 (by decide +kernel) ?_
  refine v_iadd g d_La_law_1922 ?_
  refine v_sld hX g d_La_law_1923 (fun _ => ?_)
  refine v_aload_n 0 g d_La_law_1924 rfl ?_
  refine v_iload_n 3 g d_La_law_1925 rfl ?_
  refine v_iconst (v := (3 : Int32)) g d_La_law_1926 (by decide +kernel) ?_
  refine v_iadd g d_La_law_1927 ?_
  refine v_sld hX g d_La_law_1928 (fun _ => ?_)
  refine v_i2l g d_La_law_1929 ?_
  refine v_bipush (v := (32 : Int32)) g d_La_law_1930 (by decide +kernel) ?_
  refine v_lshl g d_La_law_1932 ?_
  refine v_aload_n 0 g d_La_law_1933 rfl ?_
  refine v_iload_n 3 g d_La_law_1934 rfl ?_
  refine v_iconst (v := (4 : Int32)) g d_La_law_1935 (by decide +kernel) ?_
  refine v_iadd g d_La_law_1936 ?_
  refine v_sld hX g d_La_law_1937 (fun _ => ?_)
  refine v_i2l g d_La_law_1938 ?_
  refine v_ldc2 (v := (4294967295 : Int64)) g (m1 1567 (by decide +kernel) (by decide +kernel)) d_La_law_1939 ?_
  refine v_land g d_La_law_1942 ?_
  refine v_lor g d_La_law_1943 ?_
  refine v_callI (r_V (rest := []) [.int (xs (Int32.toNatClampNeg (v3 + (1 : Int32)))), .int (xs (Int32.toNatClampNeg (v3 + (2 : Int32)))), .long ((lsh (Int32.toInt64 (xs (Int32.toNatClampNeg (v3 + (3 : Int32))))) (32 : Int32)) ||| ((Int32.toInt64 (xs (Int32.toNatClampNeg (v3 + (4 : Int32))))) &&& (4294967295 : Int64)))] g (m1 795 (by decide +kernel) (by decide +kernel)) yv_FR_film rfl (fun r σ1 h => sp_FR_film g.2.2.1  h) rfl rfl (by decide) (Nat.le_of_ble_eq_true rfl) d_La_law_1944) (fun q53 => ?_)
  refine v_aload_n 2 g d_La_law_1947 rfl ?_
  refine v_aload_n 0 g d_La_law_1948 rfl ?_
  refine v_iload_n 3 g d_La_law_1949 rfl ?_
  refine v_iconst (v := (1 : Int32)) g d_La_law_1950 (by decide +kernel) ?_
  refine v_iadd g d_La_law_1951 ?_
  refine v_sld hX g d_La_law_1952 (fun _ => ?_)
  refine v_aload_n 0 g d_La_law_1953 rfl ?_
  refine v_iload_n 3 g d_La_law_1954 rfl ?_
  refine v_iconst (v := (2 : Int32)) g d_La_law_1955 (by decide +kernel) ?_
  refine v_iadd g d_La_law_1956 ?_
  refine v_sld hX g d_La_law_1957 (fun _ => ?_)
  refine v_aload_n 0 g d_La_law_1958 rfl ?_
  refine v_iload_n 3 g d_La_law_1959 rfl ?_
  refine v_iconst (v := (3 : Int32)) g d_La_law_1960 (by decide +kernel) ?_
  refine v_iadd g d_La_law_1961 ?_
  refine v_sld hX g d_La_law_1962 (fun _ => ?_)
  refine v_i2l g d_La_law_1963 ?_
  refine v_bipush (v := (32 : Int32)) g d_La_law_1964 (by decide +kernel) ?_
  refine v_lshl g d_La_law_1966 ?_
  refine v_aload_n 0 g d_La_law_1967 rfl ?_
  refine v_iload_n 3 g d_La_law_1968 rfl ?_
  refine v_iconst (v := (4 : Int32)) g d_La_law_1969 (by decide +kernel) ?_
  refine v_iadd g d_La_law_1970 ?_
  refine v_sld hX g d_La_law_1971 (fun _ => ?_)
  refine v_i2l g d_La_law_1972 ?_
  refine v_ldc2 (v := (4294967295 : Int64)) g (m1 1567 (by decide +kernel) (by decide +kernel)) d_La_law_1973 ?_
  refine v_land g d_La_law_1976 ?_
  refine v_lor g d_La_law_1977 ?_
  refine v_callI (r_V (rest := [.int q53.1]) [.int (xs (Int32.toNatClampNeg (v3 + (1 : Int32)))), .int (xs (Int32.toNatClampNeg (v3 + (2 : Int32)))), .long ((lsh (Int32.toInt64 (xs (Int32.toNatClampNeg (v3 + (3 : Int32))))) (32 : Int32)) ||| ((Int32.toInt64 (xs (Int32.toNatClampNeg (v3 + (4 : Int32))))) &&& (4294967295 : Int64)))] g (m1 1420 (by decide +kernel) (by decide +kernel)) yv_Mo_film rfl (fun r σ1 h => sp_Mo_film g.2.2.1  h) rfl rfl (by decide) (Nat.le_of_ble_eq_true rfl) d_La_law_1978) (fun q54 => ?_)
  refine v_icmp_eq 2686 g d_La_law_1981 (by decide) (fun _ => ?_) (fun _ => ?_)
  · exact v_sub [0,1,2,3] rfl (vB_La_law_2686 hX g hk18 v3 q54.2)
  · refine v_iconst (v := (0 : Int32)) g d_La_law_1984 (by decide +kernel) ?_
    exact v_ret d_La_law_1985 rfl
theorem d_La_law_1986 : decode code 1986 = .ok (.aload_n 1, 1) := by decide +kernel
theorem d_La_law_1987 : decode code 1987 = .ok (.aload_n 0, 1) := by decide +kernel
theorem d_La_law_1988 : decode code 1988 = .ok (.iload_n 3, 1) := by decide +kernel
theorem d_La_law_1989 : decode code 1989 = .ok (.iconst 1, 1) := by decide +kernel
theorem d_La_law_1990 : decode code 1990 = .ok (.iadd, 1) := by decide +kernel
theorem d_La_law_1991 : decode code 1991 = .ok (.iaload, 1) := by decide +kernel
theorem d_La_law_1992 : decode code 1992 = .ok (.aload_n 0, 1) := by decide +kernel
theorem d_La_law_1993 : decode code 1993 = .ok (.iload_n 3, 1) := by decide +kernel
theorem d_La_law_1994 : decode code 1994 = .ok (.iconst 2, 1) := by decide +kernel
theorem d_La_law_1995 : decode code 1995 = .ok (.iadd, 1) := by decide +kernel
theorem d_La_law_1996 : decode code 1996 = .ok (.iaload, 1) := by decide +kernel
theorem d_La_law_1997 : decode code 1997 = .ok (.invokevirtual 139, 3) := by decide +kernel
theorem d_La_law_2000 : decode code 2000 = .ok (.aload_n 2, 1) := by decide +kernel
theorem d_La_law_2001 : decode code 2001 = .ok (.aload_n 0, 1) := by decide +kernel
theorem d_La_law_2002 : decode code 2002 = .ok (.iload_n 3, 1) := by decide +kernel
theorem d_La_law_2003 : decode code 2003 = .ok (.iconst 1, 1) := by decide +kernel
theorem d_La_law_2004 : decode code 2004 = .ok (.iadd, 1) := by decide +kernel
theorem d_La_law_2005 : decode code 2005 = .ok (.iaload, 1) := by decide +kernel
theorem d_La_law_2006 : decode code 2006 = .ok (.aload_n 0, 1) := by decide +kernel
theorem d_La_law_2007 : decode code 2007 = .ok (.iload_n 3, 1) := by decide +kernel
theorem d_La_law_2008 : decode code 2008 = .ok (.iconst 2, 1) := by decide +kernel
theorem d_La_law_2009 : decode code 2009 = .ok (.iadd, 1) := by decide +kernel
theorem d_La_law_2010 : decode code 2010 = .ok (.iaload, 1) := by decide +kernel
theorem d_La_law_2011 : decode code 2011 = .ok (.invokevirtual 142, 3) := by decide +kernel
theorem d_La_law_2014 : decode code 2014 = .ok (.if_icmp .eq 672, 3) := by decide +kernel
theorem d_La_law_2017 : decode code 2017 = .ok (.iconst 0, 1) := by decide +kernel
theorem d_La_law_2018 : decode code 2018 = .ok (.ireturn, 1) := by decide +kernel
def B_La_law_1986 (L : Nat) (xs : Nat → Int32) (k18 : Int32 → Sto → Option (Bool × Sto)) (v3 : Int32) (σ : Sto) : Option (Bool × Sto) :=
  (if inb (v3 + (1 : Int32)) L = true then (if inb (v3 + (2 : Int32)) L = true then ((f_FR_slip (xs (Int32.toNatClampNeg (v3 + (1 : Int32)))) (xs (Int32.toNatClampNeg (v3 + (2 : Int32)))) σ).bind fun q55 => (if inb (v3 + (1 : Int32)) L = true then (if inb (v3 + (2 : Int32)) L = true then ((f_Mo_slip (xs (Int32.toNatClampNeg (v3 + (1 : Int32)))) (xs (Int32.toNatClampNeg (v3 + (2 : Int32)))) q55.2).bind fun q56 => (if q55.1 = q56.1 then B_La_law_2686 L xs k18 v3 q56.2
 else some (false, q56.2))) else none) else none)) else none) else none)
set_option maxHeartbeats 4000000 in
set_option maxRecDepth 100000 in
theorem vB_La_law_1986 {X : Xt} {E : En} {L : Nat} {xs : Nat → Int32} (hX : SX X E L xs) (g : GG X E 200 code R_La 4) {k18 : Int32 → Sto → Option (Bool × Sto)} (hk18 : ∀ (v3 : Int32) (σ : Sto), VV X E code 4 eB 18 [(0, .ref (E.2.1 999)), (1, .ref (E.2.1 0)), (2, .ref (E.2.1 48)), (3, .int v3)] [] σ (k18 v3 σ)) (v3 : Int32) (σ : Sto) : VV X E code 4 eB 1986 [(0, .ref (E.2.1 999)), (1, .ref (E.2.1 0)), (2, .ref (E.2.1 48)), (3, .int v3)] [] σ (B_La_law_1986 L xs k18 v3 σ) := by
  unfold B_La_law_1986
  refine v_aload_n 1 g d_La_law_1986 rfl ?_
  refine v_aload_n 0 g d_La_law_1987 rfl ?_
  refine v_iload_n 3 g d_La_law_1988 rfl ?_
  refine v_iconst (v := (1 : Int32)) g d_La_law_1989 (by decide +kernel) ?_
  refine v_iadd g d_La_law_1990 ?_
  refine v_sld hX g d_La_law_1991 (fun _ => ?_)
  refine v_aload_n 0 g d_La_law_1992 rfl ?_
  refine v_iload_n 3 g d_La_law_1993 rfl ?_
  refine v_iconst (v := (2 : Int32)) g d_La_law_1994 (by decide +kernel) ?_
  refine v_iadd g d_La_law_1995 ?_
  refine v_sld hX g d_La_law_1996 (fun _ => ?_)
  refine v_callI (r_V (rest := []) [.int (xs (Int32.toNatClampNeg (v3 + (1 : Int32)))), .int (xs (Int32.toNatClampNeg (v3 + (2 : Int32))))] g (m1 803 (by decide +kernel) (by decide +kernel)) yv_FR_slip rfl (fun r σ1 h => sp_FR_slip g.2.2.1  h) rfl rfl (by decide) (Nat.le_of_ble_eq_true rfl) d_La_law_1997) (fun q55 => ?_)
  refine v_aload_n 2 g d_La_law_2000 rfl ?_
  refine v_aload_n 0 g d_La_law_2001 rfl ?_
  refine v_iload_n 3 g d_La_law_2002 rfl ?_
  refine v_iconst (v := (1 : Int32)) g d_La_law_2003 (by decide +kernel) ?_
  refine v_iadd g d_La_law_2004 ?_
  refine v_sld hX g d_La_law_2005 (fun _ => ?_)
  refine v_aload_n 0 g d_La_law_2006 rfl ?_
  refine v_iload_n 3 g d_La_law_2007 rfl ?_
  refine v_iconst (v := (2 : Int32)) g d_La_law_2008 (by decide +kernel) ?_
  refine v_iadd g d_La_law_2009 ?_
  refine v_sld hX g d_La_law_2010 (fun _ => ?_)
  refine v_callI (r_V (rest := [.int q55.1]) [.int (xs (Int32.toNatClampNeg (v3 + (1 : Int32)))), .int (xs (Int32.toNatClampNeg (v3 + (2 : Int32))))] g (m1 1424 (by decide +kernel) (by decide +kernel)) yv_Mo_slip rfl (fun r σ1 h => sp_Mo_slip g.2.2.1  h) rfl rfl (by decide) (Nat.le_of_ble_eq_true rfl) d_La_law_2011) (fun q56 => ?_)
  refine v_icmp_eq 2686 g d_La_law_2014 (by decide) (fun _ => ?_) (fun _ => ?_)
  · exact v_sub [0,1,2,3] rfl (vB_La_law_2686 hX g hk18 v3 q56.2)
  · refine v_iconst (v := (0 : Int32)) g d_La_law_2017 (by decide +kernel) ?_
    exact v_ret d_La_law_2018 rfl
theorem d_La_law_2019 : decode code 2019 = .ok (.aload_n 1, 1) := by decide +kernel
theorem d_La_law_2020 : decode code 2020 = .ok (.aload_n 0, 1) := by decide +kernel
theorem d_La_law_2021 : decode code 2021 = .ok (.iload_n 3, 1) := by decide +kernel
theorem d_La_law_2022 : decode code 2022 = .ok (.iconst 1, 1) := by decide +kernel
theorem d_La_law_2023 : decode code 2023 = .ok (.iadd, 1) := by decide +kernel
theorem d_La_law_2024 : decode code 2024 = .ok (.iaload, 1) := by decide +kernel
theorem d_La_law_2025 : decode code 2025 = .ok (.aload_n 0, 1) := by decide +kernel
theorem d_La_law_2026 : decode code 2026 = .ok (.iload_n 3, 1) := by decide +kernel
theorem d_La_law_2027 : decode code 2027 = .ok (.iconst 2, 1) := by decide +kernel
theorem d_La_law_2028 : decode code 2028 = .ok (.iadd, 1) := by decide +kernel
theorem d_La_law_2029 : decode code 2029 = .ok (.iaload, 1) := by decide +kernel
theorem d_La_law_2030 : decode code 2030 = .ok (.i2l, 1) := by decide +kernel
theorem d_La_law_2031 : decode code 2031 = .ok (.bipush 32, 2) := by decide +kernel
theorem d_La_law_2033 : decode code 2033 = .ok (.lshl, 1) := by decide +kernel
theorem d_La_law_2034 : decode code 2034 = .ok (.aload_n 0, 1) := by decide +kernel
theorem d_La_law_2035 : decode code 2035 = .ok (.iload_n 3, 1) := by decide +kernel
theorem d_La_law_2036 : decode code 2036 = .ok (.iconst 3, 1) := by decide +kernel
theorem d_La_law_2037 : decode code 2037 = .ok (.iadd, 1) := by decide +kernel
theorem d_La_law_2038 : decode code 2038 = .ok (.iaload, 1) := by decide +kernel
theorem d_La_law_2039 : decode code 2039 = .ok (.i2l, 1) := by decide +kernel
theorem d_La_law_2040 : decode code 2040 = .ok (.ldc2_w 35, 3) := by decide +kernel
theorem d_La_law_2043 : decode code 2043 = .ok (.land, 1) := by decide +kernel
theorem d_La_law_2044 : decode code 2044 = .ok (.lor, 1) := by decide +kernel
theorem d_La_law_2045 : decode code 2045 = .ok (.invokevirtual 143, 3) := by decide +kernel
theorem d_La_law_2048 : decode code 2048 = .ok (.aload_n 2, 1) := by decide +kernel
theorem d_La_law_2049 : decode code 2049 = .ok (.aload_n 0, 1) := by decide +kernel
theorem d_La_law_2050 : decode code 2050 = .ok (.iload_n 3, 1) := by decide +kernel
theorem d_La_law_2051 : decode code 2051 = .ok (.iconst 1, 1) := by decide +kernel
theorem d_La_law_2052 : decode code 2052 = .ok (.iadd, 1) := by decide +kernel
theorem d_La_law_2053 : decode code 2053 = .ok (.iaload, 1) := by decide +kernel
theorem d_La_law_2054 : decode code 2054 = .ok (.aload_n 0, 1) := by decide +kernel
theorem d_La_law_2055 : decode code 2055 = .ok (.iload_n 3, 1) := by decide +kernel
theorem d_La_law_2056 : decode code 2056 = .ok (.iconst 2, 1) := by decide +kernel
theorem d_La_law_2057 : decode code 2057 = .ok (.iadd, 1) := by decide +kernel
theorem d_La_law_2058 : decode code 2058 = .ok (.iaload, 1) := by decide +kernel
theorem d_La_law_2059 : decode code 2059 = .ok (.i2l, 1) := by decide +kernel
theorem d_La_law_2060 : decode code 2060 = .ok (.bipush 32, 2) := by decide +kernel
theorem d_La_law_2062 : decode code 2062 = .ok (.lshl, 1) := by decide +kernel
theorem d_La_law_2063 : decode code 2063 = .ok (.aload_n 0, 1) := by decide +kernel
theorem d_La_law_2064 : decode code 2064 = .ok (.iload_n 3, 1) := by decide +kernel
theorem d_La_law_2065 : decode code 2065 = .ok (.iconst 3, 1) := by decide +kernel
theorem d_La_law_2066 : decode code 2066 = .ok (.iadd, 1) := by decide +kernel
theorem d_La_law_2067 : decode code 2067 = .ok (.iaload, 1) := by decide +kernel
theorem d_La_law_2068 : decode code 2068 = .ok (.i2l, 1) := by decide +kernel
theorem d_La_law_2069 : decode code 2069 = .ok (.ldc2_w 35, 3) := by decide +kernel
theorem d_La_law_2072 : decode code 2072 = .ok (.land, 1) := by decide +kernel
theorem d_La_law_2073 : decode code 2073 = .ok (.lor, 1) := by decide +kernel
theorem d_La_law_2074 : decode code 2074 = .ok (.invokevirtual 146, 3) := by decide +kernel
theorem d_La_law_2077 : decode code 2077 = .ok (.if_icmp .eq 609, 3) := by decide +kernel
theorem d_La_law_2080 : decode code 2080 = .ok (.iconst 0, 1) := by decide +kernel
theorem d_La_law_2081 : decode code 2081 = .ok (.ireturn, 1) := by decide +kernel
def B_La_law_2019 (L : Nat) (xs : Nat → Int32) (k18 : Int32 → Sto → Option (Bool × Sto)) (v3 : Int32) (σ : Sto) : Option (Bool × Sto) :=
  (if inb (v3 + (1 : Int32)) L = true then (if inb (v3 + (2 : Int32)) L = true then (if inb (v3 + (3 : Int32)) L = true then ((f_FR_feed (xs (Int32.toNatClampNeg (v3 + (1 : Int32)))) ((lsh (Int32.toInt64 (xs (Int32.toNatClampNeg (v3 + (2 : Int32))))) (32 : Int32)) ||| ((Int32.toInt64 (xs (Int32.toNatClampNeg (v3 + (3 : Int32))))) &&& (4294967295 : Int64))) σ).bind fun q57 => (if inb (v3 + (1 : Int32)) L = true then (if inb (v3 + (2 : Int32)) L = true then (if inb (v3 + (3 : Int32)) L = true then ((f_Mo_feed (xs (Int32.toNatClampNeg (v3 + (1 : Int32)))) ((lsh (Int32.toInt64 (xs (Int32.toNatClampNeg (v3 + (2 : Int32))))) (32 : Int32)) ||| ((Int32.toInt64 (xs (Int32.toNatClampNeg (v3 + (3 : Int32))))) &&& (4294967295 : Int64))) q57.2).bind fun q58 => (if q57.1 = q58.1 then B_La_law_2686 L xs k18 v3 q58.2
 else some (false, q58.2))) else none) else none) else none)) else none) else none) else none)
set_option maxHeartbeats 4000000 in
set_option maxRecDepth 100000 in
theorem vB_La_law_2019 {X : Xt} {E : En} {L : Nat} {xs : Nat → Int32} (hX : SX X E L xs) (g : GG X E 200 code R_La 4) {k18 : Int32 → Sto → Option (Bool × Sto)} (hk18 : ∀ (v3 : Int32) (σ : Sto), VV X E code 4 eB 18 [(0, .ref (E.2.1 999)), (1, .ref (E.2.1 0)), (2, .ref (E.2.1 48)), (3, .int v3)] [] σ (k18 v3 σ)) (v3 : Int32) (σ : Sto) : VV X E code 4 eB 2019 [(0, .ref (E.2.1 999)), (1, .ref (E.2.1 0)), (2, .ref (E.2.1 48)), (3, .int v3)] [] σ (B_La_law_2019 L xs k18 v3 σ) := by
  unfold B_La_law_2019
  refine v_aload_n 1 g d_La_law_2019 rfl ?_
  refine v_aload_n 0 g d_La_law_2020 rfl ?_
  refine v_iload_n 3 g d_La_law_2021 rfl ?_
  refine v_iconst (v := (1 : Int32)) g d_La_law_2022 (by decide +kernel) ?_
  refine v_iadd g d_La_law_2023 ?_
  refine v_sld hX g d_La_law_2024 (fun _ => ?_)
  refine v_aload_n 0 g d_La_law_2025 rfl ?_
  refine v_iload_n 3 g d_La_law_2026 rfl ?_
  refine v_iconst (v := (2 : Int32)) g d_La_law_2027 (by decide +kernel) ?_
  refine v_iadd g d_La_law_2028 ?_
  refine v_sld hX g d_La_law_2029 (fun _ => ?_)
  refine v_i2l g d_La_law_2030 ?_
  refine v_bipush (v := (32 : Int32)) g d_La_law_2031 (by decide +kernel) ?_
  refine v_lshl g d_La_law_2033 ?_
  refine v_aload_n 0 g d_La_law_2034 rfl ?_
  refine v_iload_n 3 g d_La_law_2035 rfl ?_
  refine v_iconst (v := (3 : Int32)) g d_La_law_2036 (by decide +kernel) ?_
  refine v_iadd g d_La_law_2037 ?_
  refine v_sld hX g d_La_law_2038 (fun _ => ?_)
  refine v_i2l g d_La_law_2039 ?_
  refine v_ldc2 (v := (4294967295 : Int64)) g (m1 1567 (by decide +kernel) (by decide +kernel)) d_La_law_2040 ?_
  refine v_land g d_La_law_2043 ?_
  refine v_lor g d_La_law_2044 ?_
  refine v_callI (r_V (rest := []) [.int (xs (Int32.toNatClampNeg (v3 + (1 : Int32)))), .long ((lsh (Int32.toInt64 (xs (Int32.toNatClampNeg (v3 + (2 : Int32))))) (32 : Int32)) ||| ((Int32.toInt64 (xs (Int32.toNatClampNeg (v3 + (3 : Int32))))) &&& (4294967295 : Int64)))] g (m1 818 (by decide +kernel) (by decide +kernel)) yv_FR_feed rfl (fun r σ1 h => sp_FR_feed g.2.2.1  h) rfl rfl (by decide) (Nat.le_of_ble_eq_true rfl) d_La_law_2045) (fun q57 => ?_)
  refine v_aload_n 2 g d_La_law_2048 rfl ?_
  refine v_aload_n 0 g d_La_law_2049 rfl ?_
  refine v_iload_n 3 g d_La_law_2050 rfl ?_
  refine v_iconst (v := (1 : Int32)) g d_La_law_2051 (by decide +kernel) ?_
  refine v_iadd g d_La_law_2052 ?_
  refine v_sld hX g d_La_law_2053 (fun _ => ?_)
  refine v_aload_n 0 g d_La_law_2054 rfl ?_
  refine v_iload_n 3 g d_La_law_2055 rfl ?_
  refine v_iconst (v := (2 : Int32)) g d_La_law_2056 (by decide +kernel) ?_
  refine v_iadd g d_La_law_2057 ?_
  refine v_sld hX g d_La_law_2058 (fun _ => ?_)
  refine v_i2l g d_La_law_2059 ?_
  refine v_bipush (v := (32 : Int32)) g d_La_law_2060 (by decide +kernel) ?_
  refine v_lshl g d_La_law_2062 ?_
  refine v_aload_n 0 g d_La_law_2063 rfl ?_
  refine v_iload_n 3 g d_La_law_2064 rfl ?_
  refine v_iconst (v := (3 : Int32)) g d_La_law_2065 (by decide +kernel) ?_
  refine v_iadd g d_La_law_2066 ?_
  refine v_sld hX g d_La_law_2067 (fun _ => ?_)
  refine v_i2l g d_La_law_2068 ?_
  refine v_ldc2 (v := (4294967295 : Int64)) g (m1 1567 (by decide +kernel) (by decide +kernel)) d_La_law_2069 ?_
  refine v_land g d_La_law_2072 ?_
  refine v_lor g d_La_law_2073 ?_
  refine v_callI (r_V (rest := [.int q57.1]) [.int (xs (Int32.toNatClampNeg (v3 + (1 : Int32)))), .long ((lsh (Int32.toInt64 (xs (Int32.toNatClampNeg (v3 + (2 : Int32))))) (32 : Int32)) ||| ((Int32.toInt64 (xs (Int32.toNatClampNeg (v3 + (3 : Int32))))) &&& (4294967295 : Int64)))] g (m1 1436 (by decide +kernel) (by decide +kernel)) yv_Mo_feed rfl (fun r σ1 h => sp_Mo_feed g.2.2.1  h) rfl rfl (by decide) (Nat.le_of_ble_eq_true rfl) d_La_law_2074) (fun q58 => ?_)
  refine v_icmp_eq 2686 g d_La_law_2077 (by decide) (fun _ => ?_) (fun _ => ?_)
  · exact v_sub [0,1,2,3] rfl (vB_La_law_2686 hX g hk18 v3 q58.2)
  · refine v_iconst (v := (0 : Int32)) g d_La_law_2080 (by decide +kernel) ?_
    exact v_ret d_La_law_2081 rfl
