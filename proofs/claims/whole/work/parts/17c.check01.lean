theorem ck_State_massOf : mchk k_State_massOf 892 121 890 891 [0, 210, 0, 0, 210, 0, 0, 0, 0, 0, 0, 0] = true := by decide +kernel
theorem ck_State_season : mchk k_State_season 896 121 894 895 [0, 210, 0, 0, 0] = true := by decide +kernel
theorem ck_Rule_worth : mchk k_Rule_worth 900 120 898 899 [0, 0, 0, 0, 0, 0, 0, 0, 190, 0, 0, 188, 0, 0, 0, 0, 0, 0, 0, 0, 0, 0, 0, 0, 0, 0, 0, 0, 0, 0, 0, 0, 0, 0, 0, 0, 0, 189, 0, 0, 0, 0, 0, 0, 0, 0, 0, 0, 0, 0, 0, 0, 0, 0, 0, 0, 0, 0, 0, 0, 0, 189, 0, 0, 0, 0, 0, 0, 0, 0, 0, 0, 189, 0, 0, 0, 0, 0, 0, 0, 0, 0, 0, 0, 0, 189, 0, 0, 0, 0, 0, 189, 0, 0, 0, 0, 0, 0, 0, 0, 0, 0, 0, 0, 0, 0, 0, 189, 0, 0, 0, 0, 0, 0, 189, 0, 0, 0, 901, 0, 0, 189, 0, 0, 0, 904, 905, 0, 906, 909, 0, 0, 0, 0, 0, 0] = true := by decide +kernel
theorem ck_Rule_join : mchk k_Rule_join 903 120 902 0 [0, 0, 0, 0, 0, 0, 0, 0, 0, 0, 0, 0, 0, 0, 0, 0, 0, 0, 0, 0, 0, 0, 0, 0, 0, 0, 0, 0, 0, 0, 0, 0, 0, 0, 0, 0, 0, 0, 0, 0, 0, 0, 0, 0, 0, 0, 0, 0, 0, 0, 0, 0, 0, 0, 0, 0] = true := by decide +kernel
theorem ck_D_held : mchk k_D_held 914 117 913 0 [0, 0, 0, 0, 915, 916, 0] = true := by decide +kernel
theorem ck_D_bridge : mchk k_D_bridge 920 117 918 919 [0, 0, 921, 0, 0, 0, 0, 0, 0, 464, 0, 0, 926, 0, 0, 464, 0, 0, 926, 0, 0, 464, 0, 0, 926, 0, 0, 468, 0, 927, 0, 0, 0, 0, 0, 0, 0] = true := by decide +kernel
theorem ck_D_isBridge : mchk k_D_isBridge 924 117 923 20 [0, 0, 0, 464, 925, 0, 0, 534, 0] = true := by decide +kernel
theorem ck_State_stands : mchk k_State_stands 930 121 928 929 [0, 210, 0, 0, 0, 0, 0, 0, 0, 0, 0, 0] = true := by decide +kernel
theorem ck_D_far : mchk k_D_far 934 117 932 933 [0, 0, 935, 0, 0, 0, 935, 0, 0, 468, 0, 0, 939, 0, 0, 0] = true := by decide +kernel
theorem ck_D_isIsle : mchk k_D_isIsle 938 117 937 21 [0, 0, 0, 464, 850, 0, 0, 534, 0] = true := by decide +kernel
theorem ck_D_count : mchk k_D_count 943 117 941 942 [0, 0, 0, 464, 850, 0, 0, 468, 944, 0, 0, 464, 868, 0, 0, 464, 925, 0, 0, 477, 0, 0, 463, 522, 0, 0, 468, 952, 0, 0, 478, 0, 0, 0, 953, 0, 0, 0, 953, 0, 0, 0, 953, 0, 0, 0, 953, 0, 0, 476, 965, 0, 0, 470, 969, 0, 0, 470, 973, 0, 869, 0] = true := by decide +kernel
theorem ck_State_heads : mchk k_State_heads 947 121 945 946 [0, 0, 0, 0, 0, 0, 0, 0, 0, 948, 0, 0, 0, 0, 0, 0] = true := by decide +kernel
theorem ck_State_isHead : mchk k_State_isHead 951 121 949 950 [0, 210, 0, 0, 0, 0, 0, 0, 0, 0, 0, 0] = true := by decide +kernel
theorem ck_D_ofWater : mchk k_D_ofWater 956 117 955 22 [0, 957, 0, 0, 464, 0, 961, 0, 0, 0] = true := by decide +kernel
theorem ck_D_hasSea : mchk k_D_hasSea 960 117 959 23 [0, 464, 850, 0, 0, 0, 0, 0] = true := by decide +kernel
theorem ck_Sea_ofWater : mchk k_Sea_ofWater 964 119 962 963 [0, 174, 0, 0, 0] = true := by decide +kernel
theorem ck_Charts_many : mchk k_Charts_many 968 129 966 967 [0, 443, 0] = true := by decide +kernel
theorem ck_Past_undoable : mchk k_Past_undoable 972 123 970 971 [0, 225, 0] = true := by decide +kernel
theorem ck_Past_noted : mchk k_Past_noted 976 123 974 975 [0, 227, 0] = true := by decide +kernel
theorem ck_D_pull : mchk k_D_pull 980 117 978 979 [0, 0, 0, 477, 0, 0, 534, 0, 0, 0, 0, 0, 478, 0, 473, 0, 0, 0, 534, 0, 0, 466, 0, 0, 0, 0, 981, 0, 0] = true := by decide +kernel
theorem ck_Course_holdBy : mchk k_Course_holdBy 984 126 982 983 [0, 0, 299, 0] = true := by decide +kernel
theorem ck_D_turn : mchk k_D_turn 988 117 986 987 [0, 0, 864, 0, 0, 0, 0, 468, 0, 989, 0, 0] = true := by decide +kernel
theorem ck_State_turnKind : mchk k_State_turnKind 992 121 990 991 [0, 210, 0, 0, 0, 0, 0, 210, 0, 0, 0, 0, 0, 0, 0] = true := by decide +kernel
theorem ck_D_price : mchk k_D_price 996 117 994 995 [0, 0, 935, 0, 0, 0, 0, 534, 0, 0, 468, 0, 997, 0, 0, 0, 0, 0, 468, 0, 0, 1001, 0, 0] = true := by decide +kernel
theorem ck_State_priceOf : mchk k_State_priceOf 1000 121 998 999 [0, 210, 0, 0, 0, 0, 0] = true := by decide +kernel
theorem ck_State_tellPrice : mchk k_State_tellPrice 1004 121 1002 1003 [0, 210, 0, 0, 0, 0, 0, 0] = true := by decide +kernel
theorem ck_D_chance : mchk k_D_chance 1008 117 1006 1007 [0, 0, 0, 534, 0, 0, 471, 0, 0, 1009, 0, 0, 0, 0, 0] = true := by decide +kernel
theorem ck_Weather_tell : mchk k_Weather_tell 1012 124 1010 1011 [0, 0, 0, 248, 0, 0, 0, 0, 248, 0, 0, 0, 0, 0, 0, 249, 0, 0, 0, 0, 249, 0, 0, 0, 0] = true := by decide +kernel
theorem ck_D_image : mchk k_D_image 1016 117 1014 1015 [0, 957, 0, 0, 0, 0, 469, 0, 468, 1017, 0, 0, 479, 0, 468, 952, 0] = true := by decide +kernel
theorem ck_State_copy : mchk k_State_copy 1020 121 1018 1019 [0, 210, 0, 0, 210, 0, 0, 1021, 0] = true := by decide +kernel
theorem ck_D_back : mchk k_D_back 1025 117 1023 1024 [0, 479, 0, 0, 0, 0, 468, 0, 469, 1017, 0, 470, 1026, 0, 468, 952, 0] = true := by decide +kernel
theorem ck_D_go : mchk k_D_go 1030 117 1028 1029 [0, 957, 0, 0, 0, 0, 534, 0, 0, 0, 0, 0, 0, 0, 0, 0, 470, 0, 468, 1031, 0, 1037, 0, 0, 0, 468, 952, 0] = true := by decide +kernel
theorem ck_Past_keep : mchk k_Past_keep 1034 123 1032 1033 [0, 223, 0, 226, 0, 0, 1035, 0, 0, 226, 0, 0, 0, 0, 226, 0, 0, 0, 225, 0, 0, 1036, 225, 0] = true := by decide +kernel
theorem ck_D_passSeason : mchk k_D_passSeason 1040 117 1039 24 [0, 473, 1041, 0, 473, 0, 468, 1045, 0, 470, 0, 473, 1147, 0, 473, 1151, 0, 473, 1155, 1159, 0] = true := by decide +kernel
theorem ck_Course_drawByTold : mchk k_Course_drawByTold 1044 126 1042 1043 [0, 0, 300, 0, 0, 301, 0] = true := by decide +kernel
theorem ck_Course_pass : mchk k_Course_pass 1048 126 1046 1047 [0, 0, 1049, 0, 1071, 0, 0, 289, 0, 288, 0, 1076, 0, 0, 1096, 0, 0, 1105, 0, 0, 302, 0, 0, 0, 0, 0, 0, 0, 1119, 0, 0, 0, 302, 0, 0, 302, 0, 0, 0, 0, 1132, 0, 1143, 0] = true := by decide +kernel
theorem ck_Course_drawByTies : mchk k_Course_drawByTies 1052 126 1051 25 [0, 291, 0, 1053, 0, 292, 0, 1053, 0, 0, 0, 0, 288, 1054, 0, 0, 300, 0, 0, 0, 0, 0, 0, 288, 0, 0, 879, 0, 0, 288, 0, 0, 879, 0, 0, 0, 0, 0, 0, 0, 880, 0, 288, 0, 0, 879, 881, 0, 0, 0, 0, 0, 0, 1055, 0, 0, 0, 0, 0, 0, 301, 0, 0, 0, 0, 295, 0, 0, 0, 296, 0, 0, 0, 297, 0, 0, 0, 298, 0, 0, 881, 0, 0, 0, 0, 295, 0, 0, 0, 296, 0, 0, 0, 1055, 0, 0, 0] = true := by decide +kernel
theorem ck_Course_drawTwo : mchk k_Course_drawTwo 1058 126 1057 26 [0, 0, 0, 0, 0, 0, 0, 885, 0, 0, 0, 0, 0, 0, 0, 1059, 0, 0, 1059, 0, 0, 0, 0, 0, 0, 0, 0, 1063, 0, 0, 1063, 0, 0, 0, 0, 0, 0, 0, 1067, 0, 0, 0, 1067, 0, 0, 291, 0, 0, 0, 0, 0, 0, 0, 292, 0, 0, 0, 0, 0, 0, 0, 291, 0, 0, 0, 0, 0, 0, 0, 292, 0, 0, 0, 0, 0, 0, 0] = true := by decide +kernel
theorem ck_State_xOf : mchk k_State_xOf 1062 121 1060 1061 [0, 210, 0, 0, 210, 0, 0, 0, 0, 0, 0, 0] = true := by decide +kernel
theorem ck_State_yOf : mchk k_State_yOf 1066 121 1064 1065 [0, 210, 0, 0, 210, 0, 0, 0, 0, 0, 0, 0] = true := by decide +kernel
theorem ck_State_headOf : mchk k_State_headOf 1070 121 1068 1069 [0, 210, 0, 0, 0, 0, 0] = true := by decide +kernel
theorem ck_Course_doesTradePull : mchk k_Course_doesTradePull 1074 126 1073 27 [0, 288, 0, 1075, 0, 0, 0, 0, 0, 0] = true := by decide +kernel
theorem ck_Trade_run : mchk k_Trade_run 1079 125 1077 1078 [0, 264, 0, 1080, 0, 265, 0, 1080, 0, 266, 0, 1080, 0, 0, 0, 0, 1081, 0, 0, 267, 0, 0, 0, 0, 1082, 0, 0, 0, 0, 0, 0, 0, 1081, 0, 0, 0, 1083, 0, 0, 0, 0, 1082, 0, 0, 0, 266, 0, 0, 0, 0, 1082, 0, 0, 0, 0, 0, 1084, 0, 0, 0] = true := by decide +kernel
theorem ck_Trade_buyAll : mchk k_Trade_buyAll 1087 125 1086 28 [0, 0, 0, 0, 0, 0, 266, 0, 0, 0, 0, 0, 0, 0, 1088, 0, 0, 0, 0, 0, 0, 266, 0, 0, 0, 267, 0, 0, 1095, 0, 0, 264, 0, 0, 0, 0, 0, 0, 0, 0, 0, 0, 0, 265, 0, 0, 0, 0, 0, 268, 0, 0, 0, 0, 266, 0, 0, 0, 0, 0, 0, 0, 267, 0, 0, 0, 0, 0, 0, 0, 0, 0] = true := by decide +kernel
theorem ck_Trade_cheapest : mchk k_Trade_cheapest 1091 125 1090 29 [0, 0, 0, 0, 0, 0, 1081, 0, 0, 0, 0, 0, 0, 1083, 0, 0, 267, 0, 0, 0, 0, 0, 0, 1082, 0, 0, 0, 1082, 0, 0, 0, 1092, 0, 0, 1093, 0, 0, 0, 1094, 0, 0, 0, 0, 0, 0, 0, 0, 268, 0, 0, 0, 0, 0, 268, 0, 0, 0, 0] = true := by decide +kernel
theorem ck_Course_drawByTrade : mchk k_Course_drawByTrade 1099 126 1098 30 [0, 0, 0, 0, 288, 1100, 0, 0, 0, 0, 0, 288, 1100, 0, 0, 289, 0, 0, 1101, 0, 0, 0, 0, 0, 0, 289, 0, 0, 1101, 1055, 0, 0, 0, 0, 0] = true := by decide +kernel
theorem ck_Trade_bought : mchk k_Trade_bought 1104 125 1102 1103 [0, 264, 0, 0, 0, 0, 0, 0, 0] = true := by decide +kernel
theorem ck_Course_moveAll : mchk k_Course_moveAll 1108 126 1107 31 [0, 0, 304, 0, 0, 0, 0, 0, 0, 0, 1109, 0, 0, 0, 0, 889, 1110, 0, 0, 293, 0, 0, 0, 1059, 0, 0, 294, 0, 0, 0, 1063, 0, 0, 0, 0, 293, 0, 0, 0, 291, 0, 0, 0, 0, 0, 0, 294, 0, 0, 0, 292, 0, 0, 0, 0, 0, 1111, 0, 0, 304, 0, 0, 1059, 0, 293, 0, 0, 0, 1116, 0, 0, 1063, 0, 294, 0, 0, 0, 1116, 0, 0, 304, 0, 0, 0] = true := by decide +kernel
theorem ck_State_putAt : mchk k_State_putAt 1114 121 1112 1113 [0, 210, 0, 0, 0, 0, 0, 0, 0, 0, 210, 0, 0, 0, 0, 0, 0, 0, 0] = true := by decide +kernel
theorem ck_Course_joinFirstPair : mchk k_Course_joinFirstPair 1122 126 1121 32 [0, 288, 0, 1075, 0, 0, 0, 0, 0, 0, 0, 0, 0, 0, 0, 0, 0, 0, 0, 1109, 0, 0, 0, 1109, 0, 0, 0, 0, 885, 0, 0, 0, 0, 0, 0, 1123, 0, 0, 0, 0, 0, 0, 0, 0] = true := by decide +kernel
theorem ck_Course_joinTwo : mchk k_Course_joinTwo 1126 126 1125 33 [0, 293, 0, 0, 0, 293, 0, 0, 0, 1116, 0, 294, 0, 0, 0, 294, 0, 0, 0, 1116, 0, 0, 0, 0, 0, 0, 885, 0, 0, 288, 0, 1075, 0, 0, 0, 0, 0, 0, 0, 0, 0, 0, 0, 0, 0, 1127, 0] = true := by decide +kernel
theorem ck_State_becomeOne : mchk k_State_becomeOne 1130 121 1128 1129 [0, 210, 0, 0, 0, 0, 0, 210, 0, 0, 0, 0, 0, 210, 0, 0, 0, 0, 0, 1131, 0, 0, 210, 0, 0, 0, 0, 0, 0, 210, 0, 0, 0, 0, 0, 0, 0, 0, 0, 0, 0, 0, 0, 0, 210, 0, 0, 0, 0, 0, 0, 0, 210, 0, 0, 0, 0, 0, 0, 0, 0] = true := by decide +kernel
theorem ck_Course_snapBridges : mchk k_Course_snapBridges 1135 126 1134 34 [0, 0, 303, 0, 0, 0, 0, 288, 1136, 0, 0, 0, 288, 0, 0, 1137, 0, 288, 0, 0, 1137, 885, 0, 0, 0, 1138, 0, 0, 0, 288, 0, 0, 1137, 0, 0, 0, 1139, 0, 0, 303, 0, 0, 303, 0, 0, 0] = true := by decide +kernel
theorem ck_State_breakBridge : mchk k_State_breakBridge 1142 121 1140 1141 [0, 210, 0, 0, 0, 0, 0, 0] = true := by decide +kernel
theorem ck_State_nextSeason : mchk k_State_nextSeason 1146 121 1144 1145 [0, 210, 0, 0, 0, 0, 0, 0, 0] = true := by decide +kernel
theorem ck_Course_parts : mchk k_Course_parts 1150 126 1148 1149 [0, 302, 0] = true := by decide +kernel
theorem ck_Course_snapped : mchk k_Course_snapped 1154 126 1152 1153 [0, 303, 0] = true := by decide +kernel
theorem ck_Course_gone : mchk k_Course_gone 1158 126 1156 1157 [0, 304, 0] = true := by decide +kernel
theorem ck_Past_putBy : mchk k_Past_putBy 1162 123 1160 1161 [0, 224, 0, 228, 0, 0, 0, 0, 0, 224, 0, 228, 0, 0, 0, 0, 0, 0, 0, 224, 0, 228, 0, 0, 0, 0, 0, 0, 0, 0, 228, 0, 0, 0, 0, 228, 0, 0, 0, 227, 0, 0, 1036, 227, 0] = true := by decide +kernel
theorem ck_D_years : mchk k_D_years 1166 117 1164 1165 [0, 957, 0, 0, 0, 0, 534, 0, 0, 0, 0, 471, 0, 1167, 0, 0, 0, 0, 0, 0, 470, 0, 468, 1031, 0, 471, 0, 468, 0, 464, 868, 1171, 0, 1037, 0, 0, 0, 468, 952, 0] = true := by decide +kernel
theorem ck_Weather_begin : mchk k_Weather_begin 1170 124 1168 1169 [0, 0, 250, 0] = true := by decide +kernel
theorem ck_Weather_strike : mchk k_Weather_strike 1174 124 1172 1173 [0, 0, 1175, 0, 248, 0, 0, 0, 1181, 0, 0, 1175, 0, 249, 0, 0, 0, 0, 0, 0, 1175, 1193, 0] = true := by decide +kernel
theorem ck_Weather_draw : mchk k_Weather_draw 1178 124 1177 35 [0, 0, 250, 1179, 0, 1180, 0, 250, 0, 0, 0, 250, 0, 0, 0, 0, 0, 0, 0, 0, 0] = true := by decide +kernel
theorem ck_Weather_toss : mchk k_Weather_toss 1184 124 1183 36 [0, 0, 0, 1185, 1175, 1186, 0, 0, 0, 1175, 0, 0, 0, 0, 0, 1175, 0, 0, 0, 0, 0, 0, 0, 0, 0, 0, 1190, 0, 0, 0, 0, 1191, 0, 0, 1192, 0] = true := by decide +kernel
theorem ck_State_headByNumber : mchk k_State_headByNumber 1189 121 1187 1188 [0, 0, 0, 0, 0, 0, 0, 0, 0, 948, 0, 0, 0, 0, 0, 0, 0, 0, 0, 0, 0] = true := by decide +kernel
theorem ck_D_undo : mchk k_D_undo 1197 117 1195 1196 [0, 470, 0, 468, 1198, 0, 0, 468, 952, 0, 0, 0] = true := by decide +kernel
theorem ck_Past_takeBack : mchk k_Past_takeBack 1201 123 1199 1200 [0, 225, 0, 0, 0, 0, 0, 226, 0, 0, 0, 0, 0, 0, 226, 0, 0, 225, 0, 0, 225, 0, 0, 223, 0, 226, 0, 1202, 0, 227, 0, 0, 0, 228, 0, 0, 0, 0, 0, 0, 228, 0, 0, 227, 0, 0, 227, 0, 0] = true := by decide +kernel
theorem ck_State_copyButPrices : mchk k_State_copyButPrices 1205 121 1203 1204 [0, 210, 0, 0, 210, 0, 0, 1021, 0] = true := by decide +kernel
theorem ck_D_log : mchk k_D_log 1209 117 1207 1208 [0, 470, 0, 0, 1210, 0] = true := by decide +kernel
theorem ck_Past_read : mchk k_Past_read 1213 123 1211 1212 [0, 0, 0, 227, 0, 0, 0, 0, 0, 0, 0, 0, 0, 0, 0, 0, 228, 0, 0, 0, 0, 0, 0, 0, 0, 0, 0, 224, 0, 0, 0, 0, 0, 0, 0] = true := by decide +kernel
