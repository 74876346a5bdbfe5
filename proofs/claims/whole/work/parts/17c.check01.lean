theorem ck_State_massOf : mchk k_State_massOf 893 122 891 892 [0, 211, 0, 0, 211, 0, 0, 0, 0, 0, 0, 0] = true := by decide +kernel
theorem ck_State_season : mchk k_State_season 897 122 895 896 [0, 211, 0, 0, 0] = true := by decide +kernel
theorem ck_Rule_worth : mchk k_Rule_worth 901 121 899 900 [0, 0, 0, 0, 0, 0, 191, 0, 0, 189, 0, 0, 0, 0, 0, 0, 0, 0, 0, 0, 0, 0, 0, 0, 0, 190, 0, 0, 0, 0, 0, 0, 0, 0, 0, 0, 0, 0, 0, 0, 0, 0, 0, 0, 0, 0, 0, 0, 0, 190, 0, 0, 0, 0, 0, 0, 0, 0, 0, 0, 190, 0, 0, 0, 0, 0, 902, 0, 0, 0, 0, 0, 0, 0, 0, 190, 0, 0, 0, 0, 0, 190, 0, 0, 0, 0, 0, 0, 0, 0, 0, 0, 0, 0, 0, 0, 0, 190, 0, 0, 0, 0, 0, 0, 190, 0, 0, 0, 906, 0, 0, 190, 0, 0, 0, 909, 910, 0, 911, 914, 0, 0, 0, 0, 0, 0] = true := by decide +kernel
theorem ck_Rule_endOfClause : mchk k_Rule_endOfClause 905 121 904 20 [0, 0, 0, 0, 191, 0, 0, 189, 0, 0, 0, 0, 0, 0, 0, 0] = true := by decide +kernel
theorem ck_Rule_join : mchk k_Rule_join 908 121 907 0 [0, 0, 0, 0, 0, 0, 0, 0, 0, 0, 0, 0, 0, 0, 0, 0, 0, 0, 0, 0, 0, 0, 0, 0, 0, 0, 0, 0, 0, 0, 0, 0, 0, 0, 0, 0, 0, 0, 0, 0, 0, 0, 0, 0, 0, 0, 0, 0, 0, 0, 0, 0, 0, 0, 0, 0] = true := by decide +kernel
theorem ck_D_held : mchk k_D_held 919 118 918 0 [0, 0, 0, 0, 920, 921, 0] = true := by decide +kernel
theorem ck_D_bridge : mchk k_D_bridge 925 118 923 924 [0, 0, 926, 0, 0, 0, 0, 0, 0, 465, 0, 0, 931, 0, 0, 465, 0, 0, 931, 0, 0, 465, 0, 0, 931, 0, 0, 469, 0, 932, 0, 0, 0, 0, 0, 0, 0] = true := by decide +kernel
theorem ck_D_isBridge : mchk k_D_isBridge 929 118 928 21 [0, 0, 0, 465, 930, 0, 0, 535, 0] = true := by decide +kernel
theorem ck_State_stands : mchk k_State_stands 935 122 933 934 [0, 211, 0, 0, 0, 0, 0, 0, 0, 0, 0, 0] = true := by decide +kernel
theorem ck_D_far : mchk k_D_far 939 118 937 938 [0, 0, 940, 0, 0, 0, 940, 0, 0, 469, 0, 0, 944, 0, 0, 0] = true := by decide +kernel
theorem ck_D_isIsle : mchk k_D_isIsle 943 118 942 22 [0, 0, 0, 465, 851, 0, 0, 535, 0] = true := by decide +kernel
theorem ck_D_count : mchk k_D_count 948 118 946 947 [0, 0, 0, 465, 851, 0, 0, 469, 949, 0, 0, 465, 869, 0, 0, 465, 930, 0, 0, 478, 0, 0, 464, 523, 0, 0, 469, 957, 0, 0, 479, 0, 0, 0, 958, 0, 0, 0, 958, 0, 0, 0, 958, 0, 0, 0, 958, 0, 0, 477, 970, 0, 0, 471, 974, 0, 0, 471, 978, 0, 870, 0] = true := by decide +kernel
theorem ck_State_heads : mchk k_State_heads 952 122 950 951 [0, 0, 0, 0, 0, 0, 0, 0, 0, 953, 0, 0, 0, 0, 0, 0] = true := by decide +kernel
theorem ck_State_isHead : mchk k_State_isHead 956 122 954 955 [0, 211, 0, 0, 0, 0, 0, 0, 0, 0, 0, 0] = true := by decide +kernel
theorem ck_D_ofWater : mchk k_D_ofWater 961 118 960 23 [0, 962, 0, 0, 465, 0, 966, 0, 0, 0] = true := by decide +kernel
theorem ck_D_hasSea : mchk k_D_hasSea 965 118 964 24 [0, 465, 851, 0, 0, 0, 0, 0] = true := by decide +kernel
theorem ck_Sea_ofWater : mchk k_Sea_ofWater 969 120 967 968 [0, 175, 0, 0, 0] = true := by decide +kernel
theorem ck_Charts_many : mchk k_Charts_many 973 130 971 972 [0, 444, 0] = true := by decide +kernel
theorem ck_Past_undoable : mchk k_Past_undoable 977 124 975 976 [0, 226, 0] = true := by decide +kernel
theorem ck_Past_noted : mchk k_Past_noted 981 124 979 980 [0, 228, 0] = true := by decide +kernel
theorem ck_D_pull : mchk k_D_pull 985 118 983 984 [0, 0, 0, 478, 0, 0, 535, 0, 0, 0, 0, 0, 479, 0, 474, 0, 0, 0, 535, 0, 0, 467, 0, 0, 0, 0, 986, 0, 0] = true := by decide +kernel
theorem ck_Course_holdBy : mchk k_Course_holdBy 989 127 987 988 [0, 0, 300, 0] = true := by decide +kernel
theorem ck_D_turn : mchk k_D_turn 993 118 991 992 [0, 0, 865, 0, 0, 0, 0, 469, 0, 994, 0, 0] = true := by decide +kernel
theorem ck_State_turnKind : mchk k_State_turnKind 997 122 995 996 [0, 211, 0, 0, 0, 0, 0, 211, 0, 0, 0, 0, 0, 0, 0] = true := by decide +kernel
theorem ck_D_price : mchk k_D_price 1001 118 999 1000 [0, 0, 940, 0, 0, 0, 0, 535, 0, 0, 469, 0, 1002, 0, 0, 0, 0, 0, 469, 0, 0, 1006, 0, 0] = true := by decide +kernel
theorem ck_State_priceOf : mchk k_State_priceOf 1005 122 1003 1004 [0, 211, 0, 0, 0, 0, 0] = true := by decide +kernel
theorem ck_State_tellPrice : mchk k_State_tellPrice 1009 122 1007 1008 [0, 211, 0, 0, 0, 0, 0, 0] = true := by decide +kernel
theorem ck_D_chance : mchk k_D_chance 1013 118 1011 1012 [0, 0, 0, 535, 0, 0, 472, 0, 0, 1014, 0, 0, 0, 0, 0] = true := by decide +kernel
theorem ck_Weather_tell : mchk k_Weather_tell 1017 125 1015 1016 [0, 0, 0, 249, 0, 0, 0, 0, 249, 0, 0, 0, 0, 0, 0, 250, 0, 0, 0, 0, 250, 0, 0, 0, 0] = true := by decide +kernel
theorem ck_D_image : mchk k_D_image 1021 118 1019 1020 [0, 962, 0, 0, 0, 0, 470, 0, 469, 1022, 0, 0, 480, 0, 469, 957, 0] = true := by decide +kernel
theorem ck_State_copy : mchk k_State_copy 1025 122 1023 1024 [0, 211, 0, 0, 211, 0, 0, 1026, 0] = true := by decide +kernel
theorem ck_D_back : mchk k_D_back 1030 118 1028 1029 [0, 480, 0, 0, 0, 0, 469, 0, 470, 1022, 0, 471, 1031, 0, 469, 957, 0] = true := by decide +kernel
theorem ck_D_go : mchk k_D_go 1035 118 1033 1034 [0, 962, 0, 0, 0, 0, 535, 0, 0, 0, 0, 0, 0, 0, 0, 0, 471, 0, 469, 1036, 0, 1042, 0, 0, 0, 469, 957, 0] = true := by decide +kernel
theorem ck_Past_keep : mchk k_Past_keep 1039 124 1037 1038 [0, 224, 0, 227, 0, 0, 1040, 0, 0, 227, 0, 0, 0, 0, 227, 0, 0, 0, 226, 0, 0, 1041, 226, 0] = true := by decide +kernel
theorem ck_D_passSeason : mchk k_D_passSeason 1045 118 1044 25 [0, 474, 1046, 0, 474, 0, 469, 1050, 0, 471, 0, 474, 1152, 0, 474, 1156, 0, 474, 1160, 1164, 0] = true := by decide +kernel
theorem ck_Course_drawByTold : mchk k_Course_drawByTold 1049 127 1047 1048 [0, 0, 301, 0, 0, 302, 0] = true := by decide +kernel
theorem ck_Course_pass : mchk k_Course_pass 1053 127 1051 1052 [0, 0, 1054, 0, 1076, 0, 0, 290, 0, 289, 0, 1081, 0, 0, 1101, 0, 0, 1110, 0, 0, 303, 0, 0, 0, 0, 0, 0, 0, 1124, 0, 0, 0, 303, 0, 0, 303, 0, 0, 0, 0, 1137, 0, 1148, 0] = true := by decide +kernel
theorem ck_Course_drawByTies : mchk k_Course_drawByTies 1057 127 1056 26 [0, 292, 0, 1058, 0, 293, 0, 1058, 0, 0, 0, 0, 289, 1059, 0, 0, 301, 0, 0, 0, 0, 0, 0, 289, 0, 0, 880, 0, 0, 289, 0, 0, 880, 0, 0, 0, 0, 0, 0, 0, 881, 0, 289, 0, 0, 880, 882, 0, 0, 0, 0, 0, 0, 1060, 0, 0, 0, 0, 0, 0, 302, 0, 0, 0, 0, 296, 0, 0, 0, 297, 0, 0, 0, 298, 0, 0, 0, 299, 0, 0, 882, 0, 0, 0, 0, 296, 0, 0, 0, 297, 0, 0, 0, 1060, 0, 0, 0] = true := by decide +kernel
theorem ck_Course_drawTwo : mchk k_Course_drawTwo 1063 127 1062 27 [0, 0, 0, 0, 0, 0, 0, 886, 0, 0, 0, 0, 0, 0, 0, 1064, 0, 0, 1064, 0, 0, 0, 0, 0, 0, 0, 0, 1068, 0, 0, 1068, 0, 0, 0, 0, 0, 0, 0, 1072, 0, 0, 0, 1072, 0, 0, 292, 0, 0, 0, 0, 0, 0, 0, 293, 0, 0, 0, 0, 0, 0, 0, 292, 0, 0, 0, 0, 0, 0, 0, 293, 0, 0, 0, 0, 0, 0, 0] = true := by decide +kernel
theorem ck_State_xOf : mchk k_State_xOf 1067 122 1065 1066 [0, 211, 0, 0, 211, 0, 0, 0, 0, 0, 0, 0] = true := by decide +kernel
theorem ck_State_yOf : mchk k_State_yOf 1071 122 1069 1070 [0, 211, 0, 0, 211, 0, 0, 0, 0, 0, 0, 0] = true := by decide +kernel
theorem ck_State_headOf : mchk k_State_headOf 1075 122 1073 1074 [0, 211, 0, 0, 0, 0, 0] = true := by decide +kernel
theorem ck_Course_doesTradePull : mchk k_Course_doesTradePull 1079 127 1078 28 [0, 289, 0, 1080, 0, 0, 0, 0, 0, 0] = true := by decide +kernel
theorem ck_Trade_run : mchk k_Trade_run 1084 126 1082 1083 [0, 265, 0, 1085, 0, 266, 0, 1085, 0, 267, 0, 1085, 0, 0, 0, 0, 1086, 0, 0, 268, 0, 0, 0, 0, 1087, 0, 0, 0, 0, 0, 0, 0, 1086, 0, 0, 0, 1088, 0, 0, 0, 0, 1087, 0, 0, 0, 267, 0, 0, 0, 0, 1087, 0, 0, 0, 0, 0, 1089, 0, 0, 0] = true := by decide +kernel
theorem ck_Trade_buyAll : mchk k_Trade_buyAll 1092 126 1091 29 [0, 0, 0, 0, 0, 0, 267, 0, 0, 0, 0, 0, 0, 0, 1093, 0, 0, 0, 0, 0, 0, 267, 0, 0, 0, 268, 0, 0, 1100, 0, 0, 265, 0, 0, 0, 0, 0, 0, 0, 0, 0, 0, 0, 266, 0, 0, 0, 0, 0, 269, 0, 0, 0, 0, 267, 0, 0, 0, 0, 0, 0, 0, 268, 0, 0, 0, 0, 0, 0, 0, 0, 0] = true := by decide +kernel
theorem ck_Trade_cheapest : mchk k_Trade_cheapest 1096 126 1095 30 [0, 0, 0, 0, 0, 0, 1086, 0, 0, 0, 0, 0, 0, 1088, 0, 0, 268, 0, 0, 0, 0, 0, 0, 1087, 0, 0, 0, 1087, 0, 0, 0, 1097, 0, 0, 1098, 0, 0, 0, 1099, 0, 0, 0, 0, 0, 0, 0, 0, 269, 0, 0, 0, 0, 0, 269, 0, 0, 0, 0] = true := by decide +kernel
theorem ck_Course_drawByTrade : mchk k_Course_drawByTrade 1104 127 1103 31 [0, 0, 0, 0, 289, 1105, 0, 0, 0, 0, 0, 289, 1105, 0, 0, 290, 0, 0, 1106, 0, 0, 0, 0, 0, 0, 290, 0, 0, 1106, 1060, 0, 0, 0, 0, 0] = true := by decide +kernel
theorem ck_Trade_bought : mchk k_Trade_bought 1109 126 1107 1108 [0, 265, 0, 0, 0, 0, 0, 0, 0] = true := by decide +kernel
theorem ck_Course_moveAll : mchk k_Course_moveAll 1113 127 1112 32 [0, 0, 305, 0, 0, 0, 0, 0, 0, 0, 1114, 0, 0, 0, 0, 890, 1115, 0, 0, 294, 0, 0, 0, 1064, 0, 0, 295, 0, 0, 0, 1068, 0, 0, 0, 0, 294, 0, 0, 0, 292, 0, 0, 0, 0, 0, 0, 295, 0, 0, 0, 293, 0, 0, 0, 0, 0, 1116, 0, 0, 305, 0, 0, 1064, 0, 294, 0, 0, 0, 1121, 0, 0, 1068, 0, 295, 0, 0, 0, 1121, 0, 0, 305, 0, 0, 0] = true := by decide +kernel
theorem ck_State_putAt : mchk k_State_putAt 1119 122 1117 1118 [0, 211, 0, 0, 0, 0, 0, 0, 0, 0, 211, 0, 0, 0, 0, 0, 0, 0, 0] = true := by decide +kernel
theorem ck_Course_joinFirstPair : mchk k_Course_joinFirstPair 1127 127 1126 33 [0, 289, 0, 1080, 0, 0, 0, 0, 0, 0, 0, 0, 0, 0, 0, 0, 0, 0, 0, 1114, 0, 0, 0, 1114, 0, 0, 0, 0, 886, 0, 0, 0, 0, 0, 0, 1128, 0, 0, 0, 0, 0, 0, 0, 0] = true := by decide +kernel
theorem ck_Course_joinTwo : mchk k_Course_joinTwo 1131 127 1130 34 [0, 294, 0, 0, 0, 294, 0, 0, 0, 1121, 0, 295, 0, 0, 0, 295, 0, 0, 0, 1121, 0, 0, 0, 0, 0, 0, 886, 0, 0, 289, 0, 1080, 0, 0, 0, 0, 0, 0, 0, 0, 0, 0, 0, 0, 0, 1132, 0] = true := by decide +kernel
theorem ck_State_becomeOne : mchk k_State_becomeOne 1135 122 1133 1134 [0, 211, 0, 0, 0, 0, 0, 211, 0, 0, 0, 0, 0, 211, 0, 0, 0, 0, 0, 1136, 0, 0, 211, 0, 0, 0, 0, 0, 0, 211, 0, 0, 0, 0, 0, 0, 0, 0, 0, 0, 0, 0, 0, 0, 211, 0, 0, 0, 0, 0, 0, 0, 211, 0, 0, 0, 0, 0, 0, 0, 0] = true := by decide +kernel
theorem ck_Course_snapBridges : mchk k_Course_snapBridges 1140 127 1139 35 [0, 0, 304, 0, 0, 0, 0, 289, 1141, 0, 0, 0, 289, 0, 0, 1142, 0, 289, 0, 0, 1142, 886, 0, 0, 0, 1143, 0, 0, 0, 289, 0, 0, 1142, 0, 0, 0, 1144, 0, 0, 304, 0, 0, 304, 0, 0, 0] = true := by decide +kernel
theorem ck_State_breakBridge : mchk k_State_breakBridge 1147 122 1145 1146 [0, 211, 0, 0, 0, 0, 0, 0] = true := by decide +kernel
theorem ck_State_nextSeason : mchk k_State_nextSeason 1151 122 1149 1150 [0, 211, 0, 0, 0, 0, 0, 0, 0] = true := by decide +kernel
theorem ck_Course_parts : mchk k_Course_parts 1155 127 1153 1154 [0, 303, 0] = true := by decide +kernel
theorem ck_Course_snapped : mchk k_Course_snapped 1159 127 1157 1158 [0, 304, 0] = true := by decide +kernel
theorem ck_Course_gone : mchk k_Course_gone 1163 127 1161 1162 [0, 305, 0] = true := by decide +kernel
theorem ck_Past_putBy : mchk k_Past_putBy 1167 124 1165 1166 [0, 225, 0, 229, 0, 0, 0, 0, 0, 225, 0, 229, 0, 0, 0, 0, 0, 0, 0, 225, 0, 229, 0, 0, 0, 0, 0, 0, 0, 0, 229, 0, 0, 0, 0, 229, 0, 0, 0, 228, 0, 0, 1041, 228, 0] = true := by decide +kernel
theorem ck_D_years : mchk k_D_years 1171 118 1169 1170 [0, 962, 0, 0, 0, 0, 535, 0, 0, 0, 0, 472, 0, 1172, 0, 0, 0, 0, 0, 0, 471, 0, 469, 1036, 0, 472, 0, 469, 0, 465, 869, 1176, 0, 1042, 0, 0, 0, 469, 957, 0] = true := by decide +kernel
theorem ck_Weather_begin : mchk k_Weather_begin 1175 125 1173 1174 [0, 0, 251, 0] = true := by decide +kernel
theorem ck_Weather_strike : mchk k_Weather_strike 1179 125 1177 1178 [0, 0, 1180, 0, 249, 0, 0, 0, 1186, 0, 0, 1180, 0, 250, 0, 0, 0, 0, 0, 0, 1180, 1198, 0] = true := by decide +kernel
theorem ck_Weather_draw : mchk k_Weather_draw 1183 125 1182 36 [0, 0, 251, 1184, 0, 1185, 0, 251, 0, 0, 0, 251, 0, 0, 0, 0, 0, 0, 0, 0, 0] = true := by decide +kernel
theorem ck_Weather_toss : mchk k_Weather_toss 1189 125 1188 37 [0, 0, 0, 1190, 1180, 1191, 0, 0, 0, 1180, 0, 0, 0, 0, 0, 1180, 0, 0, 0, 0, 0, 0, 0, 0, 0, 0, 1195, 0, 0, 0, 0, 1196, 0, 0, 1197, 0] = true := by decide +kernel
theorem ck_State_headByNumber : mchk k_State_headByNumber 1194 122 1192 1193 [0, 0, 0, 0, 0, 0, 0, 0, 0, 953, 0, 0, 0, 0, 0, 0, 0, 0, 0, 0, 0] = true := by decide +kernel
theorem ck_D_undo : mchk k_D_undo 1202 118 1200 1201 [0, 471, 0, 469, 1203, 0, 0, 469, 957, 0, 0, 0] = true := by decide +kernel
theorem ck_Past_takeBack : mchk k_Past_takeBack 1206 124 1204 1205 [0, 226, 0, 0, 0, 0, 0, 227, 0, 0, 0, 0, 0, 0, 227, 0, 0, 226, 0, 0, 226, 0, 0, 224, 0, 227, 0, 1207, 0, 228, 0, 0, 0, 229, 0, 0, 0, 0, 0, 0, 229, 0, 0, 228, 0, 0, 228, 0, 0] = true := by decide +kernel
theorem ck_State_copyButPrices : mchk k_State_copyButPrices 1210 122 1208 1209 [0, 211, 0, 0, 211, 0, 0, 1026, 0] = true := by decide +kernel
theorem ck_D_log : mchk k_D_log 1214 118 1212 1213 [0, 471, 0, 0, 1215, 0] = true := by decide +kernel
theorem ck_Past_read : mchk k_Past_read 1218 124 1216 1217 [0, 0, 0, 228, 0, 0, 0, 0, 0, 0, 0, 0, 0, 0, 0, 0, 229, 0, 0, 0, 0, 0, 0, 0, 0, 0, 0, 225, 0, 0, 0, 0, 0, 0, 0] = true := by decide +kernel
