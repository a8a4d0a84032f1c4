set_option maxRecDepth 20000 in
theorem ggL_law_X11_init : GoodIn wsL_law wsX11_init := goodIn_r _ [8, 9, 10, 11, 12, 13, 14, 15, 16, 17, 18, 19, 20, 21, 22, 23, 24, 25, 26, 27, 28, 29, 30, 31, 32, 33, 34, 35, 36, 37, 38, 39, 40, 41, 42, 43, 44, 45, 46, 47, 48, 49, 50, 51, 52, 53, 54, 55, 56, 57, 58, 59, 60, 61, 62, 63, 64, 65, 66, 67, 68, 69, 70, 71, 72, 73, 74, 75, 76, 77, 78, 79, 80, 81, 82, 83, 84, 85, 86, 87, 88, 89, 90, 91, 92, 93, 94, 95, 96, 97, 98, 99, 100, 101, 102, 103, 104, 105, 106, 107, 108, 109, 110, 111, 112, 113, 114, 115, 116, 117, 118, 119, 120, 121, 122, 123, 124, 125, 126, 127, 128, 129, 130, 131, 132, 133, 134, 135, 136, 137, 138, 139, 140, 141, 142, 143, 144, 145, 146, 147, 148, 149, 150, 151, 152, 153, 154, 155, 156, 157, 158, 159, 160, 161, 162, 163, 164, 165, 166, 167, 168, 1090, 1091, 1060, 1061, 1062, 1063, 1064, 1065, 1066, 1067, 1068, 1069, 1070, 1092, 1093, 1094, 1095, 1096, 1097, 1098, 1099, 1100, 1101, 1102, 1103, 1104, 1105, 1106, 1107, 1108, 1109, 1110, 1111, 1112, 1113, 1114, 1115, 1116, 1117, 1118, 1119, 1120, 1121, 1122, 1123, 1124, 1125, 1126, 1127, 1128, 1129, 1130, 1131, 1132, 1133, 1134, 1135, 1136, 1137, 1138, 1139, 1140, 1141, 1142, 1143, 1144, 1145, 1146, 1147] (by decide +kernel) (by decide +kernel)
set_option maxRecDepth 20000 in
theorem gL_law_X11_init : GoodIn wsL_law (wsX11_init) := ggL_law_X11_init
set_option maxRecDepth 20000 in
theorem ggL_law_X12_init : GoodIn wsL_law wsX12_init := goodIn_r _ [171, 172, 10, 11, 53, 173, 174, 175, 176, 177, 178, 179, 142, 180, 181, 182, 183, 184, 185, 1071, 1072, 1073, 1074, 1075, 1076, 1077, 1078, 1079, 1080, 1081, 1082, 1083, 1084, 1085, 1086, 1087, 1088, 1089] (by decide +kernel) (by decide +kernel)
set_option maxRecDepth 20000 in
theorem gL_law_X12_init : GoodIn wsL_law (wsX12_init) := ggL_law_X12_init
set_option maxRecDepth 20000 in
theorem ggL_law_X11_appendCharacter : GoodIn wsL_law wsX11_appendCharacter := goodIn_r _ [189, 15, 190, 191, 192, 2, 193, 194, 195, 196, 14, 197, 55, 54, 1060, 1061, 1062, 1063, 1064, 1065, 1066, 1067, 1068, 1069, 1070, 1090, 1091] (by decide +kernel) (by decide +kernel)
set_option maxRecDepth 20000 in
theorem gL_law_X11_appendCharacter : GoodIn wsL_law (wsV RL 13 RX11 yX11_appendCharacter wsX11_appendCharacter) := goodIn_app (goodIn_of _ (by decide +kernel)) ggL_law_X11_appendCharacter
set_option maxRecDepth 20000 in
theorem ggL_law_X12_appendCharacter : GoodIn wsL_law wsX12_appendCharacter := goodIn_r _ [201, 202, 203, 175, 204, 205, 5, 206, 1071, 1072, 1073, 1074, 1075, 1076, 1077, 1078, 1079, 1080, 1081, 1082, 1083, 1084, 1085, 1086, 1087, 1088, 1089] (by decide +kernel) (by decide +kernel)
set_option maxRecDepth 20000 in
theorem gL_law_X12_appendCharacter : GoodIn wsL_law (wsV RL 17 RX12 yX12_appendCharacter wsX12_appendCharacter) := goodIn_app (goodIn_of _ (by decide +kernel)) ggL_law_X12_appendCharacter
set_option maxRecDepth 20000 in
theorem ggL_law_X11_clearText : GoodIn wsL_law wsX11_clearText := goodIn_r _ [210, 15, 190, 1060, 1061, 1062, 1063, 1064, 1065, 1066, 1067, 1068, 1069, 1070, 1090, 1091] (by decide +kernel) (by decide +kernel)
set_option maxRecDepth 20000 in
theorem gL_law_X11_clearText : GoodIn wsL_law (wsV RL 18 RX11 yX11_clearText wsX11_clearText) := goodIn_app (goodIn_of _ (by decide +kernel)) ggL_law_X11_clearText
set_option maxRecDepth 20000 in
theorem ggL_law_X12_clearText : GoodIn wsL_law wsX12_clearText := goodIn_r _ [214, 203, 1071, 1072, 1073, 1074, 1075, 1076, 1077, 1078, 1079, 1080, 1081, 1082, 1083, 1084, 1085, 1086, 1087, 1088, 1089] (by decide +kernel) (by decide +kernel)
set_option maxRecDepth 20000 in
theorem gL_law_X12_clearText : GoodIn wsL_law (wsV RL 22 RX12 yX12_clearText wsX12_clearText) := goodIn_app (goodIn_of _ (by decide +kernel)) ggL_law_X12_clearText
set_option maxRecDepth 20000 in
theorem ggL_law_X11_loadWorks : GoodIn wsL_law wsX11_loadWorks := goodIn_r _ [218, 19, 37, 29, 219, 33, 220, 15, 190, 221, 222, 223, 224, 18, 225, 63, 226, 64, 65, 227, 228, 229, 230, 231, 14, 232, 55, 233, 234, 235, 236, 54, 192, 2, 193, 237, 238, 239, 240, 241, 242, 243, 244, 245, 246, 247, 248, 249, 250, 251, 252, 253, 254, 255, 256, 257, 258, 259, 260, 261, 262, 263, 264, 265, 266, 267, 268, 269, 270, 271, 272, 273, 274, 275, 276, 277, 278, 279, 280, 281, 282, 283, 284, 36, 285, 121, 122, 123, 119, 286, 287, 288, 289, 290, 291, 292, 26, 293, 88, 92, 96, 294, 295, 296, 62, 297, 69, 298, 299, 300, 301, 70, 73, 74, 71, 72, 302, 303, 304, 91, 305, 100, 101, 102, 103, 104, 105, 106, 107, 108, 306, 307, 308, 95, 309, 112, 310, 311, 312, 313, 113, 114, 314, 1060, 1061, 1062, 1063, 1064, 1065, 1066, 1067, 1068, 1069, 1070, 1092, 1093, 1094, 1145, 1146, 1147, 1090, 1091, 1130, 1131, 1132, 1133, 1134, 1135, 1103, 1104, 1105, 1106, 1100, 1101, 1102, 1136, 1137, 1138, 1139, 1140, 1141, 1142, 1143, 1144] (by decide +kernel) (by decide +kernel)
set_option maxRecDepth 20000 in
theorem gL_law_X11_loadWorks : GoodIn wsL_law (wsV RL 23 RX11 yX11_loadWorks wsX11_loadWorks) := goodIn_app (goodIn_of _ (by decide +kernel)) ggL_law_X11_loadWorks
set_option maxRecDepth 20000 in
theorem ggL_law_X12_loadWorks : GoodIn wsL_law wsX12_loadWorks := goodIn_r _ [318, 176, 319, 320, 173, 203, 321, 322, 323, 5, 324, 325, 326, 327, 328, 329, 330, 331, 175, 332, 333, 334, 335, 336, 337, 204, 205, 206, 338, 339, 340, 341, 342, 343, 344, 345, 346, 347, 348, 349, 350, 351, 352, 353, 354, 355, 356, 174, 1071, 1072, 1073, 1074, 1075, 1076, 1077, 1078, 1079, 1080, 1081, 1082, 1083, 1084, 1085, 1086, 1087, 1088, 1089] (by decide +kernel) (by decide +kernel)
set_option maxRecDepth 20000 in
theorem gL_law_X12_loadWorks : GoodIn wsL_law (wsV RL 26 RX12 yX12_loadWorks wsX12_loadWorks) := goodIn_app (goodIn_of _ (by decide +kernel)) ggL_law_X12_loadWorks
set_option maxRecDepth 20000 in
theorem ggL_law_X11_expandNumbers : GoodIn wsL_law wsX11_expandNumbers := goodIn_r _ [360, 23, 29, 221, 15, 190, 41, 361, 362, 363, 364, 22, 365, 79, 80, 81, 83, 366, 367, 368, 369, 370, 371, 372, 373, 374, 375, 82, 192, 2, 193, 376, 377, 378, 379, 380, 381, 382, 383, 384, 385, 386, 387, 388, 389, 390, 40, 391, 132, 392, 128, 130, 134, 393, 129, 394, 395, 396, 397, 398, 399, 400, 401, 402, 403, 404, 405, 406, 407, 408, 409, 410, 411, 412, 62, 413, 70, 71, 72, 414, 415, 416, 417, 418, 419, 420, 421, 422, 136, 423, 424, 425, 426, 427, 95, 428, 114, 429, 430, 431, 432, 433, 434, 1060, 1061, 1062, 1063, 1064, 1065, 1066, 1067, 1068, 1069, 1070, 1130, 1131, 1132, 1133, 1134, 1135, 1090, 1091, 1095, 1096, 1097, 1098, 1099, 1107, 1108, 1109, 1110, 1111, 1112, 1136, 1137, 1138, 1139, 1140, 1141, 1142, 1143, 1144, 1145, 1146, 1147] (by decide +kernel) (by decide +kernel)
set_option maxRecDepth 20000 in
theorem gL_law_X11_expandNumbers : GoodIn wsL_law (wsV RL 27 RX11 yX11_expandNumbers wsX11_expandNumbers) := goodIn_app (goodIn_of _ (by decide +kernel)) ggL_law_X11_expandNumbers
set_option maxRecDepth 20000 in
theorem ggL_law_X12_expandNumbers : GoodIn wsL_law wsX12_expandNumbers := goodIn_r _ [438, 203, 175, 439, 173, 440, 441, 442, 5, 443, 178, 177, 444, 445, 446, 447, 448, 449, 450, 451, 452, 453, 454, 455, 456, 457, 458, 459, 460, 461, 462, 463, 464, 465, 466, 467, 468, 469, 470, 471, 472, 473, 474, 475, 476, 477, 478, 479, 204, 205, 206, 480, 481, 482, 483, 1071, 1072, 1073, 1074, 1075, 1076, 1077, 1078, 1079, 1080, 1081, 1082, 1083, 1084, 1085, 1086, 1087, 1088, 1089] (by decide +kernel) (by decide +kernel)
set_option maxRecDepth 20000 in
theorem gL_law_X12_expandNumbers : GoodIn wsL_law (wsV RL 30 RX12 yX12_expandNumbers wsX12_expandNumbers) := goodIn_app (goodIn_of _ (by decide +kernel)) ggL_law_X12_expandNumbers
set_option maxRecDepth 20000 in
theorem ggL_law_X11_removeWork : GoodIn wsL_law wsX11_removeWork := goodIn_r _ [487, 29, 37, 33, 220, 488, 489, 490, 62, 491, 69, 282, 283, 284, 36, 285, 121, 122, 123, 119, 286, 287, 288, 289, 290, 291, 292, 26, 293, 88, 92, 96, 294, 295, 296, 297, 298, 299, 300, 301, 70, 73, 74, 71, 72, 302, 303, 304, 91, 305, 100, 101, 102, 103, 104, 105, 106, 107, 108, 306, 307, 308, 95, 309, 112, 310, 311, 312, 313, 113, 114, 492, 493, 494, 495, 496, 497, 498, 499, 500, 501, 502, 503, 504, 426, 427, 428, 505, 506, 507, 508, 1060, 1061, 1062, 1063, 1064, 1065, 1066, 1067, 1068, 1069, 1070, 1145, 1146, 1147, 1130, 1131, 1132, 1133, 1134, 1135, 1103, 1104, 1105, 1106, 1100, 1101, 1102, 1136, 1137, 1138, 1139, 1140, 1141, 1142, 1143, 1144] (by decide +kernel) (by decide +kernel)
set_option maxRecDepth 20000 in
theorem gL_law_X11_removeWork : GoodIn wsL_law (wsV RL 31 RX11 yX11_removeWork wsX11_removeWork) := goodIn_app (goodIn_of _ (by decide +kernel)) ggL_law_X11_removeWork
set_option maxRecDepth 20000 in
theorem ggL_law_X12_removeWork : GoodIn wsL_law wsX12_removeWork := goodIn_r _ [512, 173, 513, 514, 515, 5, 516, 204, 205, 206, 352, 353, 354, 355, 356, 174, 472, 473, 474, 475, 476, 477, 478, 479, 1071, 1072, 1073, 1074, 1075, 1076, 1077, 1078, 1079, 1080, 1081, 1082, 1083, 1084, 1085, 1086, 1087, 1088, 1089] (by decide +kernel) (by decide +kernel)
set_option maxRecDepth 20000 in
theorem gL_law_X12_removeWork : GoodIn wsL_law (wsV RL 34 RX12 yX12_removeWork wsX12_removeWork) := goodIn_app (goodIn_of _ (by decide +kernel)) ggL_law_X12_removeWork
set_option maxRecDepth 20000 in
theorem ggL_law_X11_setYear : GoodIn wsL_law wsX11_setYear := goodIn_r _ [520, 29, 37, 521, 488, 489, 490, 62, 491, 69, 191, 192, 2, 193, 282, 283, 284, 36, 285, 121, 122, 123, 119, 286, 287, 288, 289, 290, 291, 292, 26, 293, 88, 92, 96, 294, 295, 296, 297, 298, 299, 300, 301, 70, 73, 74, 71, 72, 302, 303, 304, 91, 305, 100, 101, 102, 103, 104, 105, 106, 107, 108, 306, 307, 308, 95, 309, 112, 310, 311, 312, 313, 113, 114, 1060, 1061, 1062, 1063, 1064, 1065, 1066, 1067, 1068, 1069, 1070, 1130, 1131, 1132, 1133, 1134, 1135, 1103, 1104, 1105, 1106, 1100, 1101, 1102, 1136, 1137, 1138, 1139, 1140, 1141, 1142, 1143, 1144, 1145, 1146, 1147] (by decide +kernel) (by decide +kernel)
set_option maxRecDepth 20000 in
theorem gL_law_X11_setYear : GoodIn wsL_law (wsV RL 35 RX11 yX11_setYear wsX11_setYear) := goodIn_app (goodIn_of _ (by decide +kernel)) ggL_law_X11_setYear
set_option maxRecDepth 20000 in
theorem ggL_law_X12_setYear : GoodIn wsL_law wsX12_setYear := goodIn_r _ [525, 526, 513, 514, 515, 5, 516, 173, 204, 205, 206, 527, 528, 529, 530, 352, 353, 354, 355, 356, 174, 1071, 1072, 1073, 1074, 1075, 1076, 1077, 1078, 1079, 1080, 1081, 1082, 1083, 1084, 1085, 1086, 1087, 1088, 1089] (by decide +kernel) (by decide +kernel)
set_option maxRecDepth 20000 in
theorem gL_law_X12_setYear : GoodIn wsL_law (wsV RL 39 RX12 yX12_setYear wsX12_setYear) := goodIn_app (goodIn_of _ (by decide +kernel)) ggL_law_X12_setYear
set_option maxRecDepth 20000 in
theorem ggL_law_X11_setStyle : GoodIn wsL_law wsX11_setStyle := goodIn_r _ [534, 37, 31, 535, 191, 192, 2, 193, 282, 283, 284, 36, 285, 121, 122, 123, 119, 286, 287, 288, 289, 290, 291, 292, 26, 293, 88, 92, 96, 294, 295, 296, 62, 297, 69, 298, 299, 300, 301, 70, 73, 74, 71, 72, 302, 303, 304, 91, 305, 100, 101, 102, 103, 104, 105, 106, 107, 108, 306, 307, 308, 95, 309, 112, 310, 311, 312, 313, 113, 114, 1060, 1061, 1062, 1063, 1064, 1065, 1066, 1067, 1068, 1069, 1070, 1136, 1137, 1138, 1139, 1140, 1141, 1142, 1143, 1144, 1103, 1104, 1105, 1106, 1100, 1101, 1102, 1130, 1131, 1132, 1133, 1134, 1135, 1145, 1146, 1147] (by decide +kernel) (by decide +kernel)
set_option maxRecDepth 20000 in
theorem gL_law_X11_setStyle : GoodIn wsL_law (wsV RL 40 RX11 yX11_setStyle wsX11_setStyle) := goodIn_app (goodIn_of _ (by decide +kernel)) ggL_law_X11_setStyle
set_option maxRecDepth 20000 in
theorem ggL_law_X12_setStyle : GoodIn wsL_law wsX12_setStyle := goodIn_r _ [539, 540, 204, 205, 5, 206, 527, 528, 529, 530, 173, 352, 353, 354, 355, 356, 174, 1071, 1072, 1073, 1074, 1075, 1076, 1077, 1078, 1079, 1080, 1081, 1082, 1083, 1084, 1085, 1086, 1087, 1088, 1089] (by decide +kernel) (by decide +kernel)
set_option maxRecDepth 20000 in
theorem gL_law_X12_setStyle : GoodIn wsL_law (wsV RL 43 RX12 yX12_setStyle wsX12_setStyle) := goodIn_app (goodIn_of _ (by decide +kernel)) ggL_law_X12_setStyle
set_option maxRecDepth 20000 in
theorem ggL_law_X11_setEtAl : GoodIn wsL_law wsX11_setEtAl := goodIn_r _ [544, 37, 31, 545, 546, 191, 192, 2, 193, 282, 283, 284, 36, 285, 121, 122, 123, 119, 286, 287, 288, 289, 290, 291, 292, 26, 293, 88, 92, 96, 294, 295, 296, 62, 297, 69, 298, 299, 300, 301, 70, 73, 74, 71, 72, 302, 303, 304, 91, 305, 100, 101, 102, 103, 104, 105, 106, 107, 108, 306, 307, 308, 95, 309, 112, 310, 311, 312, 313, 113, 114, 1060, 1061, 1062, 1063, 1064, 1065, 1066, 1067, 1068, 1069, 1070, 1136, 1137, 1138, 1139, 1140, 1141, 1142, 1143, 1144, 1103, 1104, 1105, 1106, 1100, 1101, 1102, 1130, 1131, 1132, 1133, 1134, 1135, 1145, 1146, 1147] (by decide +kernel) (by decide +kernel)
set_option maxRecDepth 20000 in
theorem gL_law_X11_setEtAl : GoodIn wsL_law (wsV RL 44 RX11 yX11_setEtAl wsX11_setEtAl) := goodIn_app (goodIn_of _ (by decide +kernel)) ggL_law_X11_setEtAl
set_option maxRecDepth 20000 in
theorem ggL_law_X12_setEtAl : GoodIn wsL_law wsX12_setEtAl := goodIn_r _ [550, 551, 552, 173, 204, 205, 5, 206, 527, 528, 529, 530, 352, 353, 354, 355, 356, 174, 1071, 1072, 1073, 1074, 1075, 1076, 1077, 1078, 1079, 1080, 1081, 1082, 1083, 1084, 1085, 1086, 1087, 1088, 1089] (by decide +kernel) (by decide +kernel)
set_option maxRecDepth 20000 in
theorem gL_law_X12_setEtAl : GoodIn wsL_law (wsV RL 47 RX12 yX12_setEtAl wsX12_setEtAl) := goodIn_app (goodIn_of _ (by decide +kernel)) ggL_law_X12_setEtAl
set_option maxRecDepth 20000 in
theorem ggL_law_X11_setDisambiguation : GoodIn wsL_law wsX11_setDisambiguation := goodIn_r _ [556, 37, 31, 557, 191, 192, 2, 193, 282, 283, 284, 36, 285, 121, 122, 123, 119, 286, 287, 288, 289, 290, 291, 292, 26, 293, 88, 92, 96, 294, 295, 296, 62, 297, 69, 298, 299, 300, 301, 70, 73, 74, 71, 72, 302, 303, 304, 91, 305, 100, 101, 102, 103, 104, 105, 106, 107, 108, 306, 307, 308, 95, 309, 112, 310, 311, 312, 313, 113, 114, 1060, 1061, 1062, 1063, 1064, 1065, 1066, 1067, 1068, 1069, 1070, 1136, 1137, 1138, 1139, 1140, 1141, 1142, 1143, 1144, 1103, 1104, 1105, 1106, 1100, 1101, 1102, 1130, 1131, 1132, 1133, 1134, 1135, 1145, 1146, 1147] (by decide +kernel) (by decide +kernel)
set_option maxRecDepth 20000 in
theorem gL_law_X11_setDisambiguation : GoodIn wsL_law (wsV RL 48 RX11 yX11_setDisambiguation wsX11_setDisambiguation) := goodIn_app (goodIn_of _ (by decide +kernel)) ggL_law_X11_setDisambiguation
set_option maxRecDepth 20000 in
theorem ggL_law_X12_setDisambiguation : GoodIn wsL_law wsX12_setDisambiguation := goodIn_r _ [561, 562, 204, 205, 5, 206, 527, 528, 529, 530, 173, 352, 353, 354, 355, 356, 174, 1071, 1072, 1073, 1074, 1075, 1076, 1077, 1078, 1079, 1080, 1081, 1082, 1083, 1084, 1085, 1086, 1087, 1088, 1089] (by decide +kernel) (by decide +kernel)
set_option maxRecDepth 20000 in
theorem gL_law_X12_setDisambiguation : GoodIn wsL_law (wsV RL 51 RX12 yX12_setDisambiguation wsX12_setDisambiguation) := goodIn_app (goodIn_of _ (by decide +kernel)) ggL_law_X12_setDisambiguation
set_option maxRecDepth 20000 in
theorem ggL_law_X11_setCollapseLevel : GoodIn wsL_law wsX11_setCollapseLevel := goodIn_r _ [566, 37, 31, 567, 191, 192, 2, 193, 282, 283, 284, 36, 285, 121, 122, 123, 119, 286, 287, 288, 289, 290, 291, 292, 26, 293, 88, 92, 96, 294, 295, 296, 62, 297, 69, 298, 299, 300, 301, 70, 73, 74, 71, 72, 302, 303, 304, 91, 305, 100, 101, 102, 103, 104, 105, 106, 107, 108, 306, 307, 308, 95, 309, 112, 310, 311, 312, 313, 113, 114, 1060, 1061, 1062, 1063, 1064, 1065, 1066, 1067, 1068, 1069, 1070, 1136, 1137, 1138, 1139, 1140, 1141, 1142, 1143, 1144, 1103, 1104, 1105, 1106, 1100, 1101, 1102, 1130, 1131, 1132, 1133, 1134, 1135, 1145, 1146, 1147] (by decide +kernel) (by decide +kernel)
set_option maxRecDepth 20000 in
theorem gL_law_X11_setCollapseLevel : GoodIn wsL_law (wsV RL 52 RX11 yX11_setCollapseLevel wsX11_setCollapseLevel) := goodIn_app (goodIn_of _ (by decide +kernel)) ggL_law_X11_setCollapseLevel
set_option maxRecDepth 20000 in
theorem ggL_law_X12_setCollapseLevel : GoodIn wsL_law wsX12_setCollapseLevel := goodIn_r _ [571, 540, 204, 205, 5, 206, 527, 528, 529, 530, 173, 352, 353, 354, 355, 356, 174, 1071, 1072, 1073, 1074, 1075, 1076, 1077, 1078, 1079, 1080, 1081, 1082, 1083, 1084, 1085, 1086, 1087, 1088, 1089] (by decide +kernel) (by decide +kernel)
set_option maxRecDepth 20000 in
theorem gL_law_X12_setCollapseLevel : GoodIn wsL_law (wsV RL 55 RX12 yX12_setCollapseLevel wsX12_setCollapseLevel) := goodIn_app (goodIn_of _ (by decide +kernel)) ggL_law_X12_setCollapseLevel
set_option maxRecDepth 20000 in
theorem ggL_law_X11_setSortSlot : GoodIn wsL_law wsX11_setSortSlot := goodIn_r _ [575, 37, 31, 576, 577, 191, 192, 2, 193, 282, 283, 284, 36, 285, 121, 122, 123, 119, 286, 287, 288, 289, 290, 291, 292, 26, 293, 88, 92, 96, 294, 295, 296, 62, 297, 69, 298, 299, 300, 301, 70, 73, 74, 71, 72, 302, 303, 304, 91, 305, 100, 101, 102, 103, 104, 105, 106, 107, 108, 306, 307, 308, 95, 309, 112, 310, 311, 312, 313, 113, 114, 1060, 1061, 1062, 1063, 1064, 1065, 1066, 1067, 1068, 1069, 1070, 1136, 1137, 1138, 1139, 1140, 1141, 1142, 1143, 1144, 1103, 1104, 1105, 1106, 1100, 1101, 1102, 1130, 1131, 1132, 1133, 1134, 1135, 1145, 1146, 1147] (by decide +kernel) (by decide +kernel)
set_option maxRecDepth 20000 in
theorem gL_law_X11_setSortSlot : GoodIn wsL_law (wsV RL 56 RX11 yX11_setSortSlot wsX11_setSortSlot) := goodIn_app (goodIn_of _ (by decide +kernel)) ggL_law_X11_setSortSlot
set_option maxRecDepth 20000 in
theorem ggL_law_X12_setSortSlot : GoodIn wsL_law wsX12_setSortSlot := goodIn_r _ [581, 540, 552, 173, 204, 205, 5, 206, 527, 528, 529, 530, 352, 353, 354, 355, 356, 174, 1071, 1072, 1073, 1074, 1075, 1076, 1077, 1078, 1079, 1080, 1081, 1082, 1083, 1084, 1085, 1086, 1087, 1088, 1089] (by decide +kernel) (by decide +kernel)
set_option maxRecDepth 20000 in
theorem gL_law_X12_setSortSlot : GoodIn wsL_law (wsV RL 60 RX12 yX12_setSortSlot wsX12_setSortSlot) := goodIn_app (goodIn_of _ (by decide +kernel)) ggL_law_X12_setSortSlot
set_option maxRecDepth 20000 in
theorem ggL_law_X11_setNumbering : GoodIn wsL_law wsX11_setNumbering := goodIn_r _ [585, 37, 31, 586, 191, 192, 2, 193, 282, 283, 284, 36, 285, 121, 122, 123, 119, 286, 287, 288, 289, 290, 291, 292, 26, 293, 88, 92, 96, 294, 295, 296, 62, 297, 69, 298, 299, 300, 301, 70, 73, 74, 71, 72, 302, 303, 304, 91, 305, 100, 101, 102, 103, 104, 105, 106, 107, 108, 306, 307, 308, 95, 309, 112, 310, 311, 312, 313, 113, 114, 1060, 1061, 1062, 1063, 1064, 1065, 1066, 1067, 1068, 1069, 1070, 1136, 1137, 1138, 1139, 1140, 1141, 1142, 1143, 1144, 1103, 1104, 1105, 1106, 1100, 1101, 1102, 1130, 1131, 1132, 1133, 1134, 1135, 1145, 1146, 1147] (by decide +kernel) (by decide +kernel)
set_option maxRecDepth 20000 in
theorem gL_law_X11_setNumbering : GoodIn wsL_law (wsV RL 61 RX11 yX11_setNumbering wsX11_setNumbering) := goodIn_app (goodIn_of _ (by decide +kernel)) ggL_law_X11_setNumbering
set_option maxRecDepth 20000 in
theorem ggL_law_X12_setNumbering : GoodIn wsL_law wsX12_setNumbering := goodIn_r _ [590, 204, 205, 5, 206, 527, 528, 529, 530, 173, 352, 353, 354, 355, 356, 174, 1071, 1072, 1073, 1074, 1075, 1076, 1077, 1078, 1079, 1080, 1081, 1082, 1083, 1084, 1085, 1086, 1087, 1088, 1089] (by decide +kernel) (by decide +kernel)
set_option maxRecDepth 20000 in
theorem gL_law_X12_setNumbering : GoodIn wsL_law (wsV RL 64 RX12 yX12_setNumbering wsX12_setNumbering) := goodIn_app (goodIn_of _ (by decide +kernel)) ggL_law_X12_setNumbering
set_option maxRecDepth 20000 in
theorem ggL_law_X11_setCiteOrder : GoodIn wsL_law wsX11_setCiteOrder := goodIn_r _ [594, 37, 31, 595, 191, 192, 2, 193, 282, 283, 284, 36, 285, 121, 122, 123, 119, 286, 287, 288, 289, 290, 291, 292, 26, 293, 88, 92, 96, 294, 295, 296, 62, 297, 69, 298, 299, 300, 301, 70, 73, 74, 71, 72, 302, 303, 304, 91, 305, 100, 101, 102, 103, 104, 105, 106, 107, 108, 306, 307, 308, 95, 309, 112, 310, 311, 312, 313, 113, 114, 1060, 1061, 1062, 1063, 1064, 1065, 1066, 1067, 1068, 1069, 1070, 1136, 1137, 1138, 1139, 1140, 1141, 1142, 1143, 1144, 1103, 1104, 1105, 1106, 1100, 1101, 1102, 1130, 1131, 1132, 1133, 1134, 1135, 1145, 1146, 1147] (by decide +kernel) (by decide +kernel)
set_option maxRecDepth 20000 in
theorem gL_law_X11_setCiteOrder : GoodIn wsL_law (wsV RL 65 RX11 yX11_setCiteOrder wsX11_setCiteOrder) := goodIn_app (goodIn_of _ (by decide +kernel)) ggL_law_X11_setCiteOrder
set_option maxRecDepth 20000 in
theorem ggL_law_X12_setCiteOrder : GoodIn wsL_law wsX12_setCiteOrder := goodIn_r _ [599, 204, 205, 5, 206, 527, 528, 529, 530, 173, 352, 353, 354, 355, 356, 174, 1071, 1072, 1073, 1074, 1075, 1076, 1077, 1078, 1079, 1080, 1081, 1082, 1083, 1084, 1085, 1086, 1087, 1088, 1089] (by decide +kernel) (by decide +kernel)
set_option maxRecDepth 20000 in
theorem gL_law_X12_setCiteOrder : GoodIn wsL_law (wsV RL 68 RX12 yX12_setCiteOrder wsX12_setCiteOrder) := goodIn_app (goodIn_of _ (by decide +kernel)) ggL_law_X12_setCiteOrder
set_option maxRecDepth 20000 in
theorem ggL_law_X11_beginCitation : GoodIn wsL_law wsX11_beginCitation := goodIn_r _ [603, 29, 33, 220, 37, 488, 489, 490, 62, 491, 69, 282, 283, 284, 36, 285, 121, 122, 123, 119, 286, 287, 288, 289, 290, 291, 292, 26, 293, 88, 92, 96, 294, 295, 296, 297, 298, 299, 300, 301, 70, 73, 74, 71, 72, 302, 303, 304, 91, 305, 100, 101, 102, 103, 104, 105, 106, 107, 108, 306, 307, 308, 95, 309, 112, 310, 311, 312, 313, 113, 114, 604, 605, 606, 607, 505, 506, 507, 508, 1060, 1061, 1062, 1063, 1064, 1065, 1066, 1067, 1068, 1069, 1070, 1145, 1146, 1147, 1130, 1131, 1132, 1133, 1134, 1135, 1103, 1104, 1105, 1106, 1100, 1101, 1102, 1136, 1137, 1138, 1139, 1140, 1141, 1142, 1143, 1144] (by decide +kernel) (by decide +kernel)
set_option maxRecDepth 20000 in
theorem gL_law_X11_beginCitation : GoodIn wsL_law (wsV RL 69 RX11 yX11_beginCitation wsX11_beginCitation) := goodIn_app (goodIn_of _ (by decide +kernel)) ggL_law_X11_beginCitation
set_option maxRecDepth 20000 in
theorem ggL_law_X12_beginCitation : GoodIn wsL_law wsX12_beginCitation := goodIn_r _ [611, 173, 513, 514, 515, 5, 516, 204, 205, 206, 352, 353, 354, 355, 356, 174, 1071, 1072, 1073, 1074, 1075, 1076, 1077, 1078, 1079, 1080, 1081, 1082, 1083, 1084, 1085, 1086, 1087, 1088, 1089] (by decide +kernel) (by decide +kernel)
set_option maxRecDepth 20000 in
theorem gL_law_X12_beginCitation : GoodIn wsL_law (wsV RL 72 RX12 yX12_beginCitation wsX12_beginCitation) := goodIn_app (goodIn_of _ (by decide +kernel)) ggL_law_X12_beginCitation
set_option maxRecDepth 20000 in
theorem ggL_law_X11_addToCitation : GoodIn wsL_law wsX11_addToCitation := goodIn_r _ [615, 29, 33, 220, 616, 37, 488, 489, 490, 62, 491, 69, 617, 618, 619, 95, 620, 113, 504, 426, 427, 428, 114, 282, 283, 284, 36, 285, 121, 122, 123, 119, 286, 287, 288, 289, 290, 291, 292, 26, 293, 88, 92, 96, 294, 295, 296, 297, 298, 299, 300, 301, 70, 73, 74, 71, 72, 302, 303, 304, 91, 305, 100, 101, 102, 103, 104, 105, 106, 107, 108, 306, 307, 308, 309, 112, 310, 311, 312, 313, 621, 506, 507, 508, 1060, 1061, 1062, 1063, 1064, 1065, 1066, 1067, 1068, 1069, 1070, 1145, 1146, 1147, 1130, 1131, 1132, 1133, 1134, 1135, 1103, 1104, 1105, 1106, 1100, 1101, 1102, 1136, 1137, 1138, 1139, 1140, 1141, 1142, 1143, 1144] (by decide +kernel) (by decide +kernel)
set_option maxRecDepth 20000 in
theorem gL_law_X11_addToCitation : GoodIn wsL_law (wsV RL 73 RX11 yX11_addToCitation wsX11_addToCitation) := goodIn_app (goodIn_of _ (by decide +kernel)) ggL_law_X11_addToCitation
