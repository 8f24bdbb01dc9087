set_option maxRecDepth 20000 in
theorem ggL_law_X10_init : GoodIn wsL_law wsX10_init := goodIn_r _ [9, 10, 11, 12, 13, 14, 15, 16, 17, 18, 19, 20, 21, 22, 23, 24, 25, 26, 27, 28, 29, 30, 31, 32, 33, 34, 35, 36, 37, 38, 39, 40, 41, 42, 43, 44, 45, 46, 47, 48, 49, 50, 51, 52, 53, 54, 55, 56, 57, 58, 59, 60, 61, 62, 63, 64, 65, 66, 67, 68, 69, 70, 71, 72, 73, 74, 75, 76, 77, 78, 79, 80, 81, 82, 83, 84, 85, 86, 87, 88, 89, 90, 91, 92, 93, 94, 95, 96, 97, 98, 99, 100, 101, 102, 103, 104, 105, 106, 107, 108, 109, 110, 111, 112, 113, 114, 115, 116, 117, 118, 119, 120, 121, 122, 123, 124, 125, 126, 127, 1030, 1031, 984, 985, 986, 987, 988, 989, 990, 991, 992, 993, 1032, 1033, 1034, 1035, 1036, 1037, 1038, 1039, 1040, 1041, 1042, 1043, 1044, 1045, 1046, 1047, 1048, 1049, 1050, 1051, 1052, 1053, 1054, 1055, 1056, 1057, 1058, 1059, 1060, 1061, 1062, 1063, 1064, 1065, 1066, 1067, 1068, 1069, 1070, 1071, 1072, 1073, 1074] rfl (by decide +kernel)
set_option maxRecDepth 20000 in
theorem gL_law_X10_init : GoodIn wsL_law (wsX10_init) := ggL_law_X10_init
set_option maxRecDepth 20000 in
theorem ggL_law_X11_init : GoodIn wsL_law wsX11_init := goodIn_r _ [130, 131, 11, 12, 132, 133, 134, 49, 135, 136, 137, 138, 139, 140, 141, 142, 143, 144, 145, 146, 147, 148, 149, 150, 82, 151, 152, 153, 154, 155, 156, 994, 995, 996, 997, 998, 999, 1000, 1001, 1002, 1003, 1004, 1005, 1006, 1007, 1008, 1009, 1010, 1011, 1012, 1013, 1014, 1015, 1016, 1017, 1018, 1019, 1020, 1021, 1022, 1023, 1024, 1025, 1026, 1027, 1028, 1029] rfl (by decide +kernel)
set_option maxRecDepth 20000 in
theorem gL_law_X11_init : GoodIn wsL_law (wsX11_init) := ggL_law_X11_init
set_option maxRecDepth 20000 in
theorem ggL_law_X10_feed : GoodIn wsL_law wsX10_feed := goodIn_r _ [160, 16, 161, 162, 163, 164, 15, 165, 166, 50, 984, 985, 986, 987, 988, 989, 990, 991, 992, 993, 1030, 1031] rfl (by decide +kernel)
set_option maxRecDepth 20000 in
theorem gL_law_X10_feed : GoodIn wsL_law (wsV RL 13 RX10 yX10_feed wsX10_feed) := goodIn_app (goodIn_r _ [157, 158, 159, 2] rfl (by decide +kernel)) ggL_law_X10_feed
set_option maxRecDepth 20000 in
theorem ggL_law_X11_feed : GoodIn wsL_law wsX11_feed := goodIn_r _ [170, 171, 140, 172, 173, 5, 174, 994, 995, 996, 997, 998, 999, 1000, 1001, 1002, 1003, 1004, 1005, 1006, 1007, 1008, 1009, 1010, 1011, 1012, 1013, 1014, 1015, 1016, 1017, 1018, 1019, 1020, 1021, 1022, 1023, 1024, 1025, 1026, 1027, 1028, 1029] rfl (by decide +kernel)
set_option maxRecDepth 20000 in
theorem gL_law_X11_feed : GoodIn wsL_law (wsV RL 17 RX11 yX11_feed wsX11_feed) := goodIn_app (goodIn_r _ [167, 168, 169, 5] rfl (by decide +kernel)) ggL_law_X11_feed
set_option maxRecDepth 20000 in
theorem ggL_law_X10_parseProblem : GoodIn wsL_law wsX10_parseProblem := goodIn_r _ [178, 16, 161, 20, 179, 180, 181, 182, 183, 184, 15, 185, 186, 187, 188, 189, 190, 191, 192, 193, 194, 195, 196, 197, 198, 199, 200, 201, 202, 203, 204, 205, 206, 207, 208, 166, 50, 209, 210, 211, 212, 213, 214, 215, 216, 217, 218, 219, 220, 221, 222, 223, 224, 225, 226, 227, 228, 229, 230, 231, 232, 233, 234, 235, 236, 237, 238, 239, 240, 241, 242, 243, 244, 245, 246, 247, 248, 249, 250, 251, 252, 253, 254, 255, 256, 257, 71, 72, 19, 73, 74, 59, 75, 60, 57, 984, 985, 986, 987, 988, 989, 990, 991, 992, 993, 1030, 1031, 1032, 1033, 1034, 1035, 1036, 1037, 1038, 1039] rfl (by decide +kernel)
set_option maxRecDepth 20000 in
theorem gL_law_X10_parseProblem : GoodIn wsL_law (wsV RL 18 RX10 yX10_parseProblem wsX10_parseProblem) := goodIn_app (goodIn_r _ [175, 176, 177, 2] rfl (by decide +kernel)) ggL_law_X10_parseProblem
set_option maxRecDepth 20000 in
theorem ggL_law_X11_parseProblem : GoodIn wsL_law wsX11_parseProblem := goodIn_r _ [261, 171, 262, 132, 133, 134, 137, 139, 135, 263, 264, 265, 5, 266, 140, 267, 66, 67, 68, 268, 269, 270, 271, 272, 273, 274, 172, 173, 174, 994, 995, 996, 997, 998, 999, 1000, 1001, 1002, 1003, 1004, 1005, 1006, 1007, 1008, 1009, 1010, 1011, 1012, 1013, 1014, 1015, 1016, 1017, 1018, 1019, 1020, 1021, 1022, 1023, 1024, 1025, 1026, 1027, 1028, 1029] rfl (by decide +kernel)
set_option maxRecDepth 20000 in
theorem gL_law_X11_parseProblem : GoodIn wsL_law (wsV RL 22 RX11 yX11_parseProblem wsX11_parseProblem) := goodIn_app (goodIn_r _ [258, 259, 260, 5] rfl (by decide +kernel)) ggL_law_X11_parseProblem
set_option maxRecDepth 20000 in
theorem ggL_law_X10_problem : GoodIn wsL_law wsX10_problem := goodIn_r _ [278, 20, 179, 180, 181, 984, 985, 986, 987, 988, 989, 990, 991, 992, 993, 1032, 1033, 1034, 1035, 1036, 1037] rfl (by decide +kernel)
set_option maxRecDepth 20000 in
theorem gL_law_X10_problem : GoodIn wsL_law (wsV RL 23 RX10 yX10_problem wsX10_problem) := goodIn_app (goodIn_r _ [275, 276, 277, 2] rfl (by decide +kernel)) ggL_law_X10_problem
set_option maxRecDepth 20000 in
theorem ggL_law_X11_problem : GoodIn wsL_law wsX11_problem := goodIn_r _ [282, 132, 133, 134, 994, 995, 996, 997, 998, 999, 1000, 1001, 1002, 1003, 1004, 1005, 1006, 1007, 1008, 1009, 1010, 1011, 1012, 1013, 1014, 1015, 1016, 1017, 1018, 1019, 1020, 1021, 1022, 1023, 1024, 1025, 1026, 1027, 1028, 1029] rfl (by decide +kernel)
set_option maxRecDepth 20000 in
theorem gL_law_X11_problem : GoodIn wsL_law (wsV RL 26 RX11 yX11_problem wsX11_problem) := goodIn_app (goodIn_r _ [279, 280, 281, 5] rfl (by decide +kernel)) ggL_law_X11_problem
set_option maxRecDepth 20000 in
theorem ggL_law_X10_setValue : GoodIn wsL_law wsX10_setValue := goodIn_r _ [286, 20, 287, 288, 289, 290, 19, 291, 74, 984, 985, 986, 987, 988, 989, 990, 991, 992, 993, 1032, 1033, 1034, 1035, 1036, 1037] rfl (by decide +kernel)
set_option maxRecDepth 20000 in
theorem gL_law_X10_setValue : GoodIn wsL_law (wsV RL 27 RX10 yX10_setValue wsX10_setValue) := goodIn_app (goodIn_r _ [283, 284, 285, 2] rfl (by decide +kernel)) ggL_law_X10_setValue
set_option maxRecDepth 20000 in
theorem ggL_law_X11_setValue : GoodIn wsL_law wsX11_setValue := goodIn_r _ [295, 135, 296, 297, 298, 5, 299, 134, 172, 173, 174, 994, 995, 996, 997, 998, 999, 1000, 1001, 1002, 1003, 1004, 1005, 1006, 1007, 1008, 1009, 1010, 1011, 1012, 1013, 1014, 1015, 1016, 1017, 1018, 1019, 1020, 1021, 1022, 1023, 1024, 1025, 1026, 1027, 1028, 1029] rfl (by decide +kernel)
set_option maxRecDepth 20000 in
theorem gL_law_X11_setValue : GoodIn wsL_law (wsV RL 31 RX11 yX11_setValue wsX11_setValue) := goodIn_app (goodIn_r _ [292, 293, 294, 5] rfl (by decide +kernel)) ggL_law_X11_setValue
set_option maxRecDepth 20000 in
theorem ggL_law_X10_append : GoodIn wsL_law wsX10_append := goodIn_r _ [303, 20, 304, 305, 306, 307, 2, 308, 288, 289, 290, 19, 291, 74, 309, 310, 311, 24, 312, 313, 69, 984, 985, 986, 987, 988, 989, 990, 991, 992, 993, 1032, 1033, 1034, 1035, 1036, 1037, 1038, 1039] rfl (by decide +kernel)
set_option maxRecDepth 20000 in
theorem gL_law_X10_append : GoodIn wsL_law (wsV RL 32 RX10 yX10_append wsX10_append) := goodIn_app (goodIn_r _ [300, 301, 302, 2] rfl (by decide +kernel)) ggL_law_X10_append
set_option maxRecDepth 20000 in
theorem ggL_law_X11_append : GoodIn wsL_law wsX11_append := goodIn_r _ [317, 137, 136, 318, 319, 5, 320, 172, 173, 174, 296, 297, 298, 299, 134, 994, 995, 996, 997, 998, 999, 1000, 1001, 1002, 1003, 1004, 1005, 1006, 1007, 1008, 1009, 1010, 1011, 1012, 1013, 1014, 1015, 1016, 1017, 1018, 1019, 1020, 1021, 1022, 1023, 1024, 1025, 1026, 1027, 1028, 1029] rfl (by decide +kernel)
set_option maxRecDepth 20000 in
theorem gL_law_X11_append : GoodIn wsL_law (wsV RL 35 RX11 yX11_append wsX11_append) := goodIn_app (goodIn_r _ [314, 315, 316, 5] rfl (by decide +kernel)) ggL_law_X11_append
set_option maxRecDepth 20000 in
theorem ggL_law_X10_clearWord : GoodIn wsL_law wsX10_clearWord := goodIn_r _ [324, 20, 304, 305, 306, 307, 2, 308, 984, 985, 986, 987, 988, 989, 990, 991, 992, 993, 1032, 1033, 1034, 1035, 1036, 1037, 1038, 1039] rfl (by decide +kernel)
set_option maxRecDepth 20000 in
theorem gL_law_X10_clearWord : GoodIn wsL_law (wsV RL 36 RX10 yX10_clearWord wsX10_clearWord) := goodIn_app (goodIn_r _ [321, 322, 323, 2] rfl (by decide +kernel)) ggL_law_X10_clearWord
set_option maxRecDepth 20000 in
theorem ggL_law_X11_clearWord : GoodIn wsL_law wsX11_clearWord := goodIn_r _ [328, 137, 318, 319, 5, 320, 172, 173, 174, 994, 995, 996, 997, 998, 999, 1000, 1001, 1002, 1003, 1004, 1005, 1006, 1007, 1008, 1009, 1010, 1011, 1012, 1013, 1014, 1015, 1016, 1017, 1018, 1019, 1020, 1021, 1022, 1023, 1024, 1025, 1026, 1027, 1028, 1029] rfl (by decide +kernel)
set_option maxRecDepth 20000 in
theorem gL_law_X11_clearWord : GoodIn wsL_law (wsV RL 39 RX11 yX11_clearWord wsX11_clearWord) := goodIn_app (goodIn_r _ [325, 326, 327, 5] rfl (by decide +kernel)) ggL_law_X11_clearWord
set_option maxRecDepth 20000 in
theorem ggL_law_X10_length : GoodIn wsL_law wsX10_length := goodIn_r _ [332, 20, 304, 305, 306, 307, 2, 308, 984, 985, 986, 987, 988, 989, 990, 991, 992, 993, 1032, 1033, 1034, 1035, 1036, 1037, 1038, 1039] rfl (by decide +kernel)
set_option maxRecDepth 20000 in
theorem gL_law_X10_length : GoodIn wsL_law (wsV RL 40 RX10 yX10_length wsX10_length) := goodIn_app (goodIn_r _ [329, 330, 331, 2] rfl (by decide +kernel)) ggL_law_X10_length
set_option maxRecDepth 20000 in
theorem ggL_law_X11_length : GoodIn wsL_law wsX11_length := goodIn_r _ [336, 137, 318, 319, 5, 320, 172, 173, 174, 994, 995, 996, 997, 998, 999, 1000, 1001, 1002, 1003, 1004, 1005, 1006, 1007, 1008, 1009, 1010, 1011, 1012, 1013, 1014, 1015, 1016, 1017, 1018, 1019, 1020, 1021, 1022, 1023, 1024, 1025, 1026, 1027, 1028, 1029] rfl (by decide +kernel)
set_option maxRecDepth 20000 in
theorem gL_law_X11_length : GoodIn wsL_law (wsV RL 43 RX11 yX11_length wsX11_length) := goodIn_app (goodIn_r _ [333, 334, 335, 5] rfl (by decide +kernel)) ggL_law_X11_length
set_option maxRecDepth 20000 in
theorem ggL_law_X10_letter : GoodIn wsL_law wsX10_letter := goodIn_r _ [340, 20, 304, 305, 341, 306, 307, 2, 308, 984, 985, 986, 987, 988, 989, 990, 991, 992, 993, 1032, 1033, 1034, 1035, 1036, 1037, 1038, 1039] rfl (by decide +kernel)
set_option maxRecDepth 20000 in
theorem gL_law_X10_letter : GoodIn wsL_law (wsV RL 44 RX10 yX10_letter wsX10_letter) := goodIn_app (goodIn_r _ [337, 338, 339, 2] rfl (by decide +kernel)) ggL_law_X10_letter
set_option maxRecDepth 20000 in
theorem ggL_law_X11_letter : GoodIn wsL_law wsX11_letter := goodIn_r _ [345, 137, 136, 318, 319, 5, 320, 172, 173, 174, 994, 995, 996, 997, 998, 999, 1000, 1001, 1002, 1003, 1004, 1005, 1006, 1007, 1008, 1009, 1010, 1011, 1012, 1013, 1014, 1015, 1016, 1017, 1018, 1019, 1020, 1021, 1022, 1023, 1024, 1025, 1026, 1027, 1028, 1029] rfl (by decide +kernel)
set_option maxRecDepth 20000 in
theorem gL_law_X11_letter : GoodIn wsL_law (wsV RL 47 RX11 yX11_letter wsX11_letter) := goodIn_app (goodIn_r _ [342, 343, 344, 5] rfl (by decide +kernel)) ggL_law_X11_letter
set_option maxRecDepth 20000 in
theorem ggL_law_X10_occurrences : GoodIn wsL_law wsX10_occurrences := goodIn_r _ [349, 20, 304, 306, 307, 2, 308, 288, 289, 290, 19, 291, 74, 350, 351, 352, 24, 353, 313, 354, 355, 356, 357, 65, 66, 67, 68, 69, 984, 985, 986, 987, 988, 989, 990, 991, 992, 993, 1032, 1033, 1034, 1035, 1036, 1037, 1038, 1039] rfl (by decide +kernel)
set_option maxRecDepth 20000 in
theorem gL_law_X10_occurrences : GoodIn wsL_law (wsV RL 48 RX10 yX10_occurrences wsX10_occurrences) := goodIn_app (goodIn_r _ [346, 347, 348, 2] rfl (by decide +kernel)) ggL_law_X10_occurrences
set_option maxRecDepth 20000 in
theorem ggL_law_X11_occurrences : GoodIn wsL_law wsX11_occurrences := goodIn_r _ [361, 362, 363, 364, 5, 365, 137, 318, 319, 320, 172, 173, 174, 296, 297, 298, 299, 134, 366, 367, 368, 369, 370, 141, 136, 371, 372, 373, 374, 994, 995, 996, 997, 998, 999, 1000, 1001, 1002, 1003, 1004, 1005, 1006, 1007, 1008, 1009, 1010, 1011, 1012, 1013, 1014, 1015, 1016, 1017, 1018, 1019, 1020, 1021, 1022, 1023, 1024, 1025, 1026, 1027, 1028, 1029] rfl (by decide +kernel)
set_option maxRecDepth 20000 in
theorem gL_law_X11_occurrences : GoodIn wsL_law (wsV RL 52 RX11 yX11_occurrences wsX11_occurrences) := goodIn_app (goodIn_r _ [358, 359, 360, 5] rfl (by decide +kernel)) ggL_law_X11_occurrences
set_option maxRecDepth 20000 in
theorem ggL_law_X10_equivalent : GoodIn wsL_law wsX10_equivalent := goodIn_r _ [378, 20, 304, 29, 179, 306, 307, 2, 308, 350, 351, 352, 24, 353, 313, 379, 380, 381, 28, 382, 383, 384, 385, 386, 86, 387, 388, 389, 390, 391, 392, 393, 394, 395, 396, 397, 80, 83, 81, 398, 66, 67, 68, 399, 400, 401, 402, 84, 85, 403, 404, 405, 406, 407, 408, 409, 410, 411, 412, 413, 414, 984, 985, 986, 987, 988, 989, 990, 991, 992, 993, 1032, 1033, 1034, 1035, 1036, 1037, 1038, 1039, 1040, 1041, 1042, 1043, 1044, 1045, 1046, 1047, 1048] rfl (by decide +kernel)
set_option maxRecDepth 20000 in
theorem gL_law_X10_equivalent : GoodIn wsL_law (wsV RL 53 RX10 yX10_equivalent wsX10_equivalent) := goodIn_app (goodIn_r _ [375, 376, 377, 2] rfl (by decide +kernel)) ggL_law_X10_equivalent
set_option maxRecDepth 20000 in
theorem ggL_law_X11_equivalent : GoodIn wsL_law wsX11_equivalent := goodIn_r _ [418, 362, 363, 364, 5, 365, 137, 318, 319, 320, 172, 173, 174, 366, 367, 368, 369, 370, 141, 136, 419, 420, 421, 422, 132, 423, 424, 425, 426, 427, 428, 429, 430, 135, 431, 432, 433, 434, 134, 435, 436, 437, 438, 371, 372, 373, 374, 439, 440, 441, 442, 994, 995, 996, 997, 998, 999, 1000, 1001, 1002, 1003, 1004, 1005, 1006, 1007, 1008, 1009, 1010, 1011, 1012, 1013, 1014, 1015, 1016, 1017, 1018, 1019, 1020, 1021, 1022, 1023, 1024, 1025, 1026, 1027, 1028, 1029] rfl (by decide +kernel)
set_option maxRecDepth 20000 in
theorem gL_law_X11_equivalent : GoodIn wsL_law (wsV RL 56 RX11 yX11_equivalent wsX11_equivalent) := goodIn_app (goodIn_r _ [415, 416, 417, 5] rfl (by decide +kernel)) ggL_law_X11_equivalent
set_option maxRecDepth 20000 in
theorem ggL_law_X10_firstPower : GoodIn wsL_law wsX10_firstPower := goodIn_r _ [446, 20, 304, 29, 447, 180, 306, 307, 2, 308, 448, 449, 450, 451, 179, 305, 341, 379, 380, 381, 28, 382, 383, 384, 385, 386, 86, 387, 452, 395, 396, 397, 80, 83, 81, 398, 66, 67, 68, 399, 400, 401, 402, 84, 85, 453, 454, 455, 456, 457, 458, 459, 460, 461, 404, 405, 406, 407, 408, 409, 410, 411, 412, 413, 414, 984, 985, 986, 987, 988, 989, 990, 991, 992, 993, 1032, 1033, 1034, 1035, 1036, 1037, 1040, 1041, 1042, 1043, 1044, 1045, 1046, 1047, 1048, 1038, 1039] rfl (by decide +kernel)
set_option maxRecDepth 20000 in
theorem gL_law_X10_firstPower : GoodIn wsL_law (wsV RL 57 RX10 yX10_firstPower wsX10_firstPower) := goodIn_app (goodIn_r _ [443, 444, 445, 2] rfl (by decide +kernel)) ggL_law_X10_firstPower
set_option maxRecDepth 20000 in
theorem ggL_law_X11_firstPower : GoodIn wsL_law wsX11_firstPower := goodIn_r _ [465, 370, 133, 318, 319, 5, 320, 172, 173, 174, 366, 367, 368, 369, 137, 141, 136, 466, 467, 468, 469, 470, 471, 472, 473, 419, 420, 421, 422, 132, 423, 424, 425, 426, 427, 428, 429, 430, 135, 431, 432, 433, 434, 134, 435, 436, 437, 438, 371, 372, 373, 374, 439, 440, 441, 442, 994, 995, 996, 997, 998, 999, 1000, 1001, 1002, 1003, 1004, 1005, 1006, 1007, 1008, 1009, 1010, 1011, 1012, 1013, 1014, 1015, 1016, 1017, 1018, 1019, 1020, 1021, 1022, 1023, 1024, 1025, 1026, 1027, 1028, 1029] rfl (by decide +kernel)
set_option maxRecDepth 20000 in
theorem gL_law_X11_firstPower : GoodIn wsL_law (wsV RL 60 RX11 yX11_firstPower wsX11_firstPower) := goodIn_app (goodIn_r _ [462, 463, 464, 5] rfl (by decide +kernel)) ggL_law_X11_firstPower
set_option maxRecDepth 20000 in
theorem ggL_law_X10_powerCount : GoodIn wsL_law wsX10_powerCount := goodIn_r _ [477, 20, 304, 29, 179, 305, 341, 306, 307, 2, 308, 379, 380, 381, 28, 382, 383, 384, 385, 386, 86, 387, 452, 395, 396, 397, 80, 83, 81, 398, 66, 67, 68, 399, 400, 401, 402, 84, 85, 478, 479, 480, 481, 457, 458, 459, 460, 461, 404, 405, 406, 407, 408, 409, 410, 411, 412, 413, 414, 984, 985, 986, 987, 988, 989, 990, 991, 992, 993, 1032, 1033, 1034, 1035, 1036, 1037, 1038, 1039, 1040, 1041, 1042, 1043, 1044, 1045, 1046, 1047, 1048] rfl (by decide +kernel)
set_option maxRecDepth 20000 in
theorem gL_law_X10_powerCount : GoodIn wsL_law (wsV RL 61 RX10 yX10_powerCount wsX10_powerCount) := goodIn_app (goodIn_r _ [474, 475, 476, 2] rfl (by decide +kernel)) ggL_law_X10_powerCount
set_option maxRecDepth 20000 in
theorem ggL_law_X11_powerCount : GoodIn wsL_law wsX11_powerCount := goodIn_r _ [485, 370, 133, 318, 319, 5, 320, 172, 173, 174, 366, 367, 368, 369, 137, 141, 136, 470, 471, 472, 473, 419, 420, 421, 422, 132, 423, 424, 425, 426, 427, 428, 429, 430, 135, 431, 432, 433, 434, 134, 435, 436, 437, 438, 371, 372, 373, 374, 439, 440, 441, 442, 994, 995, 996, 997, 998, 999, 1000, 1001, 1002, 1003, 1004, 1005, 1006, 1007, 1008, 1009, 1010, 1011, 1012, 1013, 1014, 1015, 1016, 1017, 1018, 1019, 1020, 1021, 1022, 1023, 1024, 1025, 1026, 1027, 1028, 1029] rfl (by decide +kernel)
set_option maxRecDepth 20000 in
theorem gL_law_X11_powerCount : GoodIn wsL_law (wsV RL 64 RX11 yX11_powerCount wsX11_powerCount) := goodIn_app (goodIn_r _ [482, 483, 484, 5] rfl (by decide +kernel)) ggL_law_X11_powerCount
set_option maxRecDepth 20000 in
theorem ggL_law_X10_freePrefix : GoodIn wsL_law wsX10_freePrefix := goodIn_r _ [489, 20, 304, 29, 447, 306, 307, 2, 308, 448, 449, 450, 451, 179, 305, 341, 379, 380, 381, 28, 382, 383, 384, 385, 386, 86, 387, 452, 395, 396, 397, 80, 83, 81, 398, 66, 67, 68, 399, 400, 401, 402, 84, 85, 453, 454, 455, 456, 457, 458, 459, 460, 461, 404, 405, 406, 407, 408, 409, 410, 411, 412, 413, 414, 984, 985, 986, 987, 988, 989, 990, 991, 992, 993, 1032, 1033, 1034, 1035, 1036, 1037, 1040, 1041, 1042, 1043, 1044, 1045, 1046, 1047, 1048, 1038, 1039] rfl (by decide +kernel)
set_option maxRecDepth 20000 in
theorem gL_law_X10_freePrefix : GoodIn wsL_law (wsV RL 65 RX10 yX10_freePrefix wsX10_freePrefix) := goodIn_app (goodIn_r _ [486, 487, 488, 2] rfl (by decide +kernel)) ggL_law_X10_freePrefix
set_option maxRecDepth 20000 in
theorem ggL_law_X11_freePrefix : GoodIn wsL_law wsX11_freePrefix := goodIn_r _ [493, 318, 319, 5, 320, 172, 173, 174, 494, 495, 496, 497, 370, 366, 367, 368, 369, 137, 141, 136, 466, 467, 468, 469, 133, 470, 471, 472, 473, 419, 420, 421, 422, 132, 423, 424, 425, 426, 427, 428, 429, 430, 135, 431, 432, 433, 434, 134, 435, 436, 437, 438, 371, 372, 373, 374, 439, 440, 441, 442, 994, 995, 996, 997, 998, 999, 1000, 1001, 1002, 1003, 1004, 1005, 1006, 1007, 1008, 1009, 1010, 1011, 1012, 1013, 1014, 1015, 1016, 1017, 1018, 1019, 1020, 1021, 1022, 1023, 1024, 1025, 1026, 1027, 1028, 1029] rfl (by decide +kernel)
set_option maxRecDepth 20000 in
theorem gL_law_X11_freePrefix : GoodIn wsL_law (wsV RL 68 RX11 yX11_freePrefix wsX11_freePrefix) := goodIn_app (goodIn_r _ [490, 491, 492, 5] rfl (by decide +kernel)) ggL_law_X11_freePrefix
set_option maxRecDepth 20000 in
theorem ggL_law_X10_extensions : GoodIn wsL_law wsX10_extensions := goodIn_r _ [501, 20, 304, 181, 29, 306, 307, 2, 308, 448, 449, 450, 451, 179, 305, 341, 379, 380, 381, 28, 382, 383, 384, 385, 386, 86, 387, 452, 395, 396, 397, 80, 83, 81, 398, 66, 67, 68, 399, 400, 401, 402, 84, 85, 453, 454, 455, 456, 457, 458, 459, 460, 461, 404, 405, 406, 407, 408, 409, 410, 411, 412, 413, 414, 502, 503, 504, 505, 984, 985, 986, 987, 988, 989, 990, 991, 992, 993, 1032, 1033, 1034, 1035, 1036, 1037, 1038, 1039, 1040, 1041, 1042, 1043, 1044, 1045, 1046, 1047, 1048] rfl (by decide +kernel)
set_option maxRecDepth 20000 in
theorem gL_law_X10_extensions : GoodIn wsL_law (wsV RL 69 RX10 yX10_extensions wsX10_extensions) := goodIn_app (goodIn_r _ [498, 499, 500, 2] rfl (by decide +kernel)) ggL_law_X10_extensions
set_option maxRecDepth 20000 in
theorem ggL_law_X11_extensions : GoodIn wsL_law wsX11_extensions := goodIn_r _ [509, 137, 134, 141, 370, 318, 319, 5, 320, 172, 173, 174, 494, 495, 496, 497, 366, 367, 368, 369, 136, 466, 467, 468, 469, 133, 470, 471, 472, 473, 419, 420, 421, 422, 132, 423, 424, 425, 426, 427, 428, 429, 430, 135, 431, 432, 433, 434, 435, 436, 437, 438, 371, 372, 373, 374, 439, 440, 441, 442, 994, 995, 996, 997, 998, 999, 1000, 1001, 1002, 1003, 1004, 1005, 1006, 1007, 1008, 1009, 1010, 1011, 1012, 1013, 1014, 1015, 1016, 1017, 1018, 1019, 1020, 1021, 1022, 1023, 1024, 1025, 1026, 1027, 1028, 1029] rfl (by decide +kernel)
set_option maxRecDepth 20000 in
theorem gL_law_X11_extensions : GoodIn wsL_law (wsV RL 72 RX11 yX11_extensions wsX11_extensions) := goodIn_app (goodIn_r _ [506, 507, 508, 5] rfl (by decide +kernel)) ggL_law_X11_extensions
set_option maxRecDepth 20000 in
theorem ggL_law_X10_smallestFree : GoodIn wsL_law wsX10_smallestFree := goodIn_r _ [513, 29, 20, 179, 33, 181, 304, 306, 307, 2, 308, 379, 380, 381, 28, 382, 383, 384, 385, 386, 86, 387, 514, 515, 516, 32, 517, 518, 519, 520, 521, 66, 67, 68, 522, 503, 504, 505, 80, 523, 395, 396, 397, 83, 81, 398, 399, 400, 401, 402, 84, 85, 524, 454, 455, 456, 457, 458, 459, 460, 461, 404, 405, 406, 407, 408, 409, 410, 411, 412, 413, 414, 525, 526, 527, 528, 392, 529, 310, 311, 24, 312, 313, 69, 984, 985, 986, 987, 988, 989, 990, 991, 992, 993, 1032, 1033, 1034, 1035, 1036, 1037, 1040, 1041, 1042, 1043, 1044, 1045, 1046, 1047, 1048, 1049, 1038, 1039] rfl (by decide +kernel)
set_option maxRecDepth 20000 in
theorem gL_law_X10_smallestFree : GoodIn wsL_law (wsV RL 73 RX10 yX10_smallestFree wsX10_smallestFree) := goodIn_app (goodIn_r _ [510, 511, 512, 2] rfl (by decide +kernel)) ggL_law_X10_smallestFree
set_option maxRecDepth 20000 in
theorem ggL_law_X11_smallestFree : GoodIn wsL_law wsX11_smallestFree := goodIn_r _ [533, 137, 136, 141, 534, 172, 173, 5, 174, 318, 319, 320, 535, 536, 537, 538, 370, 539, 540, 541, 542, 134, 466, 467, 468, 469, 133, 470, 471, 472, 473, 419, 420, 421, 422, 132, 423, 424, 425, 426, 427, 428, 429, 430, 135, 431, 432, 433, 434, 435, 436, 437, 438, 371, 372, 373, 374, 439, 440, 441, 442, 994, 995, 996, 997, 998, 999, 1000, 1001, 1002, 1003, 1004, 1005, 1006, 1007, 1008, 1009, 1010, 1011, 1012, 1013, 1014, 1015, 1016, 1017, 1018, 1019, 1020, 1021, 1022, 1023, 1024, 1025, 1026, 1027, 1028, 1029] rfl (by decide +kernel)
set_option maxRecDepth 20000 in
theorem gL_law_X11_smallestFree : GoodIn wsL_law (wsV RL 76 RX11 yX11_smallestFree wsX11_smallestFree) := goodIn_app (goodIn_r _ [530, 531, 532, 5] rfl (by decide +kernel)) ggL_law_X11_smallestFree
set_option maxRecDepth 20000 in
theorem ggL_law_X10_countFree : GoodIn wsL_law wsX10_countFree := goodIn_r _ [546, 29, 20, 179, 181, 379, 380, 381, 28, 382, 383, 384, 385, 386, 86, 387, 547, 548, 32, 549, 519, 550, 520, 551, 552, 67, 553, 522, 503, 504, 505, 80, 523, 395, 396, 397, 83, 81, 398, 66, 68, 399, 400, 401, 402, 84, 85, 524, 454, 455, 456, 457, 458, 459, 460, 461, 404, 405, 406, 407, 408, 409, 410, 411, 412, 413, 414, 984, 985, 986, 987, 988, 989, 990, 991, 992, 993, 1032, 1033, 1034, 1035, 1036, 1037, 1040, 1041, 1042, 1043, 1044, 1045, 1046, 1047, 1048] rfl (by decide +kernel)
set_option maxRecDepth 20000 in
theorem gL_law_X10_countFree : GoodIn wsL_law (wsV RL 77 RX10 yX10_countFree wsX10_countFree) := goodIn_app (goodIn_r _ [543, 544, 545, 2] rfl (by decide +kernel)) ggL_law_X10_countFree
set_option maxRecDepth 20000 in
theorem ggL_law_X11_countFree : GoodIn wsL_law wsX11_countFree := goodIn_r _ [557, 172, 173, 5, 174, 558, 559, 560, 561, 370, 534, 562, 141, 563, 564, 565, 566, 267, 66, 67, 68, 539, 540, 541, 542, 134, 466, 467, 468, 469, 133, 470, 471, 472, 473, 419, 420, 421, 422, 132, 423, 424, 425, 426, 427, 428, 429, 430, 135, 431, 432, 433, 434, 435, 436, 437, 438, 371, 372, 373, 374, 439, 440, 441, 442, 994, 995, 996, 997, 998, 999, 1000, 1001, 1002, 1003, 1004, 1005, 1006, 1007, 1008, 1009, 1010, 1011, 1012, 1013, 1014, 1015, 1016, 1017, 1018, 1019, 1020, 1021, 1022, 1023, 1024, 1025, 1026, 1027, 1028, 1029] rfl (by decide +kernel)
set_option maxRecDepth 20000 in
theorem gL_law_X11_countFree : GoodIn wsL_law (wsV RL 80 RX11 yX11_countFree wsX11_countFree) := goodIn_app (goodIn_r _ [554, 555, 556, 5] rfl (by decide +kernel)) ggL_law_X11_countFree
set_option maxRecDepth 20000 in
theorem ggL_law_X10_countNormal : GoodIn wsL_law wsX10_countNormal := goodIn_r _ [570, 29, 20, 179, 181, 379, 380, 381, 28, 382, 383, 384, 385, 386, 86, 387, 547, 548, 32, 549, 519, 550, 520, 551, 552, 67, 553, 522, 503, 504, 505, 80, 523, 395, 396, 397, 83, 81, 398, 66, 68, 399, 400, 401, 402, 84, 85, 524, 454, 455, 456, 457, 458, 459, 460, 461, 404, 405, 406, 407, 408, 409, 410, 411, 412, 413, 414, 984, 985, 986, 987, 988, 989, 990, 991, 992, 993, 1032, 1033, 1034, 1035, 1036, 1037, 1040, 1041, 1042, 1043, 1044, 1045, 1046, 1047, 1048] rfl (by decide +kernel)
set_option maxRecDepth 20000 in
theorem gL_law_X10_countNormal : GoodIn wsL_law (wsV RL 81 RX10 yX10_countNormal wsX10_countNormal) := goodIn_app (goodIn_r _ [567, 568, 569, 2] rfl (by decide +kernel)) ggL_law_X10_countNormal
set_option maxRecDepth 20000 in
theorem ggL_law_X11_countNormal : GoodIn wsL_law wsX11_countNormal := goodIn_r _ [574, 172, 173, 5, 174, 558, 559, 560, 561, 370, 534, 562, 141, 563, 564, 565, 566, 267, 66, 67, 68, 539, 540, 541, 542, 134, 466, 467, 468, 469, 133, 470, 471, 472, 473, 419, 420, 421, 422, 132, 423, 424, 425, 426, 427, 428, 429, 430, 135, 431, 432, 433, 434, 435, 436, 437, 438, 371, 372, 373, 374, 439, 440, 441, 442, 994, 995, 996, 997, 998, 999, 1000, 1001, 1002, 1003, 1004, 1005, 1006, 1007, 1008, 1009, 1010, 1011, 1012, 1013, 1014, 1015, 1016, 1017, 1018, 1019, 1020, 1021, 1022, 1023, 1024, 1025, 1026, 1027, 1028, 1029] rfl (by decide +kernel)
set_option maxRecDepth 20000 in
theorem gL_law_X11_countNormal : GoodIn wsL_law (wsV RL 84 RX11 yX11_countNormal wsX11_countNormal) := goodIn_app (goodIn_r _ [571, 572, 573, 5] rfl (by decide +kernel)) ggL_law_X11_countNormal
set_option maxRecDepth 20000 in
theorem ggL_law_X10_longestFree : GoodIn wsL_law wsX10_longestFree := goodIn_r _ [578, 29, 20, 179, 33, 181, 579, 379, 380, 381, 28, 382, 383, 384, 385, 386, 86, 387, 514, 515, 516, 32, 517, 518, 519, 520, 521, 66, 67, 68, 522, 503, 504, 505, 80, 523, 395, 396, 397, 83, 81, 398, 399, 400, 401, 402, 84, 85, 524, 454, 455, 456, 457, 458, 459, 460, 461, 404, 405, 406, 407, 408, 409, 410, 411, 412, 413, 414, 984, 985, 986, 987, 988, 989, 990, 991, 992, 993, 1032, 1033, 1034, 1035, 1036, 1037, 1049, 1040, 1041, 1042, 1043, 1044, 1045, 1046, 1047, 1048] rfl (by decide +kernel)
set_option maxRecDepth 20000 in
theorem gL_law_X10_longestFree : GoodIn wsL_law (wsV RL 85 RX10 yX10_longestFree wsX10_longestFree) := goodIn_app (goodIn_r _ [575, 576, 577, 2] rfl (by decide +kernel)) ggL_law_X10_longestFree
set_option maxRecDepth 20000 in
theorem ggL_law_X11_longestFree : GoodIn wsL_law wsX11_longestFree := goodIn_r _ [583, 370, 534, 267, 66, 67, 68, 141, 539, 540, 541, 5, 542, 134, 466, 467, 468, 469, 133, 470, 471, 472, 473, 419, 420, 421, 422, 132, 423, 424, 425, 426, 427, 428, 429, 430, 135, 431, 432, 433, 434, 435, 436, 437, 438, 371, 372, 373, 374, 439, 440, 441, 442, 994, 995, 996, 997, 998, 999, 1000, 1001, 1002, 1003, 1004, 1005, 1006, 1007, 1008, 1009, 1010, 1011, 1012, 1013, 1014, 1015, 1016, 1017, 1018, 1019, 1020, 1021, 1022, 1023, 1024, 1025, 1026, 1027, 1028, 1029] rfl (by decide +kernel)
set_option maxRecDepth 20000 in
theorem gL_law_X11_longestFree : GoodIn wsL_law (wsV RL 88 RX11 yX11_longestFree wsX11_longestFree) := goodIn_app (goodIn_r _ [580, 581, 582, 5] rfl (by decide +kernel)) ggL_law_X11_longestFree
set_option maxRecDepth 20000 in
theorem ggL_law_X10_parseImage : GoodIn wsL_law wsX10_parseImage := goodIn_r _ [587, 16, 20, 181, 588, 161, 589, 590, 591, 15, 592, 166, 593, 594, 595, 596, 205, 206, 207, 208, 50, 597, 288, 289, 290, 19, 291, 74, 598, 599, 600, 601, 602, 603, 310, 311, 24, 312, 313, 69, 984, 985, 986, 987, 988, 989, 990, 991, 992, 993, 1032, 1033, 1034, 1035, 1036, 1037, 1030, 1031, 1038, 1039] rfl (by decide +kernel)
set_option maxRecDepth 20000 in
theorem gL_law_X10_parseImage : GoodIn wsL_law (wsV RL 89 RX10 yX10_parseImage wsX10_parseImage) := goodIn_app (goodIn_r _ [584, 585, 586, 2] rfl (by decide +kernel)) ggL_law_X10_parseImage
set_option maxRecDepth 20000 in
theorem ggL_law_X11_parseImage : GoodIn wsL_law wsX11_parseImage := goodIn_r _ [607, 171, 262, 139, 138, 140, 608, 609, 610, 5, 611, 271, 272, 273, 274, 296, 297, 298, 299, 134, 172, 173, 174, 994, 995, 996, 997, 998, 999, 1000, 1001, 1002, 1003, 1004, 1005, 1006, 1007, 1008, 1009, 1010, 1011, 1012, 1013, 1014, 1015, 1016, 1017, 1018, 1019, 1020, 1021, 1022, 1023, 1024, 1025, 1026, 1027, 1028, 1029] rfl (by decide +kernel)
set_option maxRecDepth 20000 in
theorem gL_law_X11_parseImage : GoodIn wsL_law (wsV RL 92 RX11 yX11_parseImage wsX11_parseImage) := goodIn_app (goodIn_r _ [604, 605, 606, 5] rfl (by decide +kernel)) ggL_law_X11_parseImage
set_option maxRecDepth 20000 in
theorem ggL_law_X10_imageLength : GoodIn wsL_law wsX10_imageLength := goodIn_r _ [615, 20, 588, 305, 288, 289, 290, 19, 291, 74, 984, 985, 986, 987, 988, 989, 990, 991, 992, 993, 1032, 1033, 1034, 1035, 1036, 1037, 1038, 1039] rfl (by decide +kernel)
set_option maxRecDepth 20000 in
theorem gL_law_X10_imageLength : GoodIn wsL_law (wsV RL 93 RX10 yX10_imageLength wsX10_imageLength) := goodIn_app (goodIn_r _ [612, 613, 614, 2] rfl (by decide +kernel)) ggL_law_X10_imageLength
set_option maxRecDepth 20000 in
theorem ggL_law_X11_imageLength : GoodIn wsL_law wsX11_imageLength := goodIn_r _ [619, 139, 296, 297, 298, 5, 299, 134, 172, 173, 174, 994, 995, 996, 997, 998, 999, 1000, 1001, 1002, 1003, 1004, 1005, 1006, 1007, 1008, 1009, 1010, 1011, 1012, 1013, 1014, 1015, 1016, 1017, 1018, 1019, 1020, 1021, 1022, 1023, 1024, 1025, 1026, 1027, 1028, 1029] rfl (by decide +kernel)
set_option maxRecDepth 20000 in
theorem gL_law_X11_imageLength : GoodIn wsL_law (wsV RL 96 RX11 yX11_imageLength wsX11_imageLength) := goodIn_app (goodIn_r _ [616, 617, 618, 5] rfl (by decide +kernel)) ggL_law_X11_imageLength
set_option maxRecDepth 20000 in
theorem ggL_law_X10_apply : GoodIn wsL_law wsX10_apply := goodIn_r _ [623, 20, 304, 305, 588, 341, 25, 306, 307, 2, 308, 624, 625, 626, 24, 627, 313, 69, 628, 310, 311, 312, 629, 630, 631, 632, 633, 984, 985, 986, 987, 988, 989, 990, 991, 992, 993, 1032, 1033, 1034, 1035, 1036, 1037, 1038, 1039] rfl (by decide +kernel)
set_option maxRecDepth 20000 in
theorem gL_law_X10_apply : GoodIn wsL_law (wsV RL 97 RX10 yX10_apply wsX10_apply) := goodIn_app (goodIn_r _ [620, 621, 622, 2] rfl (by decide +kernel)) ggL_law_X10_apply
set_option maxRecDepth 20000 in
theorem ggL_law_X11_apply : GoodIn wsL_law wsX11_apply := goodIn_r _ [637, 137, 139, 136, 370, 141, 138, 318, 319, 5, 320, 172, 173, 174, 366, 367, 368, 369, 994, 995, 996, 997, 998, 999, 1000, 1001, 1002, 1003, 1004, 1005, 1006, 1007, 1008, 1009, 1010, 1011, 1012, 1013, 1014, 1015, 1016, 1017, 1018, 1019, 1020, 1021, 1022, 1023, 1024, 1025, 1026, 1027, 1028, 1029] rfl (by decide +kernel)
set_option maxRecDepth 20000 in
theorem gL_law_X11_apply : GoodIn wsL_law (wsV RL 100 RX11 yX11_apply wsX11_apply) := goodIn_app (goodIn_r _ [634, 635, 636, 5] rfl (by decide +kernel)) ggL_law_X11_apply
set_option maxRecDepth 20000 in
theorem ggL_law_X10_iterate : GoodIn wsL_law wsX10_iterate := goodIn_r _ [641, 20, 588, 305, 341, 25, 304, 306, 307, 2, 308, 288, 289, 290, 19, 291, 74, 642, 643, 644, 645, 60, 75, 629, 630, 631, 24, 632, 313, 633, 625, 626, 627, 69, 628, 310, 311, 312, 624, 984, 985, 986, 987, 988, 989, 990, 991, 992, 993, 1032, 1033, 1034, 1035, 1036, 1037, 1038, 1039] rfl (by decide +kernel)
set_option maxRecDepth 20000 in
theorem gL_law_X10_iterate : GoodIn wsL_law (wsV RL 101 RX10 yX10_iterate wsX10_iterate) := goodIn_app (goodIn_r _ [638, 639, 640, 2] rfl (by decide +kernel)) ggL_law_X10_iterate
set_option maxRecDepth 20000 in
theorem ggL_law_X11_iterate : GoodIn wsL_law wsX11_iterate := goodIn_r _ [649, 139, 138, 136, 137, 318, 319, 5, 320, 172, 173, 174, 296, 297, 298, 299, 134, 650, 651, 652, 653, 994, 995, 996, 997, 998, 999, 1000, 1001, 1002, 1003, 1004, 1005, 1006, 1007, 1008, 1009, 1010, 1011, 1012, 1013, 1014, 1015, 1016, 1017, 1018, 1019, 1020, 1021, 1022, 1023, 1024, 1025, 1026, 1027, 1028, 1029] rfl (by decide +kernel)
set_option maxRecDepth 20000 in
theorem gL_law_X11_iterate : GoodIn wsL_law (wsV RL 104 RX11 yX11_iterate wsX11_iterate) := goodIn_app (goodIn_r _ [646, 647, 648, 5] rfl (by decide +kernel)) ggL_law_X11_iterate
set_option maxRecDepth 20000 in
theorem ggL_law_X10_determinant : GoodIn wsL_law wsX10_determinant := goodIn_r _ [657, 20, 658, 37, 642, 643, 644, 19, 645, 74, 60, 75, 659, 660, 661, 36, 662, 663, 664, 665, 93, 666, 667, 355, 356, 24, 357, 65, 66, 67, 68, 313, 69, 668, 669, 670, 671, 672, 673, 674, 675, 676, 677, 678, 984, 985, 986, 987, 988, 989, 990, 991, 992, 993, 1032, 1033, 1034, 1035, 1036, 1037, 1038, 1039, 1050, 1051] rfl (by decide +kernel)
set_option maxRecDepth 20000 in
theorem gL_law_X10_determinant : GoodIn wsL_law (wsV RL 105 RX10 yX10_determinant wsX10_determinant) := goodIn_app (goodIn_r _ [654, 655, 656, 2] rfl (by decide +kernel)) ggL_law_X10_determinant
set_option maxRecDepth 20000 in
theorem ggL_law_X11_determinant : GoodIn wsL_law wsX11_determinant := goodIn_r _ [682, 683, 650, 651, 652, 5, 653, 134, 139, 684, 685, 686, 687, 688, 689, 690, 691, 138, 994, 995, 996, 997, 998, 999, 1000, 1001, 1002, 1003, 1004, 1005, 1006, 1007, 1008, 1009, 1010, 1011, 1012, 1013, 1014, 1015, 1016, 1017, 1018, 1019, 1020, 1021, 1022, 1023, 1024, 1025, 1026, 1027, 1028, 1029] rfl (by decide +kernel)
set_option maxRecDepth 20000 in
theorem gL_law_X11_determinant : GoodIn wsL_law (wsV RL 109 RX11 yX11_determinant wsX11_determinant) := goodIn_app (goodIn_r _ [679, 680, 681, 5] rfl (by decide +kernel)) ggL_law_X11_determinant
set_option maxRecDepth 20000 in
theorem ggL_law_X10_computeClosure : GoodIn wsL_law wsX10_computeClosure := goodIn_r _ [695, 20, 37, 41, 642, 643, 644, 19, 645, 74, 60, 75, 659, 660, 661, 36, 662, 663, 664, 665, 93, 666, 667, 355, 356, 24, 357, 65, 66, 67, 68, 313, 69, 668, 669, 670, 671, 672, 673, 674, 675, 676, 677, 678, 696, 697, 698, 40, 699, 700, 701, 103, 99, 702, 703, 704, 705, 706, 707, 708, 104, 709, 710, 711, 712, 713, 714, 715, 102, 716, 717, 718, 719, 720, 721, 722, 723, 724, 725, 726, 98, 727, 728, 729, 730, 731, 732, 733, 734, 116, 115, 735, 736, 737, 738, 109, 739, 110, 111, 740, 741, 742, 743, 744, 105, 745, 746, 747, 748, 108, 749, 750, 751, 752, 753, 754, 755, 756, 757, 758, 121, 122, 759, 760, 761, 762, 763, 764, 765, 123, 766, 767, 768, 769, 770, 771, 772, 773, 774, 775, 776, 777, 778, 779, 780, 781, 782, 783, 784, 785, 786, 97, 984, 985, 986, 987, 988, 989, 990, 991, 992, 993, 1032, 1033, 1034, 1035, 1036, 1037, 1038, 1039, 1050, 1051, 1052, 1053, 1054, 1055, 1056, 1057, 1058, 1059, 1060, 1061, 1062, 1063, 1064, 1065, 1069, 1070, 1071, 1072, 1073, 1074] rfl (by decide +kernel)
set_option maxRecDepth 20000 in
theorem gL_law_X10_computeClosure : GoodIn wsL_law (wsV RL 110 RX10 yX10_computeClosure wsX10_computeClosure) := goodIn_app (goodIn_r _ [692, 693, 694, 2] rfl (by decide +kernel)) ggL_law_X10_computeClosure
set_option maxRecDepth 20000 in
theorem ggL_law_X11_computeClosure : GoodIn wsL_law wsX11_computeClosure := goodIn_r _ [790, 791, 792, 144, 148, 149, 142, 793, 134, 794, 143, 650, 651, 652, 5, 653, 139, 684, 685, 686, 687, 688, 689, 690, 691, 138, 795, 796, 797, 798, 799, 800, 801, 802, 803, 804, 805, 806, 145, 807, 808, 809, 810, 811, 812, 813, 814, 815, 816, 817, 818, 146, 819, 552, 67, 553, 820, 821, 822, 823, 824, 825, 826, 827, 828, 829, 830, 831, 832, 833, 834, 835, 836, 837, 838, 839, 840, 841, 842, 843, 844, 845, 846, 847, 994, 995, 996, 997, 998, 999, 1000, 1001, 1002, 1003, 1004, 1005, 1006, 1007, 1008, 1009, 1010, 1011, 1012, 1013, 1014, 1015, 1016, 1017, 1018, 1019, 1020, 1021, 1022, 1023, 1024, 1025, 1026, 1027, 1028, 1029] rfl (by decide +kernel)
set_option maxRecDepth 20000 in
theorem gL_law_X11_computeClosure : GoodIn wsL_law (wsV RL 113 RX11 yX11_computeClosure wsX11_computeClosure) := goodIn_app (goodIn_r _ [787, 788, 789, 5] rfl (by decide +kernel)) ggL_law_X11_computeClosure
set_option maxRecDepth 20000 in
theorem ggL_law_X10_template : GoodIn wsL_law wsX10_template := goodIn_r _ [851, 41, 852, 853, 854, 855, 856, 857, 40, 858, 702, 859, 860, 861, 862, 103, 97, 786, 731, 732, 733, 102, 734, 116, 115, 984, 985, 986, 987, 988, 989, 990, 991, 992, 993, 1052, 1053, 1054, 1055, 1056, 1057, 1058, 1059, 1060, 1061, 1062, 1063, 1064, 1065, 1069, 1070] rfl (by decide +kernel)
set_option maxRecDepth 20000 in
theorem gL_law_X10_template : GoodIn wsL_law (wsV RL 114 RX10 yX10_template wsX10_template) := goodIn_app (goodIn_r _ [848, 849, 850, 2] rfl (by decide +kernel)) ggL_law_X10_template
set_option maxRecDepth 20000 in
theorem ggL_law_X11_template : GoodIn wsL_law wsX11_template := goodIn_r _ [866, 793, 794, 143, 172, 173, 5, 174, 994, 995, 996, 997, 998, 999, 1000, 1001, 1002, 1003, 1004, 1005, 1006, 1007, 1008, 1009, 1010, 1011, 1012, 1013, 1014, 1015, 1016, 1017, 1018, 1019, 1020, 1021, 1022, 1023, 1024, 1025, 1026, 1027, 1028, 1029] rfl (by decide +kernel)
set_option maxRecDepth 20000 in
theorem gL_law_X11_template : GoodIn wsL_law (wsV RL 117 RX11 yX11_template wsX11_template) := goodIn_app (goodIn_r _ [863, 864, 865, 5] rfl (by decide +kernel)) ggL_law_X11_template
set_option maxRecDepth 20000 in
theorem ggL_law_X10_occurrence : GoodIn wsL_law wsX10_occurrence := goodIn_r _ [870, 41, 852, 20, 181, 29, 304, 306, 307, 2, 308, 855, 856, 857, 40, 858, 702, 379, 380, 381, 28, 382, 383, 384, 385, 386, 86, 387, 388, 389, 390, 391, 392, 393, 394, 395, 396, 397, 80, 83, 81, 398, 66, 67, 68, 399, 400, 401, 402, 84, 85, 859, 860, 861, 862, 103, 97, 786, 731, 732, 733, 102, 734, 116, 115, 871, 872, 873, 874, 875, 876, 877, 878, 879, 880, 881, 882, 883, 884, 760, 761, 885, 886, 887, 888, 889, 890, 891, 892, 893, 984, 985, 986, 987, 988, 989, 990, 991, 992, 993, 1052, 1053, 1054, 1055, 1056, 1057, 1058, 1059, 1060, 1061, 1062, 1063, 1064, 1065, 1032, 1033, 1034, 1035, 1036, 1037, 1040, 1041, 1042, 1043, 1044, 1045, 1046, 1047, 1048, 1038, 1039, 1069, 1070] rfl (by decide +kernel)
set_option maxRecDepth 20000 in
theorem gL_law_X10_occurrence : GoodIn wsL_law (wsV RL 118 RX10 yX10_occurrence wsX10_occurrence) := goodIn_app (goodIn_r _ [867, 868, 869, 2] rfl (by decide +kernel)) ggL_law_X10_occurrence
set_option maxRecDepth 20000 in
theorem ggL_law_X11_occurrence : GoodIn wsL_law wsX11_occurrence := goodIn_r _ [897, 793, 134, 794, 370, 318, 319, 5, 320, 172, 173, 174, 366, 367, 368, 369, 137, 141, 136, 898, 899, 900, 901, 143, 371, 372, 373, 374, 994, 995, 996, 997, 998, 999, 1000, 1001, 1002, 1003, 1004, 1005, 1006, 1007, 1008, 1009, 1010, 1011, 1012, 1013, 1014, 1015, 1016, 1017, 1018, 1019, 1020, 1021, 1022, 1023, 1024, 1025, 1026, 1027, 1028, 1029] rfl (by decide +kernel)
set_option maxRecDepth 20000 in
theorem gL_law_X11_occurrence : GoodIn wsL_law (wsV RL 121 RX11 yX11_occurrence wsX11_occurrence) := goodIn_app (goodIn_r _ [894, 895, 896, 5] rfl (by decide +kernel)) ggL_law_X11_occurrence
set_option maxRecDepth 20000 in
theorem ggL_law_X10_newArray : GoodIn wsL_law wsX10_newArray := goodIn_r _ [905, 43, 906, 907, 2, 908, 909, 910, 911, 45, 912, 913, 914, 552, 67, 553, 915, 127, 984, 985, 986, 987, 988, 989, 990, 991, 992, 993, 1066, 1067, 1068] rfl (by decide +kernel)
set_option maxRecDepth 20000 in
theorem gL_law_X10_newArray : GoodIn wsL_law (wsV RL 122 RX10 yX10_newArray wsX10_newArray) := goodIn_app (goodIn_r _ [902, 903, 904, 2] rfl (by decide +kernel)) ggL_law_X10_newArray
set_option maxRecDepth 20000 in
theorem ggL_law_X11_newArray : GoodIn wsL_law wsX11_newArray := goodIn_r _ [919, 150, 151, 318, 319, 5, 320, 172, 173, 174, 994, 995, 996, 997, 998, 999, 1000, 1001, 1002, 1003, 1004, 1005, 1006, 1007, 1008, 1009, 1010, 1011, 1012, 1013, 1014, 1015, 1016, 1017, 1018, 1019, 1020, 1021, 1022, 1023, 1024, 1025, 1026, 1027, 1028, 1029] rfl (by decide +kernel)
set_option maxRecDepth 20000 in
theorem gL_law_X11_newArray : GoodIn wsL_law (wsV RL 125 RX11 yX11_newArray wsX11_newArray) := goodIn_app (goodIn_r _ [916, 917, 918, 5] rfl (by decide +kernel)) ggL_law_X11_newArray
set_option maxRecDepth 20000 in
theorem ggL_law_X10_setElement : GoodIn wsL_law wsX10_setElement := goodIn_r _ [923, 43, 924, 925, 906, 907, 2, 908, 926, 927, 928, 45, 929, 913, 915, 984, 985, 986, 987, 988, 989, 990, 991, 992, 993, 1066, 1067, 1068] rfl (by decide +kernel)
set_option maxRecDepth 20000 in
theorem gL_law_X10_setElement : GoodIn wsL_law (wsV RL 128 RX10 yX10_setElement wsX10_setElement) := goodIn_app (goodIn_r _ [920, 921, 922, 2] rfl (by decide +kernel)) ggL_law_X10_setElement
set_option maxRecDepth 20000 in
theorem ggL_law_X11_setElement : GoodIn wsL_law wsX11_setElement := goodIn_r _ [933, 150, 151, 318, 319, 5, 320, 172, 173, 174, 994, 995, 996, 997, 998, 999, 1000, 1001, 1002, 1003, 1004, 1005, 1006, 1007, 1008, 1009, 1010, 1011, 1012, 1013, 1014, 1015, 1016, 1017, 1018, 1019, 1020, 1021, 1022, 1023, 1024, 1025, 1026, 1027, 1028, 1029] rfl (by decide +kernel)
set_option maxRecDepth 20000 in
theorem gL_law_X11_setElement : GoodIn wsL_law (wsV RL 132 RX11 yX11_setElement wsX11_setElement) := goodIn_app (goodIn_r _ [930, 931, 932, 5] rfl (by decide +kernel)) ggL_law_X11_setElement
set_option maxRecDepth 20000 in
theorem ggL_law_X10_element : GoodIn wsL_law wsX10_element := goodIn_r _ [937, 43, 658, 925, 906, 907, 2, 908, 926, 927, 928, 45, 929, 913, 915, 984, 985, 986, 987, 988, 989, 990, 991, 992, 993, 1066, 1067, 1068] rfl (by decide +kernel)
set_option maxRecDepth 20000 in
theorem gL_law_X10_element : GoodIn wsL_law (wsV RL 133 RX10 yX10_element wsX10_element) := goodIn_app (goodIn_r _ [934, 935, 936, 2] rfl (by decide +kernel)) ggL_law_X10_element
set_option maxRecDepth 20000 in
theorem ggL_law_X11_element : GoodIn wsL_law wsX11_element := goodIn_r _ [941, 150, 151, 683, 318, 319, 5, 320, 172, 173, 174, 994, 995, 996, 997, 998, 999, 1000, 1001, 1002, 1003, 1004, 1005, 1006, 1007, 1008, 1009, 1010, 1011, 1012, 1013, 1014, 1015, 1016, 1017, 1018, 1019, 1020, 1021, 1022, 1023, 1024, 1025, 1026, 1027, 1028, 1029] rfl (by decide +kernel)
set_option maxRecDepth 20000 in
theorem gL_law_X11_element : GoodIn wsL_law (wsV RL 137 RX11 yX11_element wsX11_element) := goodIn_app (goodIn_r _ [938, 939, 940, 5] rfl (by decide +kernel)) ggL_law_X11_element
set_option maxRecDepth 20000 in
theorem ggL_law_X10_prefixSums : GoodIn wsL_law wsX10_prefixSums := goodIn_r _ [945, 43, 20, 304, 924, 305, 925, 287, 341, 906, 907, 2, 908, 306, 307, 308, 926, 927, 928, 45, 929, 913, 915, 984, 985, 986, 987, 988, 989, 990, 991, 992, 993, 1032, 1033, 1034, 1035, 1036, 1037, 1066, 1067, 1068, 1038, 1039] rfl (by decide +kernel)
set_option maxRecDepth 20000 in
theorem gL_law_X10_prefixSums : GoodIn wsL_law (wsV RL 138 RX10 yX10_prefixSums wsX10_prefixSums) := goodIn_app (goodIn_r _ [942, 943, 944, 2] rfl (by decide +kernel)) ggL_law_X10_prefixSums
set_option maxRecDepth 20000 in
theorem ggL_law_X11_prefixSums : GoodIn wsL_law wsX11_prefixSums := goodIn_r _ [949, 150, 137, 370, 151, 318, 319, 5, 320, 172, 173, 174, 366, 367, 368, 369, 141, 136, 427, 428, 429, 430, 135, 994, 995, 996, 997, 998, 999, 1000, 1001, 1002, 1003, 1004, 1005, 1006, 1007, 1008, 1009, 1010, 1011, 1012, 1013, 1014, 1015, 1016, 1017, 1018, 1019, 1020, 1021, 1022, 1023, 1024, 1025, 1026, 1027, 1028, 1029] rfl (by decide +kernel)
set_option maxRecDepth 20000 in
theorem gL_law_X11_prefixSums : GoodIn wsL_law (wsV RL 141 RX11 yX11_prefixSums wsX11_prefixSums) := goodIn_app (goodIn_r _ [946, 947, 948, 5] rfl (by decide +kernel)) ggL_law_X11_prefixSums
set_option maxRecDepth 20000 in
theorem ggL_law_X10_saveSnapshot : GoodIn wsL_law wsX10_saveSnapshot := goodIn_r _ [953, 21, 20, 954, 955, 956, 957, 19, 958, 55, 56, 74, 59, 60, 57, 959, 630, 631, 24, 632, 313, 633, 625, 626, 627, 69, 628, 310, 311, 312, 960, 961, 962, 963, 75, 984, 985, 986, 987, 988, 989, 990, 991, 992, 993, 1032, 1033, 1034, 1035, 1036, 1037, 1038, 1039] rfl (by decide +kernel)
set_option maxRecDepth 20000 in
theorem gL_law_X10_saveSnapshot : GoodIn wsL_law (wsV RL 142 RX10 yX10_saveSnapshot wsX10_saveSnapshot) := goodIn_app (goodIn_r _ [950, 951, 952, 2] rfl (by decide +kernel)) ggL_law_X10_saveSnapshot
set_option maxRecDepth 20000 in
theorem ggL_law_X11_saveSnapshot : GoodIn wsL_law wsX11_saveSnapshot := goodIn_r _ [967, 968, 132, 969, 133, 970, 134, 971, 153, 136, 154, 137, 155, 138, 156, 139, 152, 135, 972, 973, 974, 5, 975, 994, 995, 996, 997, 998, 999, 1000, 1001, 1002, 1003, 1004, 1005, 1006, 1007, 1008, 1009, 1010, 1011, 1012, 1013, 1014, 1015, 1016, 1017, 1018, 1019, 1020, 1021, 1022, 1023, 1024, 1025, 1026, 1027, 1028, 1029] rfl (by decide +kernel)
set_option maxRecDepth 20000 in
theorem gL_law_X11_saveSnapshot : GoodIn wsL_law (wsV RL 145 RX11 yX11_saveSnapshot wsX11_saveSnapshot) := goodIn_app (goodIn_r _ [964, 965, 966, 5] rfl (by decide +kernel)) ggL_law_X11_saveSnapshot
set_option maxRecDepth 20000 in
theorem ggL_law_X10_restoreSnapshot : GoodIn wsL_law wsX10_restoreSnapshot := goodIn_r _ [979, 954, 20, 21, 955, 956, 957, 19, 958, 55, 56, 74, 59, 60, 57, 959, 630, 631, 24, 632, 313, 633, 625, 626, 627, 69, 628, 310, 311, 312, 960, 961, 962, 963, 75, 984, 985, 986, 987, 988, 989, 990, 991, 992, 993, 1032, 1033, 1034, 1035, 1036, 1037, 1038, 1039] rfl (by decide +kernel)
set_option maxRecDepth 20000 in
theorem gL_law_X10_restoreSnapshot : GoodIn wsL_law (wsV RL 146 RX10 yX10_restoreSnapshot wsX10_restoreSnapshot) := goodIn_app (goodIn_r _ [976, 977, 978, 2] rfl (by decide +kernel)) ggL_law_X10_restoreSnapshot
set_option maxRecDepth 20000 in
theorem ggL_law_X11_restoreSnapshot : GoodIn wsL_law wsX11_restoreSnapshot := goodIn_r _ [983, 968, 969, 132, 970, 133, 971, 134, 136, 153, 137, 154, 138, 155, 139, 156, 135, 152, 972, 973, 974, 5, 975, 994, 995, 996, 997, 998, 999, 1000, 1001, 1002, 1003, 1004, 1005, 1006, 1007, 1008, 1009, 1010, 1011, 1012, 1013, 1014, 1015, 1016, 1017, 1018, 1019, 1020, 1021, 1022, 1023, 1024, 1025, 1026, 1027, 1028, 1029] rfl (by decide +kernel)
set_option maxRecDepth 20000 in
theorem gL_law_X11_restoreSnapshot : GoodIn wsL_law (wsV RL 149 RX11 yX11_restoreSnapshot wsX11_restoreSnapshot) := goodIn_app (goodIn_r _ [980, 981, 982, 5] rfl (by decide +kernel)) ggL_law_X11_restoreSnapshot
theorem dL_law_0 : decode cL_law 0 = .ok (.new 7, 3) := by decide +kernel
theorem dL_law_3 : decode cL_law 3 = .ok (.dup, 1) := by decide +kernel
theorem dL_law_4 : decode cL_law 4 = .ok (.invokespecial 9, 3) := by decide +kernel
theorem dL_law_7 : decode cL_law 7 = .ok (.astore_n 1, 1) := by decide +kernel
theorem dL_law_8 : decode cL_law 8 = .ok (.new 10, 3) := by decide +kernel
theorem dL_law_11 : decode cL_law 11 = .ok (.dup, 1) := by decide +kernel
theorem dL_law_12 : decode cL_law 12 = .ok (.invokespecial 12, 3) := by decide +kernel
theorem dL_law_15 : decode cL_law 15 = .ok (.astore_n 2, 1) := by decide +kernel
theorem dL_law_16 : decode cL_law 16 = .ok (.iconst 0, 1) := by decide +kernel
theorem dL_law_17 : decode cL_law 17 = .ok (.istore_n 3, 1) := by decide +kernel
theorem dL_law_18 : decode cL_law 18 = .ok (.iload_n 3, 1) := by decide +kernel
theorem dL_law_19 : decode cL_law 19 = .ok (.aload_n 0, 1) := by decide +kernel
theorem dL_law_20 : decode cL_law 20 = .ok (.arraylength, 1) := by decide +kernel
theorem dL_law_21 : decode cL_law 21 = .ok (.iconst 5, 1) := by decide +kernel
theorem dL_law_22 : decode cL_law 22 = .ok (.isub, 1) := by decide +kernel
theorem dL_law_23 : decode cL_law 23 = .ok (.if_icmp .gt 1037, 3) := by decide +kernel
theorem dL_law_26 : decode cL_law 26 = .ok (.aload_n 0, 1) := by decide +kernel
theorem dL_law_27 : decode cL_law 27 = .ok (.iload_n 3, 1) := by decide +kernel
theorem dL_law_28 : decode cL_law 28 = .ok (.iaload, 1) := by decide +kernel
theorem dL_law_29 : decode cL_law 29 = .ok (.bipush 31, 2) := by decide +kernel
theorem dL_law_31 : decode cL_law 31 = .ok (.iand, 1) := by decide +kernel
theorem dL_law_32 : decode cL_law 32 = .ok (.tableswitch 1022 0 31 #[144, 167, 180, 203, 236, 269, 292, 315, 348, 401, 454, 477, 500, 523, 546, 579, 602, 625, 638, 651, 674, 697, 730, 744, 757, 790, 823, 856, 929, 963, 996, 1009], 144) := by decide +kernel
theorem dL_law_176 : decode cL_law 176 = .ok (.aload_n 1, 1) := by decide +kernel
theorem dL_law_177 : decode cL_law 177 = .ok (.aload_n 0, 1) := by decide +kernel
theorem dL_law_178 : decode cL_law 178 = .ok (.iload_n 3, 1) := by decide +kernel
theorem dL_law_179 : decode cL_law 179 = .ok (.iconst 1, 1) := by decide +kernel
theorem dL_law_180 : decode cL_law 180 = .ok (.iadd, 1) := by decide +kernel
theorem dL_law_181 : decode cL_law 181 = .ok (.iaload, 1) := by decide +kernel
theorem dL_law_182 : decode cL_law 182 = .ok (.invokevirtual 13, 3) := by decide +kernel
theorem dL_law_185 : decode cL_law 185 = .ok (.aload_n 2, 1) := by decide +kernel
theorem dL_law_186 : decode cL_law 186 = .ok (.aload_n 0, 1) := by decide +kernel
theorem dL_law_187 : decode cL_law 187 = .ok (.iload_n 3, 1) := by decide +kernel
theorem dL_law_188 : decode cL_law 188 = .ok (.iconst 1, 1) := by decide +kernel
theorem dL_law_189 : decode cL_law 189 = .ok (.iadd, 1) := by decide +kernel
theorem dL_law_190 : decode cL_law 190 = .ok (.iaload, 1) := by decide +kernel
theorem dL_law_191 : decode cL_law 191 = .ok (.invokevirtual 17, 3) := by decide +kernel
theorem dL_law_194 : decode cL_law 194 = .ok (.if_icmp .eq 860, 3) := by decide +kernel
theorem dL_law_197 : decode cL_law 197 = .ok (.iconst 0, 1) := by decide +kernel
theorem dL_law_198 : decode cL_law 198 = .ok (.ireturn, 1) := by decide +kernel
theorem dL_law_199 : decode cL_law 199 = .ok (.aload_n 1, 1) := by decide +kernel
theorem dL_law_200 : decode cL_law 200 = .ok (.invokevirtual 18, 3) := by decide +kernel
theorem dL_law_203 : decode cL_law 203 = .ok (.aload_n 2, 1) := by decide +kernel
theorem dL_law_204 : decode cL_law 204 = .ok (.invokevirtual 22, 3) := by decide +kernel
theorem dL_law_207 : decode cL_law 207 = .ok (.if_icmp .eq 847, 3) := by decide +kernel
theorem dL_law_210 : decode cL_law 210 = .ok (.iconst 0, 1) := by decide +kernel
theorem dL_law_211 : decode cL_law 211 = .ok (.ireturn, 1) := by decide +kernel
theorem dL_law_212 : decode cL_law 212 = .ok (.aload_n 1, 1) := by decide +kernel
theorem dL_law_213 : decode cL_law 213 = .ok (.aload_n 0, 1) := by decide +kernel
theorem dL_law_214 : decode cL_law 214 = .ok (.iload_n 3, 1) := by decide +kernel
theorem dL_law_215 : decode cL_law 215 = .ok (.iconst 1, 1) := by decide +kernel
theorem dL_law_216 : decode cL_law 216 = .ok (.iadd, 1) := by decide +kernel
theorem dL_law_217 : decode cL_law 217 = .ok (.iaload, 1) := by decide +kernel
theorem dL_law_218 : decode cL_law 218 = .ok (.invokevirtual 23, 3) := by decide +kernel
theorem dL_law_221 : decode cL_law 221 = .ok (.aload_n 2, 1) := by decide +kernel
theorem dL_law_222 : decode cL_law 222 = .ok (.aload_n 0, 1) := by decide +kernel
theorem dL_law_223 : decode cL_law 223 = .ok (.iload_n 3, 1) := by decide +kernel
theorem dL_law_224 : decode cL_law 224 = .ok (.iconst 1, 1) := by decide +kernel
theorem dL_law_225 : decode cL_law 225 = .ok (.iadd, 1) := by decide +kernel
theorem dL_law_226 : decode cL_law 226 = .ok (.iaload, 1) := by decide +kernel
theorem dL_law_227 : decode cL_law 227 = .ok (.invokevirtual 26, 3) := by decide +kernel
theorem dL_law_230 : decode cL_law 230 = .ok (.if_icmp .eq 824, 3) := by decide +kernel
theorem dL_law_233 : decode cL_law 233 = .ok (.iconst 0, 1) := by decide +kernel
theorem dL_law_234 : decode cL_law 234 = .ok (.ireturn, 1) := by decide +kernel
theorem dL_law_235 : decode cL_law 235 = .ok (.aload_n 1, 1) := by decide +kernel
theorem dL_law_236 : decode cL_law 236 = .ok (.aload_n 0, 1) := by decide +kernel
theorem dL_law_237 : decode cL_law 237 = .ok (.iload_n 3, 1) := by decide +kernel
theorem dL_law_238 : decode cL_law 238 = .ok (.iconst 1, 1) := by decide +kernel
theorem dL_law_239 : decode cL_law 239 = .ok (.iadd, 1) := by decide +kernel
theorem dL_law_240 : decode cL_law 240 = .ok (.iaload, 1) := by decide +kernel
theorem dL_law_241 : decode cL_law 241 = .ok (.aload_n 0, 1) := by decide +kernel
theorem dL_law_242 : decode cL_law 242 = .ok (.iload_n 3, 1) := by decide +kernel
theorem dL_law_243 : decode cL_law 243 = .ok (.iconst 2, 1) := by decide +kernel
theorem dL_law_244 : decode cL_law 244 = .ok (.iadd, 1) := by decide +kernel
theorem dL_law_245 : decode cL_law 245 = .ok (.iaload, 1) := by decide +kernel
theorem dL_law_246 : decode cL_law 246 = .ok (.invokevirtual 27, 3) := by decide +kernel
theorem dL_law_249 : decode cL_law 249 = .ok (.aload_n 2, 1) := by decide +kernel
theorem dL_law_250 : decode cL_law 250 = .ok (.aload_n 0, 1) := by decide +kernel
theorem dL_law_251 : decode cL_law 251 = .ok (.iload_n 3, 1) := by decide +kernel
theorem dL_law_252 : decode cL_law 252 = .ok (.iconst 1, 1) := by decide +kernel
theorem dL_law_253 : decode cL_law 253 = .ok (.iadd, 1) := by decide +kernel
theorem dL_law_254 : decode cL_law 254 = .ok (.iaload, 1) := by decide +kernel
theorem dL_law_255 : decode cL_law 255 = .ok (.aload_n 0, 1) := by decide +kernel
theorem dL_law_256 : decode cL_law 256 = .ok (.iload_n 3, 1) := by decide +kernel
theorem dL_law_257 : decode cL_law 257 = .ok (.iconst 2, 1) := by decide +kernel
theorem dL_law_258 : decode cL_law 258 = .ok (.iadd, 1) := by decide +kernel
theorem dL_law_259 : decode cL_law 259 = .ok (.iaload, 1) := by decide +kernel
theorem dL_law_260 : decode cL_law 260 = .ok (.invokevirtual 31, 3) := by decide +kernel
theorem dL_law_263 : decode cL_law 263 = .ok (.if_icmp .eq 791, 3) := by decide +kernel
theorem dL_law_266 : decode cL_law 266 = .ok (.iconst 0, 1) := by decide +kernel
theorem dL_law_267 : decode cL_law 267 = .ok (.ireturn, 1) := by decide +kernel
theorem dL_law_268 : decode cL_law 268 = .ok (.aload_n 1, 1) := by decide +kernel
theorem dL_law_269 : decode cL_law 269 = .ok (.aload_n 0, 1) := by decide +kernel
theorem dL_law_270 : decode cL_law 270 = .ok (.iload_n 3, 1) := by decide +kernel
theorem dL_law_271 : decode cL_law 271 = .ok (.iconst 1, 1) := by decide +kernel
theorem dL_law_272 : decode cL_law 272 = .ok (.iadd, 1) := by decide +kernel
theorem dL_law_273 : decode cL_law 273 = .ok (.iaload, 1) := by decide +kernel
theorem dL_law_274 : decode cL_law 274 = .ok (.aload_n 0, 1) := by decide +kernel
theorem dL_law_275 : decode cL_law 275 = .ok (.iload_n 3, 1) := by decide +kernel
theorem dL_law_276 : decode cL_law 276 = .ok (.iconst 2, 1) := by decide +kernel
theorem dL_law_277 : decode cL_law 277 = .ok (.iadd, 1) := by decide +kernel
theorem dL_law_278 : decode cL_law 278 = .ok (.iaload, 1) := by decide +kernel
theorem dL_law_279 : decode cL_law 279 = .ok (.invokevirtual 32, 3) := by decide +kernel
theorem dL_law_282 : decode cL_law 282 = .ok (.aload_n 2, 1) := by decide +kernel
theorem dL_law_283 : decode cL_law 283 = .ok (.aload_n 0, 1) := by decide +kernel
theorem dL_law_284 : decode cL_law 284 = .ok (.iload_n 3, 1) := by decide +kernel
theorem dL_law_285 : decode cL_law 285 = .ok (.iconst 1, 1) := by decide +kernel
theorem dL_law_286 : decode cL_law 286 = .ok (.iadd, 1) := by decide +kernel
theorem dL_law_287 : decode cL_law 287 = .ok (.iaload, 1) := by decide +kernel
theorem dL_law_288 : decode cL_law 288 = .ok (.aload_n 0, 1) := by decide +kernel
theorem dL_law_289 : decode cL_law 289 = .ok (.iload_n 3, 1) := by decide +kernel
theorem dL_law_290 : decode cL_law 290 = .ok (.iconst 2, 1) := by decide +kernel
theorem dL_law_291 : decode cL_law 291 = .ok (.iadd, 1) := by decide +kernel
theorem dL_law_292 : decode cL_law 292 = .ok (.iaload, 1) := by decide +kernel
theorem dL_law_293 : decode cL_law 293 = .ok (.invokevirtual 35, 3) := by decide +kernel
theorem dL_law_296 : decode cL_law 296 = .ok (.if_icmp .eq 758, 3) := by decide +kernel
theorem dL_law_299 : decode cL_law 299 = .ok (.iconst 0, 1) := by decide +kernel
theorem dL_law_300 : decode cL_law 300 = .ok (.ireturn, 1) := by decide +kernel
theorem dL_law_301 : decode cL_law 301 = .ok (.aload_n 1, 1) := by decide +kernel
theorem dL_law_302 : decode cL_law 302 = .ok (.aload_n 0, 1) := by decide +kernel
theorem dL_law_303 : decode cL_law 303 = .ok (.iload_n 3, 1) := by decide +kernel
theorem dL_law_304 : decode cL_law 304 = .ok (.iconst 1, 1) := by decide +kernel
theorem dL_law_305 : decode cL_law 305 = .ok (.iadd, 1) := by decide +kernel
theorem dL_law_306 : decode cL_law 306 = .ok (.iaload, 1) := by decide +kernel
theorem dL_law_307 : decode cL_law 307 = .ok (.invokevirtual 36, 3) := by decide +kernel
theorem dL_law_310 : decode cL_law 310 = .ok (.aload_n 2, 1) := by decide +kernel
theorem dL_law_311 : decode cL_law 311 = .ok (.aload_n 0, 1) := by decide +kernel
theorem dL_law_312 : decode cL_law 312 = .ok (.iload_n 3, 1) := by decide +kernel
theorem dL_law_313 : decode cL_law 313 = .ok (.iconst 1, 1) := by decide +kernel
theorem dL_law_314 : decode cL_law 314 = .ok (.iadd, 1) := by decide +kernel
theorem dL_law_315 : decode cL_law 315 = .ok (.iaload, 1) := by decide +kernel
theorem dL_law_316 : decode cL_law 316 = .ok (.invokevirtual 39, 3) := by decide +kernel
theorem dL_law_319 : decode cL_law 319 = .ok (.if_icmp .eq 735, 3) := by decide +kernel
theorem dL_law_322 : decode cL_law 322 = .ok (.iconst 0, 1) := by decide +kernel
theorem dL_law_323 : decode cL_law 323 = .ok (.ireturn, 1) := by decide +kernel
theorem dL_law_324 : decode cL_law 324 = .ok (.aload_n 1, 1) := by decide +kernel
theorem dL_law_325 : decode cL_law 325 = .ok (.aload_n 0, 1) := by decide +kernel
theorem dL_law_326 : decode cL_law 326 = .ok (.iload_n 3, 1) := by decide +kernel
theorem dL_law_327 : decode cL_law 327 = .ok (.iconst 1, 1) := by decide +kernel
theorem dL_law_328 : decode cL_law 328 = .ok (.iadd, 1) := by decide +kernel
theorem dL_law_329 : decode cL_law 329 = .ok (.iaload, 1) := by decide +kernel
theorem dL_law_330 : decode cL_law 330 = .ok (.invokevirtual 40, 3) := by decide +kernel
theorem dL_law_333 : decode cL_law 333 = .ok (.aload_n 2, 1) := by decide +kernel
theorem dL_law_334 : decode cL_law 334 = .ok (.aload_n 0, 1) := by decide +kernel
theorem dL_law_335 : decode cL_law 335 = .ok (.iload_n 3, 1) := by decide +kernel
theorem dL_law_336 : decode cL_law 336 = .ok (.iconst 1, 1) := by decide +kernel
theorem dL_law_337 : decode cL_law 337 = .ok (.iadd, 1) := by decide +kernel
theorem dL_law_338 : decode cL_law 338 = .ok (.iaload, 1) := by decide +kernel
theorem dL_law_339 : decode cL_law 339 = .ok (.invokevirtual 43, 3) := by decide +kernel
theorem dL_law_342 : decode cL_law 342 = .ok (.if_icmp .eq 712, 3) := by decide +kernel
theorem dL_law_345 : decode cL_law 345 = .ok (.iconst 0, 1) := by decide +kernel
theorem dL_law_346 : decode cL_law 346 = .ok (.ireturn, 1) := by decide +kernel
theorem dL_law_347 : decode cL_law 347 = .ok (.aload_n 1, 1) := by decide +kernel
theorem dL_law_348 : decode cL_law 348 = .ok (.aload_n 0, 1) := by decide +kernel
theorem dL_law_349 : decode cL_law 349 = .ok (.iload_n 3, 1) := by decide +kernel
theorem dL_law_350 : decode cL_law 350 = .ok (.iconst 1, 1) := by decide +kernel
theorem dL_law_351 : decode cL_law 351 = .ok (.iadd, 1) := by decide +kernel
theorem dL_law_352 : decode cL_law 352 = .ok (.iaload, 1) := by decide +kernel
theorem dL_law_353 : decode cL_law 353 = .ok (.aload_n 0, 1) := by decide +kernel
theorem dL_law_354 : decode cL_law 354 = .ok (.iload_n 3, 1) := by decide +kernel
theorem dL_law_355 : decode cL_law 355 = .ok (.iconst 2, 1) := by decide +kernel
theorem dL_law_356 : decode cL_law 356 = .ok (.iadd, 1) := by decide +kernel
theorem dL_law_357 : decode cL_law 357 = .ok (.iaload, 1) := by decide +kernel
theorem dL_law_358 : decode cL_law 358 = .ok (.invokevirtual 44, 3) := by decide +kernel
theorem dL_law_361 : decode cL_law 361 = .ok (.aload_n 2, 1) := by decide +kernel
theorem dL_law_362 : decode cL_law 362 = .ok (.aload_n 0, 1) := by decide +kernel
theorem dL_law_363 : decode cL_law 363 = .ok (.iload_n 3, 1) := by decide +kernel
theorem dL_law_364 : decode cL_law 364 = .ok (.iconst 1, 1) := by decide +kernel
theorem dL_law_365 : decode cL_law 365 = .ok (.iadd, 1) := by decide +kernel
theorem dL_law_366 : decode cL_law 366 = .ok (.iaload, 1) := by decide +kernel
theorem dL_law_367 : decode cL_law 367 = .ok (.aload_n 0, 1) := by decide +kernel
theorem dL_law_368 : decode cL_law 368 = .ok (.iload_n 3, 1) := by decide +kernel
theorem dL_law_369 : decode cL_law 369 = .ok (.iconst 2, 1) := by decide +kernel
theorem dL_law_370 : decode cL_law 370 = .ok (.iadd, 1) := by decide +kernel
theorem dL_law_371 : decode cL_law 371 = .ok (.iaload, 1) := by decide +kernel
theorem dL_law_372 : decode cL_law 372 = .ok (.invokevirtual 47, 3) := by decide +kernel
theorem dL_law_375 : decode cL_law 375 = .ok (.if_icmp .eq 679, 3) := by decide +kernel
theorem dL_law_378 : decode cL_law 378 = .ok (.iconst 0, 1) := by decide +kernel
theorem dL_law_379 : decode cL_law 379 = .ok (.ireturn, 1) := by decide +kernel
theorem dL_law_380 : decode cL_law 380 = .ok (.aload_n 1, 1) := by decide +kernel
theorem dL_law_381 : decode cL_law 381 = .ok (.aload_n 0, 1) := by decide +kernel
theorem dL_law_382 : decode cL_law 382 = .ok (.iload_n 3, 1) := by decide +kernel
theorem dL_law_383 : decode cL_law 383 = .ok (.iconst 1, 1) := by decide +kernel
theorem dL_law_384 : decode cL_law 384 = .ok (.iadd, 1) := by decide +kernel
theorem dL_law_385 : decode cL_law 385 = .ok (.iaload, 1) := by decide +kernel
theorem dL_law_386 : decode cL_law 386 = .ok (.aload_n 0, 1) := by decide +kernel
theorem dL_law_387 : decode cL_law 387 = .ok (.iload_n 3, 1) := by decide +kernel
theorem dL_law_388 : decode cL_law 388 = .ok (.iconst 2, 1) := by decide +kernel
theorem dL_law_389 : decode cL_law 389 = .ok (.iadd, 1) := by decide +kernel
theorem dL_law_390 : decode cL_law 390 = .ok (.iaload, 1) := by decide +kernel
theorem dL_law_391 : decode cL_law 391 = .ok (.aload_n 0, 1) := by decide +kernel
theorem dL_law_392 : decode cL_law 392 = .ok (.iload_n 3, 1) := by decide +kernel
theorem dL_law_393 : decode cL_law 393 = .ok (.iconst 3, 1) := by decide +kernel
theorem dL_law_394 : decode cL_law 394 = .ok (.iadd, 1) := by decide +kernel
theorem dL_law_395 : decode cL_law 395 = .ok (.iaload, 1) := by decide +kernel
theorem dL_law_396 : decode cL_law 396 = .ok (.aload_n 0, 1) := by decide +kernel
theorem dL_law_397 : decode cL_law 397 = .ok (.iload_n 3, 1) := by decide +kernel
theorem dL_law_398 : decode cL_law 398 = .ok (.iconst 4, 1) := by decide +kernel
theorem dL_law_399 : decode cL_law 399 = .ok (.iadd, 1) := by decide +kernel
theorem dL_law_400 : decode cL_law 400 = .ok (.iaload, 1) := by decide +kernel
theorem dL_law_401 : decode cL_law 401 = .ok (.invokevirtual 48, 3) := by decide +kernel
theorem dL_law_404 : decode cL_law 404 = .ok (.aload_n 2, 1) := by decide +kernel
theorem dL_law_405 : decode cL_law 405 = .ok (.aload_n 0, 1) := by decide +kernel
theorem dL_law_406 : decode cL_law 406 = .ok (.iload_n 3, 1) := by decide +kernel
theorem dL_law_407 : decode cL_law 407 = .ok (.iconst 1, 1) := by decide +kernel
theorem dL_law_408 : decode cL_law 408 = .ok (.iadd, 1) := by decide +kernel
theorem dL_law_409 : decode cL_law 409 = .ok (.iaload, 1) := by decide +kernel
theorem dL_law_410 : decode cL_law 410 = .ok (.aload_n 0, 1) := by decide +kernel
theorem dL_law_411 : decode cL_law 411 = .ok (.iload_n 3, 1) := by decide +kernel
theorem dL_law_412 : decode cL_law 412 = .ok (.iconst 2, 1) := by decide +kernel
theorem dL_law_413 : decode cL_law 413 = .ok (.iadd, 1) := by decide +kernel
theorem dL_law_414 : decode cL_law 414 = .ok (.iaload, 1) := by decide +kernel
theorem dL_law_415 : decode cL_law 415 = .ok (.aload_n 0, 1) := by decide +kernel
theorem dL_law_416 : decode cL_law 416 = .ok (.iload_n 3, 1) := by decide +kernel
theorem dL_law_417 : decode cL_law 417 = .ok (.iconst 3, 1) := by decide +kernel
theorem dL_law_418 : decode cL_law 418 = .ok (.iadd, 1) := by decide +kernel
theorem dL_law_419 : decode cL_law 419 = .ok (.iaload, 1) := by decide +kernel
theorem dL_law_420 : decode cL_law 420 = .ok (.aload_n 0, 1) := by decide +kernel
theorem dL_law_421 : decode cL_law 421 = .ok (.iload_n 3, 1) := by decide +kernel
theorem dL_law_422 : decode cL_law 422 = .ok (.iconst 4, 1) := by decide +kernel
theorem dL_law_423 : decode cL_law 423 = .ok (.iadd, 1) := by decide +kernel
theorem dL_law_424 : decode cL_law 424 = .ok (.iaload, 1) := by decide +kernel
theorem dL_law_425 : decode cL_law 425 = .ok (.invokevirtual 52, 3) := by decide +kernel
theorem dL_law_428 : decode cL_law 428 = .ok (.if_icmp .eq 626, 3) := by decide +kernel
theorem dL_law_431 : decode cL_law 431 = .ok (.iconst 0, 1) := by decide +kernel
theorem dL_law_432 : decode cL_law 432 = .ok (.ireturn, 1) := by decide +kernel
theorem dL_law_433 : decode cL_law 433 = .ok (.aload_n 1, 1) := by decide +kernel
theorem dL_law_434 : decode cL_law 434 = .ok (.aload_n 0, 1) := by decide +kernel
theorem dL_law_435 : decode cL_law 435 = .ok (.iload_n 3, 1) := by decide +kernel
theorem dL_law_436 : decode cL_law 436 = .ok (.iconst 1, 1) := by decide +kernel
theorem dL_law_437 : decode cL_law 437 = .ok (.iadd, 1) := by decide +kernel
theorem dL_law_438 : decode cL_law 438 = .ok (.iaload, 1) := by decide +kernel
theorem dL_law_439 : decode cL_law 439 = .ok (.aload_n 0, 1) := by decide +kernel
theorem dL_law_440 : decode cL_law 440 = .ok (.iload_n 3, 1) := by decide +kernel
theorem dL_law_441 : decode cL_law 441 = .ok (.iconst 2, 1) := by decide +kernel
theorem dL_law_442 : decode cL_law 442 = .ok (.iadd, 1) := by decide +kernel
theorem dL_law_443 : decode cL_law 443 = .ok (.iaload, 1) := by decide +kernel
theorem dL_law_444 : decode cL_law 444 = .ok (.aload_n 0, 1) := by decide +kernel
theorem dL_law_445 : decode cL_law 445 = .ok (.iload_n 3, 1) := by decide +kernel
theorem dL_law_446 : decode cL_law 446 = .ok (.iconst 3, 1) := by decide +kernel
theorem dL_law_447 : decode cL_law 447 = .ok (.iadd, 1) := by decide +kernel
theorem dL_law_448 : decode cL_law 448 = .ok (.iaload, 1) := by decide +kernel
theorem dL_law_449 : decode cL_law 449 = .ok (.aload_n 0, 1) := by decide +kernel
theorem dL_law_450 : decode cL_law 450 = .ok (.iload_n 3, 1) := by decide +kernel
theorem dL_law_451 : decode cL_law 451 = .ok (.iconst 4, 1) := by decide +kernel
theorem dL_law_452 : decode cL_law 452 = .ok (.iadd, 1) := by decide +kernel
theorem dL_law_453 : decode cL_law 453 = .ok (.iaload, 1) := by decide +kernel
theorem dL_law_454 : decode cL_law 454 = .ok (.invokevirtual 53, 3) := by decide +kernel
theorem dL_law_457 : decode cL_law 457 = .ok (.aload_n 2, 1) := by decide +kernel
theorem dL_law_458 : decode cL_law 458 = .ok (.aload_n 0, 1) := by decide +kernel
theorem dL_law_459 : decode cL_law 459 = .ok (.iload_n 3, 1) := by decide +kernel
theorem dL_law_460 : decode cL_law 460 = .ok (.iconst 1, 1) := by decide +kernel
theorem dL_law_461 : decode cL_law 461 = .ok (.iadd, 1) := by decide +kernel
theorem dL_law_462 : decode cL_law 462 = .ok (.iaload, 1) := by decide +kernel
theorem dL_law_463 : decode cL_law 463 = .ok (.aload_n 0, 1) := by decide +kernel
theorem dL_law_464 : decode cL_law 464 = .ok (.iload_n 3, 1) := by decide +kernel
theorem dL_law_465 : decode cL_law 465 = .ok (.iconst 2, 1) := by decide +kernel
theorem dL_law_466 : decode cL_law 466 = .ok (.iadd, 1) := by decide +kernel
theorem dL_law_467 : decode cL_law 467 = .ok (.iaload, 1) := by decide +kernel
theorem dL_law_468 : decode cL_law 468 = .ok (.aload_n 0, 1) := by decide +kernel
theorem dL_law_469 : decode cL_law 469 = .ok (.iload_n 3, 1) := by decide +kernel
theorem dL_law_470 : decode cL_law 470 = .ok (.iconst 3, 1) := by decide +kernel
theorem dL_law_471 : decode cL_law 471 = .ok (.iadd, 1) := by decide +kernel
theorem dL_law_472 : decode cL_law 472 = .ok (.iaload, 1) := by decide +kernel
theorem dL_law_473 : decode cL_law 473 = .ok (.aload_n 0, 1) := by decide +kernel
theorem dL_law_474 : decode cL_law 474 = .ok (.iload_n 3, 1) := by decide +kernel
theorem dL_law_475 : decode cL_law 475 = .ok (.iconst 4, 1) := by decide +kernel
theorem dL_law_476 : decode cL_law 476 = .ok (.iadd, 1) := by decide +kernel
theorem dL_law_477 : decode cL_law 477 = .ok (.iaload, 1) := by decide +kernel
theorem dL_law_478 : decode cL_law 478 = .ok (.invokevirtual 56, 3) := by decide +kernel
theorem dL_law_481 : decode cL_law 481 = .ok (.if_icmp .eq 573, 3) := by decide +kernel
theorem dL_law_484 : decode cL_law 484 = .ok (.iconst 0, 1) := by decide +kernel
theorem dL_law_485 : decode cL_law 485 = .ok (.ireturn, 1) := by decide +kernel
theorem dL_law_486 : decode cL_law 486 = .ok (.aload_n 1, 1) := by decide +kernel
theorem dL_law_487 : decode cL_law 487 = .ok (.aload_n 0, 1) := by decide +kernel
theorem dL_law_488 : decode cL_law 488 = .ok (.iload_n 3, 1) := by decide +kernel
theorem dL_law_489 : decode cL_law 489 = .ok (.iconst 1, 1) := by decide +kernel
theorem dL_law_490 : decode cL_law 490 = .ok (.iadd, 1) := by decide +kernel
theorem dL_law_491 : decode cL_law 491 = .ok (.iaload, 1) := by decide +kernel
theorem dL_law_492 : decode cL_law 492 = .ok (.invokevirtual 57, 3) := by decide +kernel
theorem dL_law_495 : decode cL_law 495 = .ok (.aload_n 2, 1) := by decide +kernel
theorem dL_law_496 : decode cL_law 496 = .ok (.aload_n 0, 1) := by decide +kernel
theorem dL_law_497 : decode cL_law 497 = .ok (.iload_n 3, 1) := by decide +kernel
theorem dL_law_498 : decode cL_law 498 = .ok (.iconst 1, 1) := by decide +kernel
theorem dL_law_499 : decode cL_law 499 = .ok (.iadd, 1) := by decide +kernel
theorem dL_law_500 : decode cL_law 500 = .ok (.iaload, 1) := by decide +kernel
theorem dL_law_501 : decode cL_law 501 = .ok (.invokevirtual 60, 3) := by decide +kernel
theorem dL_law_504 : decode cL_law 504 = .ok (.if_icmp .eq 550, 3) := by decide +kernel
theorem dL_law_507 : decode cL_law 507 = .ok (.iconst 0, 1) := by decide +kernel
theorem dL_law_508 : decode cL_law 508 = .ok (.ireturn, 1) := by decide +kernel
theorem dL_law_509 : decode cL_law 509 = .ok (.aload_n 1, 1) := by decide +kernel
theorem dL_law_510 : decode cL_law 510 = .ok (.aload_n 0, 1) := by decide +kernel
theorem dL_law_511 : decode cL_law 511 = .ok (.iload_n 3, 1) := by decide +kernel
theorem dL_law_512 : decode cL_law 512 = .ok (.iconst 1, 1) := by decide +kernel
theorem dL_law_513 : decode cL_law 513 = .ok (.iadd, 1) := by decide +kernel
theorem dL_law_514 : decode cL_law 514 = .ok (.iaload, 1) := by decide +kernel
theorem dL_law_515 : decode cL_law 515 = .ok (.invokevirtual 61, 3) := by decide +kernel
theorem dL_law_518 : decode cL_law 518 = .ok (.aload_n 2, 1) := by decide +kernel
theorem dL_law_519 : decode cL_law 519 = .ok (.aload_n 0, 1) := by decide +kernel
theorem dL_law_520 : decode cL_law 520 = .ok (.iload_n 3, 1) := by decide +kernel
theorem dL_law_521 : decode cL_law 521 = .ok (.iconst 1, 1) := by decide +kernel
theorem dL_law_522 : decode cL_law 522 = .ok (.iadd, 1) := by decide +kernel
theorem dL_law_523 : decode cL_law 523 = .ok (.iaload, 1) := by decide +kernel
theorem dL_law_524 : decode cL_law 524 = .ok (.invokevirtual 64, 3) := by decide +kernel
theorem dL_law_527 : decode cL_law 527 = .ok (.if_icmp .eq 527, 3) := by decide +kernel
theorem dL_law_530 : decode cL_law 530 = .ok (.iconst 0, 1) := by decide +kernel
theorem dL_law_531 : decode cL_law 531 = .ok (.ireturn, 1) := by decide +kernel
theorem dL_law_532 : decode cL_law 532 = .ok (.aload_n 1, 1) := by decide +kernel
theorem dL_law_533 : decode cL_law 533 = .ok (.aload_n 0, 1) := by decide +kernel
theorem dL_law_534 : decode cL_law 534 = .ok (.iload_n 3, 1) := by decide +kernel
theorem dL_law_535 : decode cL_law 535 = .ok (.iconst 1, 1) := by decide +kernel
theorem dL_law_536 : decode cL_law 536 = .ok (.iadd, 1) := by decide +kernel
theorem dL_law_537 : decode cL_law 537 = .ok (.iaload, 1) := by decide +kernel
theorem dL_law_538 : decode cL_law 538 = .ok (.invokevirtual 65, 3) := by decide +kernel
theorem dL_law_541 : decode cL_law 541 = .ok (.aload_n 2, 1) := by decide +kernel
theorem dL_law_542 : decode cL_law 542 = .ok (.aload_n 0, 1) := by decide +kernel
theorem dL_law_543 : decode cL_law 543 = .ok (.iload_n 3, 1) := by decide +kernel
theorem dL_law_544 : decode cL_law 544 = .ok (.iconst 1, 1) := by decide +kernel
theorem dL_law_545 : decode cL_law 545 = .ok (.iadd, 1) := by decide +kernel
theorem dL_law_546 : decode cL_law 546 = .ok (.iaload, 1) := by decide +kernel
theorem dL_law_547 : decode cL_law 547 = .ok (.invokevirtual 68, 3) := by decide +kernel
theorem dL_law_550 : decode cL_law 550 = .ok (.if_icmp .eq 504, 3) := by decide +kernel
theorem dL_law_553 : decode cL_law 553 = .ok (.iconst 0, 1) := by decide +kernel
theorem dL_law_554 : decode cL_law 554 = .ok (.ireturn, 1) := by decide +kernel
theorem dL_law_555 : decode cL_law 555 = .ok (.aload_n 1, 1) := by decide +kernel
theorem dL_law_556 : decode cL_law 556 = .ok (.aload_n 0, 1) := by decide +kernel
theorem dL_law_557 : decode cL_law 557 = .ok (.iload_n 3, 1) := by decide +kernel
theorem dL_law_558 : decode cL_law 558 = .ok (.iconst 1, 1) := by decide +kernel
theorem dL_law_559 : decode cL_law 559 = .ok (.iadd, 1) := by decide +kernel
theorem dL_law_560 : decode cL_law 560 = .ok (.iaload, 1) := by decide +kernel
theorem dL_law_561 : decode cL_law 561 = .ok (.invokevirtual 69, 3) := by decide +kernel
theorem dL_law_564 : decode cL_law 564 = .ok (.aload_n 2, 1) := by decide +kernel
theorem dL_law_565 : decode cL_law 565 = .ok (.aload_n 0, 1) := by decide +kernel
theorem dL_law_566 : decode cL_law 566 = .ok (.iload_n 3, 1) := by decide +kernel
theorem dL_law_567 : decode cL_law 567 = .ok (.iconst 1, 1) := by decide +kernel
theorem dL_law_568 : decode cL_law 568 = .ok (.iadd, 1) := by decide +kernel
theorem dL_law_569 : decode cL_law 569 = .ok (.iaload, 1) := by decide +kernel
theorem dL_law_570 : decode cL_law 570 = .ok (.invokevirtual 72, 3) := by decide +kernel
theorem dL_law_573 : decode cL_law 573 = .ok (.if_icmp .eq 481, 3) := by decide +kernel
theorem dL_law_576 : decode cL_law 576 = .ok (.iconst 0, 1) := by decide +kernel
theorem dL_law_577 : decode cL_law 577 = .ok (.ireturn, 1) := by decide +kernel
theorem dL_law_578 : decode cL_law 578 = .ok (.aload_n 1, 1) := by decide +kernel
theorem dL_law_579 : decode cL_law 579 = .ok (.aload_n 0, 1) := by decide +kernel
theorem dL_law_580 : decode cL_law 580 = .ok (.iload_n 3, 1) := by decide +kernel
theorem dL_law_581 : decode cL_law 581 = .ok (.iconst 1, 1) := by decide +kernel
theorem dL_law_582 : decode cL_law 582 = .ok (.iadd, 1) := by decide +kernel
theorem dL_law_583 : decode cL_law 583 = .ok (.iaload, 1) := by decide +kernel
theorem dL_law_584 : decode cL_law 584 = .ok (.aload_n 0, 1) := by decide +kernel
theorem dL_law_585 : decode cL_law 585 = .ok (.iload_n 3, 1) := by decide +kernel
theorem dL_law_586 : decode cL_law 586 = .ok (.iconst 2, 1) := by decide +kernel
theorem dL_law_587 : decode cL_law 587 = .ok (.iadd, 1) := by decide +kernel
theorem dL_law_588 : decode cL_law 588 = .ok (.iaload, 1) := by decide +kernel
theorem dL_law_589 : decode cL_law 589 = .ok (.invokevirtual 73, 3) := by decide +kernel
theorem dL_law_592 : decode cL_law 592 = .ok (.aload_n 2, 1) := by decide +kernel
theorem dL_law_593 : decode cL_law 593 = .ok (.aload_n 0, 1) := by decide +kernel
theorem dL_law_594 : decode cL_law 594 = .ok (.iload_n 3, 1) := by decide +kernel
theorem dL_law_595 : decode cL_law 595 = .ok (.iconst 1, 1) := by decide +kernel
theorem dL_law_596 : decode cL_law 596 = .ok (.iadd, 1) := by decide +kernel
theorem dL_law_597 : decode cL_law 597 = .ok (.iaload, 1) := by decide +kernel
theorem dL_law_598 : decode cL_law 598 = .ok (.aload_n 0, 1) := by decide +kernel
theorem dL_law_599 : decode cL_law 599 = .ok (.iload_n 3, 1) := by decide +kernel
theorem dL_law_600 : decode cL_law 600 = .ok (.iconst 2, 1) := by decide +kernel
theorem dL_law_601 : decode cL_law 601 = .ok (.iadd, 1) := by decide +kernel
theorem dL_law_602 : decode cL_law 602 = .ok (.iaload, 1) := by decide +kernel
theorem dL_law_603 : decode cL_law 603 = .ok (.invokevirtual 76, 3) := by decide +kernel
theorem dL_law_606 : decode cL_law 606 = .ok (.if_icmp .eq 448, 3) := by decide +kernel
theorem dL_law_609 : decode cL_law 609 = .ok (.iconst 0, 1) := by decide +kernel
theorem dL_law_610 : decode cL_law 610 = .ok (.ireturn, 1) := by decide +kernel
theorem dL_law_611 : decode cL_law 611 = .ok (.aload_n 1, 1) := by decide +kernel
theorem dL_law_612 : decode cL_law 612 = .ok (.aload_n 0, 1) := by decide +kernel
theorem dL_law_613 : decode cL_law 613 = .ok (.iload_n 3, 1) := by decide +kernel
theorem dL_law_614 : decode cL_law 614 = .ok (.iconst 1, 1) := by decide +kernel
theorem dL_law_615 : decode cL_law 615 = .ok (.iadd, 1) := by decide +kernel
theorem dL_law_616 : decode cL_law 616 = .ok (.iaload, 1) := by decide +kernel
theorem dL_law_617 : decode cL_law 617 = .ok (.invokevirtual 77, 3) := by decide +kernel
theorem dL_law_620 : decode cL_law 620 = .ok (.aload_n 2, 1) := by decide +kernel
theorem dL_law_621 : decode cL_law 621 = .ok (.aload_n 0, 1) := by decide +kernel
theorem dL_law_622 : decode cL_law 622 = .ok (.iload_n 3, 1) := by decide +kernel
theorem dL_law_623 : decode cL_law 623 = .ok (.iconst 1, 1) := by decide +kernel
theorem dL_law_624 : decode cL_law 624 = .ok (.iadd, 1) := by decide +kernel
theorem dL_law_625 : decode cL_law 625 = .ok (.iaload, 1) := by decide +kernel
theorem dL_law_626 : decode cL_law 626 = .ok (.invokevirtual 80, 3) := by decide +kernel
theorem dL_law_629 : decode cL_law 629 = .ok (.if_icmp .eq 425, 3) := by decide +kernel
theorem dL_law_632 : decode cL_law 632 = .ok (.iconst 0, 1) := by decide +kernel
theorem dL_law_633 : decode cL_law 633 = .ok (.ireturn, 1) := by decide +kernel
theorem dL_law_634 : decode cL_law 634 = .ok (.aload_n 1, 1) := by decide +kernel
theorem dL_law_635 : decode cL_law 635 = .ok (.aload_n 0, 1) := by decide +kernel
theorem dL_law_636 : decode cL_law 636 = .ok (.iload_n 3, 1) := by decide +kernel
theorem dL_law_637 : decode cL_law 637 = .ok (.iconst 1, 1) := by decide +kernel
theorem dL_law_638 : decode cL_law 638 = .ok (.iadd, 1) := by decide +kernel
theorem dL_law_639 : decode cL_law 639 = .ok (.iaload, 1) := by decide +kernel
theorem dL_law_640 : decode cL_law 640 = .ok (.invokevirtual 81, 3) := by decide +kernel
theorem dL_law_643 : decode cL_law 643 = .ok (.aload_n 2, 1) := by decide +kernel
theorem dL_law_644 : decode cL_law 644 = .ok (.aload_n 0, 1) := by decide +kernel
theorem dL_law_645 : decode cL_law 645 = .ok (.iload_n 3, 1) := by decide +kernel
theorem dL_law_646 : decode cL_law 646 = .ok (.iconst 1, 1) := by decide +kernel
theorem dL_law_647 : decode cL_law 647 = .ok (.iadd, 1) := by decide +kernel
theorem dL_law_648 : decode cL_law 648 = .ok (.iaload, 1) := by decide +kernel
theorem dL_law_649 : decode cL_law 649 = .ok (.invokevirtual 84, 3) := by decide +kernel
theorem dL_law_652 : decode cL_law 652 = .ok (.if_icmp .eq 402, 3) := by decide +kernel
theorem dL_law_655 : decode cL_law 655 = .ok (.iconst 0, 1) := by decide +kernel
theorem dL_law_656 : decode cL_law 656 = .ok (.ireturn, 1) := by decide +kernel
theorem dL_law_657 : decode cL_law 657 = .ok (.aload_n 1, 1) := by decide +kernel
theorem dL_law_658 : decode cL_law 658 = .ok (.invokevirtual 85, 3) := by decide +kernel
theorem dL_law_661 : decode cL_law 661 = .ok (.aload_n 2, 1) := by decide +kernel
theorem dL_law_662 : decode cL_law 662 = .ok (.invokevirtual 88, 3) := by decide +kernel
theorem dL_law_665 : decode cL_law 665 = .ok (.if_icmp .eq 389, 3) := by decide +kernel
theorem dL_law_668 : decode cL_law 668 = .ok (.iconst 0, 1) := by decide +kernel
theorem dL_law_669 : decode cL_law 669 = .ok (.ireturn, 1) := by decide +kernel
theorem dL_law_670 : decode cL_law 670 = .ok (.aload_n 1, 1) := by decide +kernel
theorem dL_law_671 : decode cL_law 671 = .ok (.invokevirtual 89, 3) := by decide +kernel
theorem dL_law_674 : decode cL_law 674 = .ok (.aload_n 2, 1) := by decide +kernel
theorem dL_law_675 : decode cL_law 675 = .ok (.invokevirtual 92, 3) := by decide +kernel
theorem dL_law_678 : decode cL_law 678 = .ok (.if_icmp .eq 376, 3) := by decide +kernel
theorem dL_law_681 : decode cL_law 681 = .ok (.iconst 0, 1) := by decide +kernel
theorem dL_law_682 : decode cL_law 682 = .ok (.ireturn, 1) := by decide +kernel
theorem dL_law_683 : decode cL_law 683 = .ok (.aload_n 1, 1) := by decide +kernel
theorem dL_law_684 : decode cL_law 684 = .ok (.aload_n 0, 1) := by decide +kernel
theorem dL_law_685 : decode cL_law 685 = .ok (.iload_n 3, 1) := by decide +kernel
theorem dL_law_686 : decode cL_law 686 = .ok (.iconst 1, 1) := by decide +kernel
theorem dL_law_687 : decode cL_law 687 = .ok (.iadd, 1) := by decide +kernel
theorem dL_law_688 : decode cL_law 688 = .ok (.iaload, 1) := by decide +kernel
theorem dL_law_689 : decode cL_law 689 = .ok (.invokevirtual 93, 3) := by decide +kernel
theorem dL_law_692 : decode cL_law 692 = .ok (.aload_n 2, 1) := by decide +kernel
theorem dL_law_693 : decode cL_law 693 = .ok (.aload_n 0, 1) := by decide +kernel
theorem dL_law_694 : decode cL_law 694 = .ok (.iload_n 3, 1) := by decide +kernel
theorem dL_law_695 : decode cL_law 695 = .ok (.iconst 1, 1) := by decide +kernel
theorem dL_law_696 : decode cL_law 696 = .ok (.iadd, 1) := by decide +kernel
theorem dL_law_697 : decode cL_law 697 = .ok (.iaload, 1) := by decide +kernel
theorem dL_law_698 : decode cL_law 698 = .ok (.invokevirtual 96, 3) := by decide +kernel
theorem dL_law_701 : decode cL_law 701 = .ok (.if_icmp .eq 353, 3) := by decide +kernel
theorem dL_law_704 : decode cL_law 704 = .ok (.iconst 0, 1) := by decide +kernel
theorem dL_law_705 : decode cL_law 705 = .ok (.ireturn, 1) := by decide +kernel
theorem dL_law_706 : decode cL_law 706 = .ok (.aload_n 1, 1) := by decide +kernel
theorem dL_law_707 : decode cL_law 707 = .ok (.aload_n 0, 1) := by decide +kernel
theorem dL_law_708 : decode cL_law 708 = .ok (.iload_n 3, 1) := by decide +kernel
theorem dL_law_709 : decode cL_law 709 = .ok (.iconst 1, 1) := by decide +kernel
theorem dL_law_710 : decode cL_law 710 = .ok (.iadd, 1) := by decide +kernel
theorem dL_law_711 : decode cL_law 711 = .ok (.iaload, 1) := by decide +kernel
theorem dL_law_712 : decode cL_law 712 = .ok (.invokevirtual 97, 3) := by decide +kernel
theorem dL_law_715 : decode cL_law 715 = .ok (.aload_n 2, 1) := by decide +kernel
theorem dL_law_716 : decode cL_law 716 = .ok (.aload_n 0, 1) := by decide +kernel
theorem dL_law_717 : decode cL_law 717 = .ok (.iload_n 3, 1) := by decide +kernel
theorem dL_law_718 : decode cL_law 718 = .ok (.iconst 1, 1) := by decide +kernel
theorem dL_law_719 : decode cL_law 719 = .ok (.iadd, 1) := by decide +kernel
theorem dL_law_720 : decode cL_law 720 = .ok (.iaload, 1) := by decide +kernel
theorem dL_law_721 : decode cL_law 721 = .ok (.invokevirtual 100, 3) := by decide +kernel
theorem dL_law_724 : decode cL_law 724 = .ok (.if_icmp .eq 330, 3) := by decide +kernel
theorem dL_law_727 : decode cL_law 727 = .ok (.iconst 0, 1) := by decide +kernel
theorem dL_law_728 : decode cL_law 728 = .ok (.ireturn, 1) := by decide +kernel
theorem dL_law_729 : decode cL_law 729 = .ok (.aload_n 1, 1) := by decide +kernel
theorem dL_law_730 : decode cL_law 730 = .ok (.aload_n 0, 1) := by decide +kernel
theorem dL_law_731 : decode cL_law 731 = .ok (.iload_n 3, 1) := by decide +kernel
theorem dL_law_732 : decode cL_law 732 = .ok (.iconst 1, 1) := by decide +kernel
theorem dL_law_733 : decode cL_law 733 = .ok (.iadd, 1) := by decide +kernel
theorem dL_law_734 : decode cL_law 734 = .ok (.iaload, 1) := by decide +kernel
theorem dL_law_735 : decode cL_law 735 = .ok (.aload_n 0, 1) := by decide +kernel
theorem dL_law_736 : decode cL_law 736 = .ok (.iload_n 3, 1) := by decide +kernel
theorem dL_law_737 : decode cL_law 737 = .ok (.iconst 2, 1) := by decide +kernel
theorem dL_law_738 : decode cL_law 738 = .ok (.iadd, 1) := by decide +kernel
theorem dL_law_739 : decode cL_law 739 = .ok (.iaload, 1) := by decide +kernel
theorem dL_law_740 : decode cL_law 740 = .ok (.invokevirtual 101, 3) := by decide +kernel
theorem dL_law_743 : decode cL_law 743 = .ok (.aload_n 2, 1) := by decide +kernel
theorem dL_law_744 : decode cL_law 744 = .ok (.aload_n 0, 1) := by decide +kernel
theorem dL_law_745 : decode cL_law 745 = .ok (.iload_n 3, 1) := by decide +kernel
theorem dL_law_746 : decode cL_law 746 = .ok (.iconst 1, 1) := by decide +kernel
theorem dL_law_747 : decode cL_law 747 = .ok (.iadd, 1) := by decide +kernel
theorem dL_law_748 : decode cL_law 748 = .ok (.iaload, 1) := by decide +kernel
theorem dL_law_749 : decode cL_law 749 = .ok (.aload_n 0, 1) := by decide +kernel
theorem dL_law_750 : decode cL_law 750 = .ok (.iload_n 3, 1) := by decide +kernel
theorem dL_law_751 : decode cL_law 751 = .ok (.iconst 2, 1) := by decide +kernel
theorem dL_law_752 : decode cL_law 752 = .ok (.iadd, 1) := by decide +kernel
theorem dL_law_753 : decode cL_law 753 = .ok (.iaload, 1) := by decide +kernel
theorem dL_law_754 : decode cL_law 754 = .ok (.invokevirtual 104, 3) := by decide +kernel
theorem dL_law_757 : decode cL_law 757 = .ok (.if_icmp .eq 297, 3) := by decide +kernel
theorem dL_law_760 : decode cL_law 760 = .ok (.iconst 0, 1) := by decide +kernel
theorem dL_law_761 : decode cL_law 761 = .ok (.ireturn, 1) := by decide +kernel
theorem dL_law_762 : decode cL_law 762 = .ok (.aload_n 1, 1) := by decide +kernel
theorem dL_law_763 : decode cL_law 763 = .ok (.invokevirtual 105, 3) := by decide +kernel
theorem dL_law_766 : decode cL_law 766 = .ok (.aload_n 2, 1) := by decide +kernel
theorem dL_law_767 : decode cL_law 767 = .ok (.invokevirtual 109, 3) := by decide +kernel
theorem dL_law_770 : decode cL_law 770 = .ok (.lcmp, 1) := by decide +kernel
theorem dL_law_771 : decode cL_law 771 = .ok (.ifCond .eq 283, 3) := by decide +kernel
theorem dL_law_774 : decode cL_law 774 = .ok (.iconst 0, 1) := by decide +kernel
theorem dL_law_775 : decode cL_law 775 = .ok (.ireturn, 1) := by decide +kernel
theorem dL_law_776 : decode cL_law 776 = .ok (.aload_n 1, 1) := by decide +kernel
theorem dL_law_777 : decode cL_law 777 = .ok (.invokevirtual 110, 3) := by decide +kernel
theorem dL_law_780 : decode cL_law 780 = .ok (.aload_n 2, 1) := by decide +kernel
theorem dL_law_781 : decode cL_law 781 = .ok (.invokevirtual 113, 3) := by decide +kernel
theorem dL_law_784 : decode cL_law 784 = .ok (.if_icmp .eq 270, 3) := by decide +kernel
theorem dL_law_787 : decode cL_law 787 = .ok (.iconst 0, 1) := by decide +kernel
theorem dL_law_788 : decode cL_law 788 = .ok (.ireturn, 1) := by decide +kernel
theorem dL_law_789 : decode cL_law 789 = .ok (.aload_n 1, 1) := by decide +kernel
theorem dL_law_790 : decode cL_law 790 = .ok (.aload_n 0, 1) := by decide +kernel
theorem dL_law_791 : decode cL_law 791 = .ok (.iload_n 3, 1) := by decide +kernel
theorem dL_law_792 : decode cL_law 792 = .ok (.iconst 1, 1) := by decide +kernel
theorem dL_law_793 : decode cL_law 793 = .ok (.iadd, 1) := by decide +kernel
theorem dL_law_794 : decode cL_law 794 = .ok (.iaload, 1) := by decide +kernel
theorem dL_law_795 : decode cL_law 795 = .ok (.aload_n 0, 1) := by decide +kernel
theorem dL_law_796 : decode cL_law 796 = .ok (.iload_n 3, 1) := by decide +kernel
theorem dL_law_797 : decode cL_law 797 = .ok (.iconst 2, 1) := by decide +kernel
theorem dL_law_798 : decode cL_law 798 = .ok (.iadd, 1) := by decide +kernel
theorem dL_law_799 : decode cL_law 799 = .ok (.iaload, 1) := by decide +kernel
theorem dL_law_800 : decode cL_law 800 = .ok (.invokevirtual 114, 3) := by decide +kernel
theorem dL_law_803 : decode cL_law 803 = .ok (.aload_n 2, 1) := by decide +kernel
theorem dL_law_804 : decode cL_law 804 = .ok (.aload_n 0, 1) := by decide +kernel
theorem dL_law_805 : decode cL_law 805 = .ok (.iload_n 3, 1) := by decide +kernel
theorem dL_law_806 : decode cL_law 806 = .ok (.iconst 1, 1) := by decide +kernel
theorem dL_law_807 : decode cL_law 807 = .ok (.iadd, 1) := by decide +kernel
theorem dL_law_808 : decode cL_law 808 = .ok (.iaload, 1) := by decide +kernel
theorem dL_law_809 : decode cL_law 809 = .ok (.aload_n 0, 1) := by decide +kernel
theorem dL_law_810 : decode cL_law 810 = .ok (.iload_n 3, 1) := by decide +kernel
theorem dL_law_811 : decode cL_law 811 = .ok (.iconst 2, 1) := by decide +kernel
theorem dL_law_812 : decode cL_law 812 = .ok (.iadd, 1) := by decide +kernel
theorem dL_law_813 : decode cL_law 813 = .ok (.iaload, 1) := by decide +kernel
theorem dL_law_814 : decode cL_law 814 = .ok (.invokevirtual 117, 3) := by decide +kernel
theorem dL_law_817 : decode cL_law 817 = .ok (.if_icmp .eq 237, 3) := by decide +kernel
theorem dL_law_820 : decode cL_law 820 = .ok (.iconst 0, 1) := by decide +kernel
theorem dL_law_821 : decode cL_law 821 = .ok (.ireturn, 1) := by decide +kernel
theorem dL_law_822 : decode cL_law 822 = .ok (.aload_n 1, 1) := by decide +kernel
theorem dL_law_823 : decode cL_law 823 = .ok (.aload_n 0, 1) := by decide +kernel
theorem dL_law_824 : decode cL_law 824 = .ok (.iload_n 3, 1) := by decide +kernel
theorem dL_law_825 : decode cL_law 825 = .ok (.iconst 1, 1) := by decide +kernel
theorem dL_law_826 : decode cL_law 826 = .ok (.iadd, 1) := by decide +kernel
theorem dL_law_827 : decode cL_law 827 = .ok (.iaload, 1) := by decide +kernel
theorem dL_law_828 : decode cL_law 828 = .ok (.aload_n 0, 1) := by decide +kernel
theorem dL_law_829 : decode cL_law 829 = .ok (.iload_n 3, 1) := by decide +kernel
theorem dL_law_830 : decode cL_law 830 = .ok (.iconst 2, 1) := by decide +kernel
theorem dL_law_831 : decode cL_law 831 = .ok (.iadd, 1) := by decide +kernel
theorem dL_law_832 : decode cL_law 832 = .ok (.iaload, 1) := by decide +kernel
theorem dL_law_833 : decode cL_law 833 = .ok (.invokevirtual 118, 3) := by decide +kernel
theorem dL_law_836 : decode cL_law 836 = .ok (.aload_n 2, 1) := by decide +kernel
theorem dL_law_837 : decode cL_law 837 = .ok (.aload_n 0, 1) := by decide +kernel
theorem dL_law_838 : decode cL_law 838 = .ok (.iload_n 3, 1) := by decide +kernel
theorem dL_law_839 : decode cL_law 839 = .ok (.iconst 1, 1) := by decide +kernel
theorem dL_law_840 : decode cL_law 840 = .ok (.iadd, 1) := by decide +kernel
theorem dL_law_841 : decode cL_law 841 = .ok (.iaload, 1) := by decide +kernel
theorem dL_law_842 : decode cL_law 842 = .ok (.aload_n 0, 1) := by decide +kernel
theorem dL_law_843 : decode cL_law 843 = .ok (.iload_n 3, 1) := by decide +kernel
theorem dL_law_844 : decode cL_law 844 = .ok (.iconst 2, 1) := by decide +kernel
theorem dL_law_845 : decode cL_law 845 = .ok (.iadd, 1) := by decide +kernel
theorem dL_law_846 : decode cL_law 846 = .ok (.iaload, 1) := by decide +kernel
theorem dL_law_847 : decode cL_law 847 = .ok (.invokevirtual 121, 3) := by decide +kernel
theorem dL_law_850 : decode cL_law 850 = .ok (.if_icmp .eq 204, 3) := by decide +kernel
theorem dL_law_853 : decode cL_law 853 = .ok (.iconst 0, 1) := by decide +kernel
theorem dL_law_854 : decode cL_law 854 = .ok (.ireturn, 1) := by decide +kernel
theorem dL_law_855 : decode cL_law 855 = .ok (.aload_n 1, 1) := by decide +kernel
theorem dL_law_856 : decode cL_law 856 = .ok (.aload_n 0, 1) := by decide +kernel
theorem dL_law_857 : decode cL_law 857 = .ok (.iload_n 3, 1) := by decide +kernel
theorem dL_law_858 : decode cL_law 858 = .ok (.iconst 1, 1) := by decide +kernel
theorem dL_law_859 : decode cL_law 859 = .ok (.iadd, 1) := by decide +kernel
theorem dL_law_860 : decode cL_law 860 = .ok (.iaload, 1) := by decide +kernel
theorem dL_law_861 : decode cL_law 861 = .ok (.aload_n 0, 1) := by decide +kernel
theorem dL_law_862 : decode cL_law 862 = .ok (.iload_n 3, 1) := by decide +kernel
theorem dL_law_863 : decode cL_law 863 = .ok (.iconst 2, 1) := by decide +kernel
theorem dL_law_864 : decode cL_law 864 = .ok (.iadd, 1) := by decide +kernel
theorem dL_law_865 : decode cL_law 865 = .ok (.iaload, 1) := by decide +kernel
theorem dL_law_866 : decode cL_law 866 = .ok (.invokevirtual 122, 3) := by decide +kernel
theorem dL_law_869 : decode cL_law 869 = .ok (.aload_n 2, 1) := by decide +kernel
theorem dL_law_870 : decode cL_law 870 = .ok (.aload_n 0, 1) := by decide +kernel
theorem dL_law_871 : decode cL_law 871 = .ok (.iload_n 3, 1) := by decide +kernel
theorem dL_law_872 : decode cL_law 872 = .ok (.iconst 1, 1) := by decide +kernel
theorem dL_law_873 : decode cL_law 873 = .ok (.iadd, 1) := by decide +kernel
theorem dL_law_874 : decode cL_law 874 = .ok (.iaload, 1) := by decide +kernel
theorem dL_law_875 : decode cL_law 875 = .ok (.aload_n 0, 1) := by decide +kernel
theorem dL_law_876 : decode cL_law 876 = .ok (.iload_n 3, 1) := by decide +kernel
theorem dL_law_877 : decode cL_law 877 = .ok (.iconst 2, 1) := by decide +kernel
theorem dL_law_878 : decode cL_law 878 = .ok (.iadd, 1) := by decide +kernel
theorem dL_law_879 : decode cL_law 879 = .ok (.iaload, 1) := by decide +kernel
theorem dL_law_880 : decode cL_law 880 = .ok (.invokevirtual 125, 3) := by decide +kernel
theorem dL_law_883 : decode cL_law 883 = .ok (.if_icmp .eq 171, 3) := by decide +kernel
theorem dL_law_886 : decode cL_law 886 = .ok (.iconst 0, 1) := by decide +kernel
theorem dL_law_887 : decode cL_law 887 = .ok (.ireturn, 1) := by decide +kernel
theorem dL_law_888 : decode cL_law 888 = .ok (.aload_n 1, 1) := by decide +kernel
theorem dL_law_889 : decode cL_law 889 = .ok (.aload_n 0, 1) := by decide +kernel
theorem dL_law_890 : decode cL_law 890 = .ok (.iload_n 3, 1) := by decide +kernel
theorem dL_law_891 : decode cL_law 891 = .ok (.iconst 1, 1) := by decide +kernel
theorem dL_law_892 : decode cL_law 892 = .ok (.iadd, 1) := by decide +kernel
theorem dL_law_893 : decode cL_law 893 = .ok (.iaload, 1) := by decide +kernel
theorem dL_law_894 : decode cL_law 894 = .ok (.aload_n 0, 1) := by decide +kernel
theorem dL_law_895 : decode cL_law 895 = .ok (.iload_n 3, 1) := by decide +kernel
theorem dL_law_896 : decode cL_law 896 = .ok (.iconst 2, 1) := by decide +kernel
theorem dL_law_897 : decode cL_law 897 = .ok (.iadd, 1) := by decide +kernel
theorem dL_law_898 : decode cL_law 898 = .ok (.iaload, 1) := by decide +kernel
theorem dL_law_899 : decode cL_law 899 = .ok (.aload_n 0, 1) := by decide +kernel
theorem dL_law_900 : decode cL_law 900 = .ok (.iload_n 3, 1) := by decide +kernel
theorem dL_law_901 : decode cL_law 901 = .ok (.iconst 3, 1) := by decide +kernel
theorem dL_law_902 : decode cL_law 902 = .ok (.iadd, 1) := by decide +kernel
theorem dL_law_903 : decode cL_law 903 = .ok (.iaload, 1) := by decide +kernel
theorem dL_law_904 : decode cL_law 904 = .ok (.i2l, 1) := by decide +kernel
theorem dL_law_905 : decode cL_law 905 = .ok (.bipush 32, 2) := by decide +kernel
theorem dL_law_907 : decode cL_law 907 = .ok (.lshl, 1) := by decide +kernel
theorem dL_law_908 : decode cL_law 908 = .ok (.aload_n 0, 1) := by decide +kernel
theorem dL_law_909 : decode cL_law 909 = .ok (.iload_n 3, 1) := by decide +kernel
theorem dL_law_910 : decode cL_law 910 = .ok (.iconst 4, 1) := by decide +kernel
theorem dL_law_911 : decode cL_law 911 = .ok (.iadd, 1) := by decide +kernel
theorem dL_law_912 : decode cL_law 912 = .ok (.iaload, 1) := by decide +kernel
theorem dL_law_913 : decode cL_law 913 = .ok (.i2l, 1) := by decide +kernel
theorem dL_law_914 : decode cL_law 914 = .ok (.ldc2_w 126, 3) := by decide +kernel
theorem dL_law_917 : decode cL_law 917 = .ok (.land, 1) := by decide +kernel
theorem dL_law_918 : decode cL_law 918 = .ok (.lor, 1) := by decide +kernel
theorem dL_law_919 : decode cL_law 919 = .ok (.invokevirtual 128, 3) := by decide +kernel
theorem dL_law_922 : decode cL_law 922 = .ok (.aload_n 2, 1) := by decide +kernel
theorem dL_law_923 : decode cL_law 923 = .ok (.aload_n 0, 1) := by decide +kernel
theorem dL_law_924 : decode cL_law 924 = .ok (.iload_n 3, 1) := by decide +kernel
theorem dL_law_925 : decode cL_law 925 = .ok (.iconst 1, 1) := by decide +kernel
theorem dL_law_926 : decode cL_law 926 = .ok (.iadd, 1) := by decide +kernel
theorem dL_law_927 : decode cL_law 927 = .ok (.iaload, 1) := by decide +kernel
theorem dL_law_928 : decode cL_law 928 = .ok (.aload_n 0, 1) := by decide +kernel
theorem dL_law_929 : decode cL_law 929 = .ok (.iload_n 3, 1) := by decide +kernel
theorem dL_law_930 : decode cL_law 930 = .ok (.iconst 2, 1) := by decide +kernel
theorem dL_law_931 : decode cL_law 931 = .ok (.iadd, 1) := by decide +kernel
theorem dL_law_932 : decode cL_law 932 = .ok (.iaload, 1) := by decide +kernel
theorem dL_law_933 : decode cL_law 933 = .ok (.aload_n 0, 1) := by decide +kernel
theorem dL_law_934 : decode cL_law 934 = .ok (.iload_n 3, 1) := by decide +kernel
theorem dL_law_935 : decode cL_law 935 = .ok (.iconst 3, 1) := by decide +kernel
theorem dL_law_936 : decode cL_law 936 = .ok (.iadd, 1) := by decide +kernel
theorem dL_law_937 : decode cL_law 937 = .ok (.iaload, 1) := by decide +kernel
theorem dL_law_938 : decode cL_law 938 = .ok (.i2l, 1) := by decide +kernel
theorem dL_law_939 : decode cL_law 939 = .ok (.bipush 32, 2) := by decide +kernel
theorem dL_law_941 : decode cL_law 941 = .ok (.lshl, 1) := by decide +kernel
theorem dL_law_942 : decode cL_law 942 = .ok (.aload_n 0, 1) := by decide +kernel
theorem dL_law_943 : decode cL_law 943 = .ok (.iload_n 3, 1) := by decide +kernel
theorem dL_law_944 : decode cL_law 944 = .ok (.iconst 4, 1) := by decide +kernel
theorem dL_law_945 : decode cL_law 945 = .ok (.iadd, 1) := by decide +kernel
theorem dL_law_946 : decode cL_law 946 = .ok (.iaload, 1) := by decide +kernel
theorem dL_law_947 : decode cL_law 947 = .ok (.i2l, 1) := by decide +kernel
theorem dL_law_948 : decode cL_law 948 = .ok (.ldc2_w 126, 3) := by decide +kernel
theorem dL_law_951 : decode cL_law 951 = .ok (.land, 1) := by decide +kernel
theorem dL_law_952 : decode cL_law 952 = .ok (.lor, 1) := by decide +kernel
theorem dL_law_953 : decode cL_law 953 = .ok (.invokevirtual 132, 3) := by decide +kernel
theorem dL_law_956 : decode cL_law 956 = .ok (.if_icmp .eq 98, 3) := by decide +kernel
theorem dL_law_959 : decode cL_law 959 = .ok (.iconst 0, 1) := by decide +kernel
theorem dL_law_960 : decode cL_law 960 = .ok (.ireturn, 1) := by decide +kernel
theorem dL_law_961 : decode cL_law 961 = .ok (.aload_n 1, 1) := by decide +kernel
theorem dL_law_962 : decode cL_law 962 = .ok (.aload_n 0, 1) := by decide +kernel
theorem dL_law_963 : decode cL_law 963 = .ok (.iload_n 3, 1) := by decide +kernel
theorem dL_law_964 : decode cL_law 964 = .ok (.iconst 1, 1) := by decide +kernel
theorem dL_law_965 : decode cL_law 965 = .ok (.iadd, 1) := by decide +kernel
theorem dL_law_966 : decode cL_law 966 = .ok (.iaload, 1) := by decide +kernel
theorem dL_law_967 : decode cL_law 967 = .ok (.aload_n 0, 1) := by decide +kernel
theorem dL_law_968 : decode cL_law 968 = .ok (.iload_n 3, 1) := by decide +kernel
theorem dL_law_969 : decode cL_law 969 = .ok (.iconst 2, 1) := by decide +kernel
theorem dL_law_970 : decode cL_law 970 = .ok (.iadd, 1) := by decide +kernel
theorem dL_law_971 : decode cL_law 971 = .ok (.iaload, 1) := by decide +kernel
theorem dL_law_972 : decode cL_law 972 = .ok (.invokevirtual 133, 3) := by decide +kernel
theorem dL_law_975 : decode cL_law 975 = .ok (.aload_n 2, 1) := by decide +kernel
theorem dL_law_976 : decode cL_law 976 = .ok (.aload_n 0, 1) := by decide +kernel
theorem dL_law_977 : decode cL_law 977 = .ok (.iload_n 3, 1) := by decide +kernel
theorem dL_law_978 : decode cL_law 978 = .ok (.iconst 1, 1) := by decide +kernel
theorem dL_law_979 : decode cL_law 979 = .ok (.iadd, 1) := by decide +kernel
theorem dL_law_980 : decode cL_law 980 = .ok (.iaload, 1) := by decide +kernel
theorem dL_law_981 : decode cL_law 981 = .ok (.aload_n 0, 1) := by decide +kernel
theorem dL_law_982 : decode cL_law 982 = .ok (.iload_n 3, 1) := by decide +kernel
theorem dL_law_983 : decode cL_law 983 = .ok (.iconst 2, 1) := by decide +kernel
theorem dL_law_984 : decode cL_law 984 = .ok (.iadd, 1) := by decide +kernel
theorem dL_law_985 : decode cL_law 985 = .ok (.iaload, 1) := by decide +kernel
theorem dL_law_986 : decode cL_law 986 = .ok (.invokevirtual 137, 3) := by decide +kernel
theorem dL_law_989 : decode cL_law 989 = .ok (.lcmp, 1) := by decide +kernel
theorem dL_law_990 : decode cL_law 990 = .ok (.ifCond .eq 64, 3) := by decide +kernel
theorem dL_law_993 : decode cL_law 993 = .ok (.iconst 0, 1) := by decide +kernel
theorem dL_law_994 : decode cL_law 994 = .ok (.ireturn, 1) := by decide +kernel
theorem dL_law_995 : decode cL_law 995 = .ok (.aload_n 1, 1) := by decide +kernel
theorem dL_law_996 : decode cL_law 996 = .ok (.aload_n 0, 1) := by decide +kernel
theorem dL_law_997 : decode cL_law 997 = .ok (.iload_n 3, 1) := by decide +kernel
theorem dL_law_998 : decode cL_law 998 = .ok (.iconst 1, 1) := by decide +kernel
theorem dL_law_999 : decode cL_law 999 = .ok (.iadd, 1) := by decide +kernel
theorem dL_law_1000 : decode cL_law 1000 = .ok (.iaload, 1) := by decide +kernel
theorem dL_law_1001 : decode cL_law 1001 = .ok (.aload_n 0, 1) := by decide +kernel
theorem dL_law_1002 : decode cL_law 1002 = .ok (.iload_n 3, 1) := by decide +kernel
theorem dL_law_1003 : decode cL_law 1003 = .ok (.iconst 2, 1) := by decide +kernel
theorem dL_law_1004 : decode cL_law 1004 = .ok (.iadd, 1) := by decide +kernel
theorem dL_law_1005 : decode cL_law 1005 = .ok (.iaload, 1) := by decide +kernel
theorem dL_law_1006 : decode cL_law 1006 = .ok (.invokevirtual 138, 3) := by decide +kernel
theorem dL_law_1009 : decode cL_law 1009 = .ok (.aload_n 2, 1) := by decide +kernel
theorem dL_law_1010 : decode cL_law 1010 = .ok (.aload_n 0, 1) := by decide +kernel
theorem dL_law_1011 : decode cL_law 1011 = .ok (.iload_n 3, 1) := by decide +kernel
theorem dL_law_1012 : decode cL_law 1012 = .ok (.iconst 1, 1) := by decide +kernel
theorem dL_law_1013 : decode cL_law 1013 = .ok (.iadd, 1) := by decide +kernel
theorem dL_law_1014 : decode cL_law 1014 = .ok (.iaload, 1) := by decide +kernel
theorem dL_law_1015 : decode cL_law 1015 = .ok (.aload_n 0, 1) := by decide +kernel
theorem dL_law_1016 : decode cL_law 1016 = .ok (.iload_n 3, 1) := by decide +kernel
theorem dL_law_1017 : decode cL_law 1017 = .ok (.iconst 2, 1) := by decide +kernel
theorem dL_law_1018 : decode cL_law 1018 = .ok (.iadd, 1) := by decide +kernel
theorem dL_law_1019 : decode cL_law 1019 = .ok (.iaload, 1) := by decide +kernel
theorem dL_law_1020 : decode cL_law 1020 = .ok (.invokevirtual 141, 3) := by decide +kernel
theorem dL_law_1023 : decode cL_law 1023 = .ok (.if_icmp .eq 31, 3) := by decide +kernel
theorem dL_law_1026 : decode cL_law 1026 = .ok (.iconst 0, 1) := by decide +kernel
theorem dL_law_1027 : decode cL_law 1027 = .ok (.ireturn, 1) := by decide +kernel
theorem dL_law_1028 : decode cL_law 1028 = .ok (.aload_n 1, 1) := by decide +kernel
theorem dL_law_1029 : decode cL_law 1029 = .ok (.invokevirtual 142, 3) := by decide +kernel
theorem dL_law_1032 : decode cL_law 1032 = .ok (.aload_n 2, 1) := by decide +kernel
theorem dL_law_1033 : decode cL_law 1033 = .ok (.invokevirtual 145, 3) := by decide +kernel
theorem dL_law_1036 : decode cL_law 1036 = .ok (.if_icmp .eq 18, 3) := by decide +kernel
theorem dL_law_1039 : decode cL_law 1039 = .ok (.iconst 0, 1) := by decide +kernel
theorem dL_law_1040 : decode cL_law 1040 = .ok (.ireturn, 1) := by decide +kernel
theorem dL_law_1041 : decode cL_law 1041 = .ok (.aload_n 1, 1) := by decide +kernel
theorem dL_law_1042 : decode cL_law 1042 = .ok (.invokevirtual 146, 3) := by decide +kernel
theorem dL_law_1045 : decode cL_law 1045 = .ok (.aload_n 2, 1) := by decide +kernel
theorem dL_law_1046 : decode cL_law 1046 = .ok (.invokevirtual 149, 3) := by decide +kernel
theorem dL_law_1049 : decode cL_law 1049 = .ok (.if_icmp .eq 5, 3) := by decide +kernel
theorem dL_law_1052 : decode cL_law 1052 = .ok (.iconst 0, 1) := by decide +kernel
theorem dL_law_1053 : decode cL_law 1053 = .ok (.ireturn, 1) := by decide +kernel
theorem dL_law_1054 : decode cL_law 1054 = .ok (.iinc 3 5, 3) := by decide +kernel
theorem dL_law_1057 : decode cL_law 1057 = .ok (.goto (-1039), 3) := by decide +kernel
theorem dL_law_1060 : decode cL_law 1060 = .ok (.iconst 1, 1) := by decide +kernel
theorem dL_law_1061 : decode cL_law 1061 = .ok (.ireturn, 1) := by decide +kernel
