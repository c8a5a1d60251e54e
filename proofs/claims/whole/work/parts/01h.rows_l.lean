set_option maxRecDepth 20000 in
theorem ggL_law_X6_init : GoodIn wsL_law wsX6_init := goodIn_r _ [8, 9, 10, 11, 12, 13, 14, 15, 16, 17, 18, 19, 20, 21, 22, 23, 24, 25, 26, 27, 28, 29, 30, 31, 32, 33, 34, 35, 36, 37, 38, 39, 40, 41, 42, 43, 44, 45, 46, 47, 48, 49, 50, 51, 52, 53, 54, 55, 56, 57, 58, 59, 60, 61, 62, 63, 64, 65, 66, 67, 68, 69, 70, 71, 72, 73, 74, 75, 76, 77, 78, 79, 80, 81, 82, 83, 84, 85, 86, 87, 88, 897, 898, 899, 900, 901, 902, 903, 904, 905, 906, 907, 908, 879, 880, 881, 882, 909, 910, 911, 912, 913, 914, 915, 916, 917, 918, 919, 920] rfl rfl
set_option maxRecDepth 20000 in
theorem gL_law_X6_init : GoodIn wsL_law (wsX6_init) := ggL_law_X6_init
set_option maxRecDepth 20000 in
theorem ggL_law_X7_init : GoodIn wsL_law wsX7_init := goodIn_r _ [91, 92, 10, 11, 32, 93, 94, 95, 96, 40, 97, 98, 99, 100, 101, 102, 103, 104, 105, 106, 5, 107, 108, 109, 110, 883, 884, 885, 886, 887, 888, 889, 890, 891, 892, 893, 894, 895, 896] rfl rfl
set_option maxRecDepth 20000 in
theorem gL_law_X7_init : GoodIn wsL_law (wsX7_init) := ggL_law_X7_init
set_option maxRecDepth 20000 in
theorem ggL_law_X6_begin : GoodIn wsL_law wsX6_begin := goodIn_r _ [114, 15, 115, 116, 43, 44, 14, 45, 46, 47, 48, 49, 41, 34, 50, 51, 52, 53, 36, 37, 38, 39, 54, 55, 56, 57, 58, 59, 60, 61, 62, 63, 64, 35, 879, 880, 881, 882, 897, 898, 899, 900, 901, 902, 903, 904, 905, 906, 907, 908] rfl rfl
set_option maxRecDepth 20000 in
theorem gL_law_X6_begin : GoodIn wsL_law (wsV RL 13 RX6 yX6_begin wsX6_begin) := goodIn_app (goodIn_r _ [111, 112, 113, 2] rfl rfl) ggL_law_X6_begin
set_option maxRecDepth 20000 in
theorem ggL_law_X7_begin : GoodIn wsL_law wsX7_begin := goodIn_r _ [120, 109, 121, 122, 5, 123, 104, 105, 106, 107, 108, 110, 94, 95, 96, 97, 883, 884, 885, 886, 887, 888, 889, 890, 891, 892, 893, 894, 895, 896] rfl rfl
set_option maxRecDepth 20000 in
theorem gL_law_X7_begin : GoodIn wsL_law (wsV RL 17 RX7 yX7_begin wsX7_begin) := goodIn_app (goodIn_r _ [117, 118, 119, 5] rfl rfl) ggL_law_X7_begin
set_option maxRecDepth 20000 in
theorem ggL_law_X6_grow : GoodIn wsL_law wsX6_grow := goodIn_r _ [127, 15, 128, 129, 130, 131, 14, 132, 46, 133, 134, 135, 136, 47, 137, 138, 139, 140, 33, 49, 37, 34, 141, 142, 54, 55, 56, 57, 50, 51, 52, 53, 48, 36, 38, 39, 41, 58, 59, 60, 61, 62, 63, 64, 35, 143, 144, 145, 146, 147, 148, 149, 150, 151, 152, 153, 154, 155, 156, 157, 158, 159, 160, 161, 162, 163, 164, 165, 166, 167, 168, 169, 170, 171, 172, 173, 174, 175, 176, 177, 178, 179, 180, 879, 880, 881, 882, 897, 898, 899, 900, 901, 902, 903, 904, 905, 906, 907, 908] rfl rfl
set_option maxRecDepth 20000 in
theorem gL_law_X6_grow : GoodIn wsL_law (wsV RL 18 RX6 yX6_grow wsX6_grow) := goodIn_app (goodIn_r _ [124, 125, 126, 2] rfl rfl) ggL_law_X6_grow
set_option maxRecDepth 20000 in
theorem ggL_law_X7_grow : GoodIn wsL_law wsX7_grow := goodIn_r _ [184, 109, 110, 185, 186, 187, 5, 188, 108, 121, 122, 123, 189, 190, 191, 192, 93, 97, 94, 193, 194, 195, 196, 197, 198, 199, 200, 201, 202, 203, 204, 205, 206, 207, 208, 209, 210, 211, 212, 213, 214, 215, 216, 217, 218, 95, 96, 883, 884, 885, 886, 887, 888, 889, 890, 891, 892, 893, 894, 895, 896] rfl rfl
set_option maxRecDepth 20000 in
theorem gL_law_X7_grow : GoodIn wsL_law (wsV RL 21 RX7 yX7_grow wsX7_grow) := goodIn_app (goodIn_r _ [181, 182, 183, 5] rfl rfl) ggL_law_X7_grow
set_option maxRecDepth 20000 in
theorem ggL_law_X6_growBy : GoodIn wsL_law wsX6_growBy := goodIn_r _ [222, 223, 15, 224, 115, 225, 226, 227, 2, 228, 21, 229, 230, 231, 14, 232, 233, 234, 235, 236, 23, 237, 238, 239, 240, 241, 78, 242, 156, 56, 157, 141, 130, 131, 132, 46, 133, 134, 135, 136, 47, 243, 137, 138, 139, 140, 33, 49, 37, 34, 142, 54, 55, 57, 50, 51, 52, 53, 48, 36, 38, 39, 41, 58, 59, 60, 61, 62, 63, 64, 35, 143, 144, 145, 146, 147, 148, 149, 150, 151, 152, 153, 154, 155, 158, 159, 160, 161, 162, 163, 164, 165, 166, 167, 168, 169, 170, 171, 172, 173, 174, 175, 176, 177, 178, 179, 180, 914, 915, 916, 879, 880, 881, 882, 897, 898, 899, 900, 901, 902, 903, 904, 905, 906, 907, 908] rfl rfl
set_option maxRecDepth 20000 in
theorem gL_law_X6_growBy : GoodIn wsL_law (wsV RL 22 RX6 yX6_growBy wsX6_growBy) := goodIn_app (goodIn_r _ [219, 220, 221, 2] rfl rfl) ggL_law_X6_growBy
set_option maxRecDepth 20000 in
theorem ggL_law_X7_growBy : GoodIn wsL_law wsX7_growBy := goodIn_r _ [247, 98, 99, 109, 248, 249, 250, 5, 251, 252, 253, 254, 121, 122, 123, 185, 186, 187, 188, 108, 189, 190, 191, 192, 93, 110, 97, 94, 193, 194, 195, 196, 197, 198, 199, 200, 201, 202, 203, 204, 205, 206, 207, 208, 209, 210, 211, 212, 213, 214, 215, 216, 217, 218, 95, 96, 883, 884, 885, 886, 887, 888, 889, 890, 891, 892, 893, 894, 895, 896] rfl rfl
set_option maxRecDepth 20000 in
theorem gL_law_X7_growBy : GoodIn wsL_law (wsV RL 25 RX7 yX7_growBy wsX7_growBy) := goodIn_app (goodIn_r _ [244, 245, 246, 5] rfl rfl) ggL_law_X7_growBy
set_option maxRecDepth 20000 in
theorem ggL_law_X6_cut : GoodIn wsL_law wsX6_cut := goodIn_r _ [258, 15, 115, 259, 260, 261, 14, 262, 46, 42, 43, 44, 45, 47, 48, 49, 41, 34, 50, 51, 52, 53, 36, 37, 38, 39, 54, 55, 56, 57, 58, 59, 60, 61, 62, 63, 64, 35, 263, 264, 265, 266, 33, 155, 156, 157, 267, 138, 139, 140, 141, 130, 131, 132, 142, 134, 135, 136, 143, 144, 145, 146, 147, 148, 149, 150, 151, 152, 153, 154, 158, 159, 160, 161, 162, 163, 164, 165, 166, 167, 168, 169, 170, 171, 172, 173, 174, 175, 176, 177, 178, 179, 180, 879, 880, 881, 882, 897, 898, 899, 900, 901, 902, 903, 904, 905, 906, 907, 908] rfl rfl
set_option maxRecDepth 20000 in
theorem gL_law_X6_cut : GoodIn wsL_law (wsV RL 26 RX6 yX6_cut wsX6_cut) := goodIn_app (goodIn_r _ [255, 256, 257, 2] rfl rfl) ggL_law_X6_cut
set_option maxRecDepth 20000 in
theorem ggL_law_X7_cut : GoodIn wsL_law wsX7_cut := goodIn_r _ [271, 109, 121, 122, 5, 123, 272, 273, 274, 275, 108, 93, 104, 105, 106, 107, 110, 94, 95, 96, 97, 189, 190, 191, 192, 193, 194, 195, 196, 197, 198, 199, 200, 201, 202, 203, 204, 205, 206, 207, 208, 209, 210, 211, 212, 213, 214, 215, 216, 217, 218, 883, 884, 885, 886, 887, 888, 889, 890, 891, 892, 893, 894, 895, 896] rfl rfl
set_option maxRecDepth 20000 in
theorem gL_law_X7_cut : GoodIn wsL_law (wsV RL 29 RX7 yX7_cut wsX7_cut) := goodIn_app (goodIn_r _ [268, 269, 270, 5] rfl rfl) ggL_law_X7_cut
set_option maxRecDepth 20000 in
theorem ggL_law_X6_drift : GoodIn wsL_law wsX6_drift := goodIn_r _ [279, 280, 15, 281, 282, 115, 133, 134, 135, 14, 136, 47, 283, 284, 285, 286, 46, 137, 138, 139, 140, 33, 49, 37, 34, 141, 130, 131, 132, 142, 54, 55, 56, 57, 50, 51, 52, 53, 48, 36, 38, 39, 41, 58, 59, 60, 61, 62, 63, 64, 35, 143, 144, 145, 146, 147, 148, 149, 150, 151, 152, 153, 154, 155, 156, 157, 158, 159, 160, 161, 162, 163, 164, 165, 166, 167, 168, 169, 170, 171, 172, 173, 174, 175, 176, 177, 178, 179, 180, 879, 880, 881, 882, 897, 898, 899, 900, 901, 902, 903, 904, 905, 906, 907, 908] rfl rfl
set_option maxRecDepth 20000 in
theorem gL_law_X6_drift : GoodIn wsL_law (wsV RL 30 RX6 yX6_drift wsX6_drift) := goodIn_app (goodIn_r _ [276, 277, 278, 2] rfl rfl) ggL_law_X6_drift
set_option maxRecDepth 20000 in
theorem ggL_law_X7_drift : GoodIn wsL_law wsX7_drift := goodIn_r _ [290, 291, 109, 292, 293, 108, 121, 122, 5, 123, 189, 190, 191, 192, 93, 110, 97, 94, 193, 194, 195, 196, 197, 198, 199, 200, 201, 202, 203, 204, 205, 206, 207, 208, 209, 210, 211, 212, 213, 214, 215, 216, 217, 218, 95, 96, 883, 884, 885, 886, 887, 888, 889, 890, 891, 892, 893, 894, 895, 896] rfl rfl
set_option maxRecDepth 20000 in
theorem gL_law_X7_drift : GoodIn wsL_law (wsV RL 34 RX7 yX7_drift wsX7_drift) := goodIn_app (goodIn_r _ [287, 288, 289, 5] rfl rfl) ggL_law_X7_drift
set_option maxRecDepth 20000 in
theorem ggL_law_X6_letter : GoodIn wsL_law wsX6_letter := goodIn_r _ [297, 15, 115, 298, 264, 265, 14, 266, 33, 155, 156, 56, 157, 879, 880, 881, 882, 897, 898, 899, 900, 901, 902, 903, 904, 905, 906, 907, 908] rfl rfl
set_option maxRecDepth 20000 in
theorem gL_law_X6_letter : GoodIn wsL_law (wsV RL 35 RX6 yX6_letter wsX6_letter) := goodIn_app (goodIn_r _ [294, 295, 296, 2] rfl rfl) ggL_law_X6_letter
set_option maxRecDepth 20000 in
theorem ggL_law_X7_letter : GoodIn wsL_law wsX7_letter := goodIn_r _ [302, 109, 93, 121, 122, 5, 123, 883, 884, 885, 886, 887, 888, 889, 890, 891, 892, 893, 894, 895, 896] rfl rfl
set_option maxRecDepth 20000 in
theorem gL_law_X7_letter : GoodIn wsL_law (wsV RL 38 RX7 yX7_letter wsX7_letter) := goodIn_app (goodIn_r _ [299, 300, 301, 5] rfl rfl) ggL_law_X7_letter
set_option maxRecDepth 20000 in
theorem ggL_law_X6_count : GoodIn wsL_law wsX6_count := goodIn_r _ [306, 15, 307, 115, 128, 19, 308, 309, 310, 14, 311, 48, 312, 313, 314, 315, 39, 151, 152, 153, 154, 155, 156, 56, 157, 316, 317, 318, 319, 46, 147, 148, 149, 150, 35, 141, 130, 131, 132, 320, 321, 322, 18, 323, 69, 324, 325, 326, 327, 34, 328, 329, 330, 331, 332, 333, 334, 335, 336, 337, 338, 339, 340, 341, 342, 343, 344, 345, 49, 346, 159, 160, 161, 37, 347, 348, 349, 350, 351, 352, 353, 354, 170, 171, 172, 173, 41, 174, 175, 176, 355, 356, 357, 358, 359, 360, 361, 362, 363, 364, 365, 366, 167, 168, 169, 36, 367, 368, 369, 370, 371, 372, 373, 374, 375, 376, 2, 377, 21, 223, 378, 379, 380, 381, 382, 383, 384, 385, 386, 264, 265, 266, 33, 387, 879, 880, 881, 882, 897, 898, 899, 900, 901, 902, 903, 904, 905, 906, 907, 908, 909, 910, 911, 912, 913, 914, 915, 916] rfl rfl
set_option maxRecDepth 20000 in
theorem gL_law_X6_count : GoodIn wsL_law (wsV RL 39 RX6 yX6_count wsX6_count) := goodIn_app (goodIn_r _ [303, 304, 305, 2] rfl rfl) ggL_law_X6_count
set_option maxRecDepth 20000 in
theorem ggL_law_X7_count : GoodIn wsL_law wsX7_count := goodIn_r _ [391, 108, 109, 110, 392, 393, 394, 5, 395, 96, 396, 397, 398, 399, 400, 401, 402, 403, 97, 404, 405, 406, 407, 93, 212, 213, 214, 205, 206, 207, 208, 408, 409, 410, 411, 121, 122, 123, 412, 413, 414, 415, 197, 198, 199, 200, 193, 194, 195, 196, 416, 417, 418, 419, 420, 421, 422, 423, 424, 425, 426, 427, 428, 429, 430, 431, 98, 432, 433, 434, 435, 436, 437, 438, 439, 883, 884, 885, 886, 887, 888, 889, 890, 891, 892, 893, 894, 895, 896] rfl rfl
set_option maxRecDepth 20000 in
theorem gL_law_X7_count : GoodIn wsL_law (wsV RL 42 RX7 yX7_count wsX7_count) := goodIn_app (goodIn_r _ [388, 389, 390, 5] rfl rfl) ggL_law_X7_count
set_option maxRecDepth 20000 in
theorem ggL_law_X6_state : GoodIn wsL_law wsX6_state := goodIn_r _ [443, 15, 444, 152, 153, 14, 154, 48, 445, 167, 168, 169, 36, 155, 156, 56, 157, 446, 447, 448, 449, 158, 159, 160, 161, 37, 151, 166, 450, 451, 171, 172, 173, 41, 174, 175, 176, 452, 360, 361, 362, 363, 364, 365, 453, 352, 353, 354, 170, 355, 356, 357, 358, 359, 454, 455, 456, 457, 38, 458, 313, 314, 315, 39, 879, 880, 881, 882, 897, 898, 899, 900, 901, 902, 903, 904, 905, 906, 907, 908] rfl rfl
set_option maxRecDepth 20000 in
theorem gL_law_X6_state : GoodIn wsL_law (wsV RL 43 RX6 yX6_state wsX6_state) := goodIn_app (goodIn_r _ [440, 441, 442, 2] rfl rfl) ggL_law_X6_state
set_option maxRecDepth 20000 in
theorem ggL_law_X7_state : GoodIn wsL_law wsX7_state := goodIn_r _ [462, 94, 97, 95, 96, 463, 464, 465, 5, 466, 110, 121, 122, 123, 467, 468, 469, 470, 471, 472, 473, 474, 475, 476, 477, 209, 210, 211, 212, 213, 214, 883, 884, 885, 886, 887, 888, 889, 890, 891, 892, 893, 894, 895, 896] rfl rfl
set_option maxRecDepth 20000 in
theorem gL_law_X7_state : GoodIn wsL_law (wsV RL 46 RX7 yX7_state wsX7_state) := goodIn_app (goodIn_r _ [459, 460, 461, 5] rfl rfl) ggL_law_X7_state
set_option maxRecDepth 20000 in
theorem ggL_law_X6_move : GoodIn wsL_law wsX6_move := goodIn_r _ [481, 15, 444, 152, 153, 14, 154, 48, 129, 130, 131, 132, 46, 482, 148, 149, 150, 35, 151, 141, 155, 156, 56, 157, 879, 880, 881, 882, 897, 898, 899, 900, 901, 902, 903, 904, 905, 906, 907, 908] rfl rfl
set_option maxRecDepth 20000 in
theorem gL_law_X6_move : GoodIn wsL_law (wsV RL 47 RX6 yX6_move wsX6_move) := goodIn_app (goodIn_r _ [478, 479, 480, 2] rfl rfl) ggL_law_X6_move
set_option maxRecDepth 20000 in
theorem ggL_law_X7_move : GoodIn wsL_law wsX7_move := goodIn_r _ [486, 463, 464, 465, 5, 466, 110, 121, 122, 123, 185, 186, 187, 188, 108, 400, 401, 402, 403, 97, 404, 405, 406, 407, 109, 93, 212, 213, 214, 205, 206, 207, 208, 883, 884, 885, 886, 887, 888, 889, 890, 891, 892, 893, 894, 895, 896] rfl rfl
set_option maxRecDepth 20000 in
theorem gL_law_X7_move : GoodIn wsL_law (wsV RL 50 RX7 yX7_move wsX7_move) := goodIn_app (goodIn_r _ [483, 484, 485, 5] rfl rfl) ggL_law_X7_move
set_option maxRecDepth 20000 in
theorem ggL_law_X6_end : GoodIn wsL_law wsX6_end := goodIn_r _ [490, 15, 444, 152, 153, 14, 154, 48, 451, 171, 172, 173, 41, 151, 174, 175, 56, 176, 491, 492, 357, 493, 359, 360, 361, 362, 363, 364, 365, 494, 495, 496, 497, 356, 358, 879, 880, 881, 882, 897, 898, 899, 900, 901, 902, 903, 904, 905, 906, 907, 908] rfl rfl
set_option maxRecDepth 20000 in
theorem gL_law_X6_end : GoodIn wsL_law (wsV RL 51 RX6 yX6_end wsX6_end) := goodIn_app (goodIn_r _ [487, 488, 489, 2] rfl rfl) ggL_law_X6_end
set_option maxRecDepth 20000 in
theorem ggL_law_X7_end : GoodIn wsL_law wsX7_end := goodIn_r _ [501, 97, 463, 464, 465, 5, 466, 110, 121, 122, 123, 502, 503, 504, 212, 213, 214, 883, 884, 885, 886, 887, 888, 889, 890, 891, 892, 893, 894, 895, 896] rfl rfl
set_option maxRecDepth 20000 in
theorem gL_law_X7_end : GoodIn wsL_law (wsV RL 54 RX7 yX7_end wsX7_end) := goodIn_app (goodIn_r _ [498, 499, 500, 5] rfl rfl) ggL_law_X7_end
set_option maxRecDepth 20000 in
theorem ggL_law_X6_sheet : GoodIn wsL_law wsX6_sheet := goodIn_r _ [508, 225, 226, 227, 2, 228, 21, 509, 510, 511, 23, 512, 79, 80, 513, 514, 515, 516, 78, 517, 55, 56, 57, 879, 880, 881, 882, 914, 915, 916] rfl rfl
set_option maxRecDepth 20000 in
theorem gL_law_X6_sheet : GoodIn wsL_law (wsV RL 55 RX6 yX6_sheet wsX6_sheet) := goodIn_app (goodIn_r _ [505, 506, 507, 2] rfl rfl) ggL_law_X6_sheet
set_option maxRecDepth 20000 in
theorem ggL_law_X7_sheet : GoodIn wsL_law wsX7_sheet := goodIn_r _ [521, 98, 99, 252, 253, 5, 254, 121, 122, 123, 883, 884, 885, 886, 887, 888, 889, 890, 891, 892, 893, 894, 895, 896] rfl rfl
set_option maxRecDepth 20000 in
theorem gL_law_X7_sheet : GoodIn wsL_law (wsV RL 58 RX7 yX7_sheet wsX7_sheet) := goodIn_app (goodIn_r _ [518, 519, 520, 5] rfl rfl) ggL_law_X7_sheet
set_option maxRecDepth 20000 in
theorem ggL_law_X6_set : GoodIn wsL_law wsX6_set := goodIn_r _ [525, 526, 223, 225, 226, 227, 2, 228, 21, 527, 528, 529, 23, 530, 80, 531, 239, 240, 241, 78, 242, 156, 56, 157, 532, 514, 515, 516, 517, 55, 57, 914, 915, 916, 879, 880, 881, 882] rfl rfl
set_option maxRecDepth 20000 in
theorem gL_law_X6_set : GoodIn wsL_law (wsV RL 59 RX6 yX6_set wsX6_set) := goodIn_app (goodIn_r _ [522, 523, 524, 2] rfl rfl) ggL_law_X6_set
set_option maxRecDepth 20000 in
theorem ggL_law_X7_set : GoodIn wsL_law wsX7_set := goodIn_r _ [536, 537, 98, 99, 121, 122, 5, 123, 248, 249, 250, 251, 252, 253, 254, 883, 884, 885, 886, 887, 888, 889, 890, 891, 892, 893, 894, 895, 896] rfl rfl
set_option maxRecDepth 20000 in
theorem gL_law_X7_set : GoodIn wsL_law (wsV RL 63 RX7 yX7_set wsX7_set) := goodIn_app (goodIn_r _ [533, 534, 535, 5] rfl rfl) ggL_law_X7_set
set_option maxRecDepth 20000 in
theorem ggL_law_X6_get : GoodIn wsL_law wsX6_get := goodIn_r _ [541, 223, 225, 226, 227, 2, 228, 21, 527, 528, 529, 23, 530, 80, 531, 239, 240, 241, 78, 242, 156, 56, 157, 914, 915, 916, 879, 880, 881, 882] rfl rfl
set_option maxRecDepth 20000 in
theorem gL_law_X6_get : GoodIn wsL_law (wsV RL 64 RX6 yX6_get wsX6_get) := goodIn_app (goodIn_r _ [538, 539, 540, 2] rfl rfl) ggL_law_X6_get
set_option maxRecDepth 20000 in
theorem ggL_law_X7_get : GoodIn wsL_law wsX7_get := goodIn_r _ [545, 98, 99, 248, 249, 250, 5, 251, 252, 253, 254, 121, 122, 123, 883, 884, 885, 886, 887, 888, 889, 890, 891, 892, 893, 894, 895, 896] rfl rfl
set_option maxRecDepth 20000 in
theorem gL_law_X7_get : GoodIn wsL_law (wsV RL 67 RX7 yX7_get wsX7_get) := goodIn_app (goodIn_r _ [542, 543, 544, 5] rfl rfl) ggL_law_X7_get
set_option maxRecDepth 20000 in
theorem ggL_law_X6_size : GoodIn wsL_law wsX6_size := goodIn_r _ [549, 223, 224, 225, 226, 227, 2, 228, 21, 914, 915, 916, 879, 880, 881, 882] rfl rfl
set_option maxRecDepth 20000 in
theorem gL_law_X6_size : GoodIn wsL_law (wsV RL 68 RX6 yX6_size wsX6_size) := goodIn_app (goodIn_r _ [546, 547, 548, 2] rfl rfl) ggL_law_X6_size
set_option maxRecDepth 20000 in
theorem ggL_law_X7_size : GoodIn wsL_law wsX7_size := goodIn_r _ [553, 98, 248, 249, 250, 5, 251, 252, 253, 254, 121, 122, 123, 883, 884, 885, 886, 887, 888, 889, 890, 891, 892, 893, 894, 895, 896] rfl rfl
set_option maxRecDepth 20000 in
theorem gL_law_X7_size : GoodIn wsL_law (wsV RL 71 RX7 yX7_size wsX7_size) := goodIn_app (goodIn_r _ [550, 551, 552, 5] rfl rfl) ggL_law_X7_size
set_option maxRecDepth 20000 in
theorem ggL_law_X6_drop : GoodIn wsL_law wsX6_drop := goodIn_r _ [557, 223, 224, 225, 226, 227, 2, 228, 21, 558, 559, 560, 23, 561, 79, 80, 914, 915, 916, 879, 880, 881, 882] rfl rfl
set_option maxRecDepth 20000 in
theorem gL_law_X6_drop : GoodIn wsL_law (wsV RL 72 RX6 yX6_drop wsX6_drop) := goodIn_app (goodIn_r _ [554, 555, 556, 2] rfl rfl) ggL_law_X6_drop
set_option maxRecDepth 20000 in
theorem ggL_law_X7_drop : GoodIn wsL_law wsX7_drop := goodIn_r _ [565, 98, 248, 249, 250, 5, 251, 252, 253, 254, 121, 122, 123, 883, 884, 885, 886, 887, 888, 889, 890, 891, 892, 893, 894, 895, 896] rfl rfl
set_option maxRecDepth 20000 in
theorem gL_law_X7_drop : GoodIn wsL_law (wsV RL 75 RX7 yX7_drop wsX7_drop) := goodIn_app (goodIn_r _ [562, 563, 564, 5] rfl rfl) ggL_law_X7_drop
set_option maxRecDepth 20000 in
theorem ggL_law_X6_walk : GoodIn wsL_law wsX6_walk := goodIn_r _ [569, 223, 19, 225, 226, 227, 2, 228, 21, 570, 571, 572, 18, 573, 574, 69, 575, 235, 236, 23, 237, 238, 239, 240, 241, 78, 242, 156, 56, 157, 387, 148, 149, 14, 150, 35, 151, 152, 153, 154, 48, 141, 130, 131, 132, 46, 155, 914, 915, 916, 879, 880, 881, 882, 909, 910, 911, 912, 913, 897, 898, 899, 900, 901, 902, 903, 904, 905, 906, 907, 908] rfl rfl
set_option maxRecDepth 20000 in
theorem gL_law_X6_walk : GoodIn wsL_law (wsV RL 76 RX6 yX6_walk wsX6_walk) := goodIn_app (goodIn_r _ [566, 567, 568, 2] rfl rfl) ggL_law_X6_walk
set_option maxRecDepth 20000 in
theorem ggL_law_X7_walk : GoodIn wsL_law wsX7_walk := goodIn_r _ [579, 98, 248, 249, 250, 5, 251, 252, 253, 254, 121, 122, 123, 580, 581, 582, 583, 99, 584, 585, 586, 587, 109, 404, 405, 406, 407, 93, 212, 213, 214, 205, 206, 207, 208, 110, 97, 883, 884, 885, 886, 887, 888, 889, 890, 891, 892, 893, 894, 895, 896] rfl rfl
set_option maxRecDepth 20000 in
theorem gL_law_X7_walk : GoodIn wsL_law (wsV RL 79 RX7 yX7_walk wsX7_walk) := goodIn_app (goodIn_r _ [576, 577, 578, 5] rfl rfl) ggL_law_X7_walk
set_option maxRecDepth 20000 in
theorem ggL_law_X6_times : GoodIn wsL_law wsX6_times := goodIn_r _ [591, 223, 15, 19, 225, 226, 227, 2, 228, 21, 570, 571, 572, 18, 573, 574, 69, 575, 235, 236, 23, 237, 238, 239, 240, 241, 78, 242, 156, 56, 157, 387, 148, 149, 14, 150, 35, 151, 152, 153, 154, 48, 141, 130, 131, 132, 46, 155, 451, 171, 172, 173, 41, 174, 175, 176, 452, 360, 361, 362, 363, 364, 365, 491, 492, 357, 493, 359, 494, 495, 496, 497, 356, 358, 914, 915, 916, 879, 880, 881, 882, 909, 910, 911, 912, 913, 897, 898, 899, 900, 901, 902, 903, 904, 905, 906, 907, 908] rfl rfl
set_option maxRecDepth 20000 in
theorem gL_law_X6_times : GoodIn wsL_law (wsV RL 80 RX6 yX6_times wsX6_times) := goodIn_app (goodIn_r _ [588, 589, 590, 2] rfl rfl) ggL_law_X6_times
set_option maxRecDepth 20000 in
theorem ggL_law_X7_times : GoodIn wsL_law wsX7_times := goodIn_r _ [595, 98, 121, 122, 5, 123, 248, 249, 250, 251, 252, 253, 254, 580, 581, 582, 583, 99, 584, 585, 586, 587, 109, 404, 405, 406, 407, 93, 212, 213, 214, 475, 476, 477, 209, 210, 211, 596, 597, 598, 883, 884, 885, 886, 887, 888, 889, 890, 891, 892, 893, 894, 895, 896] rfl rfl
set_option maxRecDepth 20000 in
theorem gL_law_X7_times : GoodIn wsL_law (wsV RL 83 RX7 yX7_times wsX7_times) := goodIn_app (goodIn_r _ [592, 593, 594, 5] rfl rfl) ggL_law_X7_times
set_option maxRecDepth 20000 in
theorem ggL_law_X6_kth : GoodIn wsL_law wsX6_kth := goodIn_r _ [602, 19, 15, 115, 224, 225, 226, 227, 2, 228, 21, 320, 321, 322, 18, 323, 69, 324, 325, 326, 14, 327, 34, 155, 156, 56, 157, 603, 604, 605, 606, 607, 608, 609, 610, 611, 612, 71, 72, 613, 614, 615, 616, 70, 617, 55, 57, 366, 167, 168, 169, 36, 618, 619, 620, 621, 622, 387, 148, 149, 150, 35, 151, 152, 153, 154, 48, 141, 130, 131, 132, 46, 623, 510, 511, 23, 512, 79, 80, 513, 514, 515, 516, 78, 517, 624, 625, 626, 627, 879, 880, 881, 882, 897, 898, 899, 900, 901, 902, 903, 904, 905, 906, 907, 908, 914, 915, 916, 909, 910, 911, 912, 913] rfl rfl
set_option maxRecDepth 20000 in
theorem gL_law_X6_kth : GoodIn wsL_law (wsV RL 84 RX6 yX6_kth wsX6_kth) := goodIn_app (goodIn_r _ [599, 600, 601, 2] rfl rfl) ggL_law_X6_kth
set_option maxRecDepth 20000 in
theorem ggL_law_X7_kth : GoodIn wsL_law wsX7_kth := goodIn_r _ [631, 100, 99, 98, 252, 253, 5, 254, 121, 122, 123, 632, 633, 634, 635, 109, 110, 94, 108, 400, 401, 402, 403, 97, 404, 405, 406, 407, 93, 212, 213, 214, 205, 206, 207, 208, 883, 884, 885, 886, 887, 888, 889, 890, 891, 892, 893, 894, 895, 896] rfl rfl
set_option maxRecDepth 20000 in
theorem gL_law_X7_kth : GoodIn wsL_law (wsV RL 87 RX7 yX7_kth wsX7_kth) := goodIn_app (goodIn_r _ [628, 629, 630, 5] rfl rfl) ggL_law_X7_kth
set_option maxRecDepth 20000 in
theorem ggL_law_X6_rank : GoodIn wsL_law wsX6_rank := goodIn_r _ [639, 223, 224, 19, 225, 226, 227, 2, 228, 21, 570, 571, 572, 18, 573, 574, 69, 575, 235, 236, 23, 237, 238, 239, 240, 241, 78, 242, 156, 56, 157, 387, 148, 149, 14, 150, 35, 151, 152, 153, 154, 48, 141, 130, 131, 132, 46, 155, 640, 641, 642, 643, 607, 608, 609, 610, 611, 612, 71, 72, 613, 614, 615, 616, 70, 617, 55, 57, 366, 167, 168, 169, 36, 618, 619, 620, 621, 622, 914, 915, 916, 879, 880, 881, 882, 909, 910, 911, 912, 913, 897, 898, 899, 900, 901, 902, 903, 904, 905, 906, 907, 908] rfl rfl
set_option maxRecDepth 20000 in
theorem gL_law_X6_rank : GoodIn wsL_law (wsV RL 88 RX6 yX6_rank wsX6_rank) := goodIn_app (goodIn_r _ [636, 637, 638, 2] rfl rfl) ggL_law_X6_rank
set_option maxRecDepth 20000 in
theorem ggL_law_X7_rank : GoodIn wsL_law wsX7_rank := goodIn_r _ [647, 98, 99, 100, 248, 249, 250, 5, 251, 252, 253, 254, 121, 122, 123, 580, 581, 582, 583, 584, 585, 586, 587, 109, 404, 405, 406, 407, 93, 212, 213, 214, 632, 633, 634, 635, 110, 94, 108, 400, 401, 402, 403, 97, 205, 206, 207, 208, 883, 884, 885, 886, 887, 888, 889, 890, 891, 892, 893, 894, 895, 896] rfl rfl
set_option maxRecDepth 20000 in
theorem gL_law_X7_rank : GoodIn wsL_law (wsV RL 91 RX7 yX7_rank wsX7_rank) := goodIn_app (goodIn_r _ [644, 645, 646, 5] rfl rfl) ggL_law_X7_rank
set_option maxRecDepth 20000 in
theorem ggL_law_X6_absent : GoodIn wsL_law wsX6_absent := goodIn_r _ [651, 19, 224, 225, 226, 227, 2, 228, 21, 652, 653, 654, 18, 655, 69, 607, 72, 656, 657, 658, 659, 612, 71, 660, 661, 336, 662, 613, 614, 615, 616, 70, 617, 55, 56, 57, 366, 167, 168, 14, 169, 36, 155, 156, 157, 618, 663, 664, 665, 666, 387, 148, 149, 150, 35, 151, 152, 153, 154, 48, 141, 130, 131, 132, 46, 623, 510, 511, 23, 512, 79, 80, 513, 514, 515, 516, 78, 517, 624, 625, 626, 627, 879, 880, 881, 882, 914, 915, 916, 909, 910, 911, 912, 913, 897, 898, 899, 900, 901, 902, 903, 904, 905, 906, 907, 908] rfl rfl
set_option maxRecDepth 20000 in
theorem gL_law_X6_absent : GoodIn wsL_law (wsV RL 92 RX6 yX6_absent wsX6_absent) := goodIn_app (goodIn_r _ [648, 649, 650, 2] rfl rfl) ggL_law_X6_absent
set_option maxRecDepth 20000 in
theorem ggL_law_X7_absent : GoodIn wsL_law wsX7_absent := goodIn_r _ [670, 109, 98, 99, 108, 252, 253, 5, 254, 121, 122, 123, 412, 413, 414, 415, 197, 198, 199, 200, 93, 671, 672, 673, 674, 675, 580, 581, 582, 583, 584, 585, 586, 587, 404, 405, 406, 407, 212, 213, 214, 883, 884, 885, 886, 887, 888, 889, 890, 891, 892, 893, 894, 895, 896] rfl rfl
set_option maxRecDepth 20000 in
theorem gL_law_X7_absent : GoodIn wsL_law (wsV RL 95 RX7 yX7_absent wsX7_absent) := goodIn_app (goodIn_r _ [667, 668, 669, 5] rfl rfl) ggL_law_X7_absent
set_option maxRecDepth 20000 in
theorem ggL_law_X6_missing : GoodIn wsL_law wsX6_missing := goodIn_r _ [679, 15, 307, 282, 19, 680, 681, 682, 18, 683, 69, 333, 324, 325, 326, 14, 327, 34, 155, 156, 56, 157, 879, 880, 881, 882, 897, 898, 899, 900, 901, 902, 903, 904, 905, 906, 907, 908, 909, 910, 911, 912, 913] rfl rfl
set_option maxRecDepth 20000 in
theorem gL_law_X6_missing : GoodIn wsL_law (wsV RL 96 RX6 yX6_missing wsX6_missing) := goodIn_app (goodIn_r _ [676, 677, 678, 2] rfl rfl) ggL_law_X6_missing
set_option maxRecDepth 20000 in
theorem ggL_law_X7_missing : GoodIn wsL_law wsX7_missing := goodIn_r _ [687, 293, 109, 121, 122, 5, 123, 671, 672, 673, 674, 675, 108, 412, 413, 414, 415, 197, 198, 199, 200, 93, 883, 884, 885, 886, 887, 888, 889, 890, 891, 892, 893, 894, 895, 896] rfl rfl
set_option maxRecDepth 20000 in
theorem gL_law_X7_missing : GoodIn wsL_law (wsV RL 99 RX7 yX7_missing wsX7_missing) := goodIn_app (goodIn_r _ [684, 685, 686, 5] rfl rfl) ggL_law_X7_missing
set_option maxRecDepth 20000 in
theorem ggL_law_X6_often : GoodIn wsL_law wsX6_often := goodIn_r _ [691, 15, 19, 224, 225, 226, 227, 2, 228, 21, 451, 171, 172, 14, 173, 41, 151, 152, 153, 154, 48, 174, 175, 56, 176, 452, 360, 361, 362, 363, 364, 365, 692, 693, 694, 18, 695, 69, 612, 366, 167, 168, 169, 36, 155, 156, 157, 696, 697, 698, 699, 700, 701, 351, 352, 353, 354, 170, 355, 356, 357, 358, 359, 386, 264, 265, 266, 33, 453, 445, 702, 703, 704, 23, 705, 706, 510, 511, 512, 79, 80, 513, 514, 515, 516, 78, 517, 55, 57, 707, 708, 625, 626, 627, 879, 880, 881, 882, 914, 915, 916, 897, 898, 899, 900, 901, 902, 903, 904, 905, 906, 907, 908, 909, 910, 911, 912, 913] rfl rfl
set_option maxRecDepth 20000 in
theorem gL_law_X6_often : GoodIn wsL_law (wsV RL 100 RX6 yX6_often wsX6_often) := goodIn_app (goodIn_r _ [688, 689, 690, 2] rfl rfl) ggL_law_X6_often
set_option maxRecDepth 20000 in
theorem ggL_law_X7_often : GoodIn wsL_law wsX7_often := goodIn_r _ [712, 109, 110, 97, 94, 252, 253, 5, 254, 121, 122, 123, 475, 476, 477, 209, 210, 211, 212, 213, 214, 713, 714, 715, 716, 93, 717, 718, 719, 720, 98, 99, 883, 884, 885, 886, 887, 888, 889, 890, 891, 892, 893, 894, 895, 896] rfl rfl
set_option maxRecDepth 20000 in
theorem gL_law_X7_often : GoodIn wsL_law (wsV RL 103 RX7 yX7_often wsX7_often) := goodIn_app (goodIn_r _ [709, 710, 711, 5] rfl rfl) ggL_law_X7_often
set_option maxRecDepth 20000 in
theorem ggL_law_X6_twice : GoodIn wsL_law wsX6_twice := goodIn_r _ [724, 19, 725, 726, 727, 18, 728, 69, 333, 324, 325, 326, 14, 327, 34, 155, 156, 56, 157, 879, 880, 881, 882, 909, 910, 911, 912, 913, 897, 898, 899, 900, 901, 902, 903, 904, 905, 906, 907, 908] rfl rfl
set_option maxRecDepth 20000 in
theorem gL_law_X6_twice : GoodIn wsL_law (wsV RL 104 RX6 yX6_twice wsX6_twice) := goodIn_app (goodIn_r _ [721, 722, 723, 2] rfl rfl) ggL_law_X6_twice
set_option maxRecDepth 20000 in
theorem ggL_law_X7_twice : GoodIn wsL_law wsX7_twice := goodIn_r _ [732, 109, 121, 122, 5, 123, 193, 194, 195, 196, 197, 198, 199, 200, 93, 883, 884, 885, 886, 887, 888, 889, 890, 891, 892, 893, 894, 895, 896] rfl rfl
set_option maxRecDepth 20000 in
theorem gL_law_X7_twice : GoodIn wsL_law (wsV RL 107 RX7 yX7_twice wsX7_twice) := goodIn_app (goodIn_r _ [729, 730, 731, 5] rfl rfl) ggL_law_X7_twice
set_option maxRecDepth 20000 in
theorem ggL_law_X6_unlike : GoodIn wsL_law wsX6_unlike := goodIn_r _ [736, 15, 115, 19, 320, 321, 322, 18, 323, 69, 324, 325, 326, 14, 327, 34, 155, 156, 56, 157, 879, 880, 881, 882, 897, 898, 899, 900, 901, 902, 903, 904, 905, 906, 907, 908, 909, 910, 911, 912, 913] rfl rfl
set_option maxRecDepth 20000 in
theorem gL_law_X6_unlike : GoodIn wsL_law (wsV RL 108 RX6 yX6_unlike wsX6_unlike) := goodIn_app (goodIn_r _ [733, 734, 735, 2] rfl rfl) ggL_law_X6_unlike
set_option maxRecDepth 20000 in
theorem ggL_law_X7_unlike : GoodIn wsL_law wsX7_unlike := goodIn_r _ [411, 109, 121, 122, 5, 123, 412, 413, 414, 415, 197, 198, 199, 200, 93, 883, 884, 885, 886, 887, 888, 889, 890, 891, 892, 893, 894, 895, 896] rfl rfl
set_option maxRecDepth 20000 in
theorem gL_law_X7_unlike : GoodIn wsL_law (wsV RL 111 RX7 yX7_unlike wsX7_unlike) := goodIn_app (goodIn_r _ [737, 409, 410, 5] rfl rfl) ggL_law_X7_unlike
set_option maxRecDepth 20000 in
theorem ggL_law_X6_single : GoodIn wsL_law wsX6_single := goodIn_r _ [741, 19, 15, 224, 225, 226, 227, 2, 228, 21, 742, 743, 744, 18, 745, 69, 612, 342, 343, 344, 14, 345, 49, 746, 447, 448, 449, 158, 159, 160, 161, 37, 151, 152, 153, 154, 48, 155, 156, 56, 157, 166, 167, 168, 169, 36, 696, 171, 172, 173, 41, 174, 175, 176, 697, 360, 361, 362, 363, 364, 365, 698, 699, 700, 701, 351, 352, 353, 354, 170, 355, 356, 357, 358, 359, 386, 264, 265, 266, 33, 453, 446, 702, 703, 704, 23, 705, 706, 510, 511, 512, 79, 80, 513, 514, 515, 516, 78, 517, 55, 57, 707, 708, 625, 626, 627, 879, 880, 881, 882, 914, 915, 916, 909, 910, 911, 912, 913, 897, 898, 899, 900, 901, 902, 903, 904, 905, 906, 907, 908] rfl rfl
set_option maxRecDepth 20000 in
theorem gL_law_X6_single : GoodIn wsL_law (wsV RL 112 RX6 yX6_single wsX6_single) := goodIn_app (goodIn_r _ [738, 739, 740, 2] rfl rfl) ggL_law_X6_single
set_option maxRecDepth 20000 in
theorem ggL_law_X7_single : GoodIn wsL_law wsX7_single := goodIn_r _ [750, 109, 110, 97, 252, 253, 5, 254, 121, 122, 123, 475, 476, 477, 467, 468, 469, 470, 94, 471, 472, 473, 474, 209, 210, 211, 212, 213, 214, 713, 714, 715, 716, 93, 717, 718, 719, 720, 98, 99, 883, 884, 885, 886, 887, 888, 889, 890, 891, 892, 893, 894, 895, 896] rfl rfl
set_option maxRecDepth 20000 in
theorem gL_law_X7_single : GoodIn wsL_law (wsV RL 115 RX7 yX7_single wsX7_single) := goodIn_app (goodIn_r _ [747, 748, 749, 5] rfl rfl) ggL_law_X7_single
set_option maxRecDepth 20000 in
theorem ggL_law_X6_gap : GoodIn wsL_law wsX6_gap := goodIn_r _ [754, 223, 15, 19, 225, 226, 227, 2, 228, 21, 570, 571, 572, 18, 573, 574, 69, 575, 235, 236, 23, 237, 238, 239, 240, 241, 78, 242, 156, 56, 157, 387, 148, 149, 14, 150, 35, 151, 152, 153, 154, 48, 141, 130, 131, 132, 46, 155, 451, 171, 172, 173, 41, 174, 175, 176, 755, 756, 357, 757, 758, 335, 336, 337, 359, 360, 361, 362, 363, 364, 365, 497, 356, 358, 494, 495, 496, 914, 915, 916, 879, 880, 881, 882, 909, 910, 911, 912, 913, 897, 898, 899, 900, 901, 902, 903, 904, 905, 906, 907, 908] rfl rfl
set_option maxRecDepth 20000 in
theorem gL_law_X6_gap : GoodIn wsL_law (wsV RL 116 RX6 yX6_gap wsX6_gap) := goodIn_app (goodIn_r _ [751, 752, 753, 2] rfl rfl) ggL_law_X6_gap
set_option maxRecDepth 20000 in
theorem ggL_law_X7_gap : GoodIn wsL_law wsX7_gap := goodIn_r _ [762, 98, 248, 249, 250, 5, 251, 252, 253, 254, 121, 122, 123, 580, 581, 582, 583, 99, 584, 585, 586, 587, 109, 404, 405, 406, 407, 93, 212, 213, 214, 763, 764, 765, 883, 884, 885, 886, 887, 888, 889, 890, 891, 892, 893, 894, 895, 896] rfl rfl
set_option maxRecDepth 20000 in
theorem gL_law_X7_gap : GoodIn wsL_law (wsV RL 119 RX7 yX7_gap wsX7_gap) := goodIn_app (goodIn_r _ [759, 760, 761, 5] rfl rfl) ggL_law_X7_gap
set_option maxRecDepth 20000 in
theorem ggL_law_X6_cover : GoodIn wsL_law wsX6_cover := goodIn_r _ [769, 19, 770, 771, 772, 18, 773, 69, 342, 343, 344, 14, 345, 49, 366, 167, 168, 169, 36, 155, 156, 56, 157, 347, 348, 349, 350, 351, 352, 353, 354, 170, 171, 172, 173, 41, 151, 152, 153, 154, 48, 174, 175, 176, 355, 356, 357, 358, 359, 360, 361, 362, 363, 364, 365, 696, 774, 756, 757, 758, 335, 336, 337, 497, 494, 495, 496, 346, 159, 160, 161, 37, 879, 880, 881, 882, 909, 910, 911, 912, 913, 897, 898, 899, 900, 901, 902, 903, 904, 905, 906, 907, 908] rfl rfl
set_option maxRecDepth 20000 in
theorem gL_law_X6_cover : GoodIn wsL_law (wsV RL 120 RX6 yX6_cover wsX6_cover) := goodIn_app (goodIn_r _ [766, 767, 768, 2] rfl rfl) ggL_law_X6_cover
set_option maxRecDepth 20000 in
theorem ggL_law_X7_cover : GoodIn wsL_law wsX7_cover := goodIn_r _ [778, 109, 420, 421, 422, 5, 423, 197, 198, 199, 200, 93, 201, 202, 203, 204, 763, 764, 765, 212, 213, 214, 883, 884, 885, 886, 887, 888, 889, 890, 891, 892, 893, 894, 895, 896] rfl rfl
set_option maxRecDepth 20000 in
theorem gL_law_X7_cover : GoodIn wsL_law (wsV RL 124 RX7 yX7_cover wsX7_cover) := goodIn_app (goodIn_r _ [775, 776, 777, 5] rfl rfl) ggL_law_X7_cover
set_option maxRecDepth 20000 in
theorem ggL_law_X6_part : GoodIn wsL_law wsX6_part := goodIn_r _ [782, 19, 783, 784, 785, 18, 786, 69, 333, 382, 383, 384, 385, 334, 335, 336, 337, 386, 264, 265, 14, 266, 33, 155, 156, 56, 157, 387, 148, 149, 150, 35, 151, 152, 153, 154, 48, 141, 130, 131, 132, 46, 351, 352, 353, 354, 170, 171, 172, 173, 41, 174, 175, 176, 355, 356, 357, 358, 359, 360, 361, 362, 363, 364, 365, 879, 880, 881, 882, 909, 910, 911, 912, 913, 897, 898, 899, 900, 901, 902, 903, 904, 905, 906, 907, 908] rfl rfl
set_option maxRecDepth 20000 in
theorem gL_law_X6_part : GoodIn wsL_law (wsV RL 125 RX6 yX6_part wsX6_part) := goodIn_app (goodIn_r _ [779, 780, 781, 2] rfl rfl) ggL_law_X6_part
set_option maxRecDepth 20000 in
theorem ggL_law_X7_part : GoodIn wsL_law wsX7_part := goodIn_r _ [790, 432, 433, 434, 5, 435, 109, 436, 437, 438, 439, 193, 194, 195, 196, 197, 198, 199, 200, 93, 883, 884, 885, 886, 887, 888, 889, 890, 891, 892, 893, 894, 895, 896] rfl rfl
set_option maxRecDepth 20000 in
theorem gL_law_X7_part : GoodIn wsL_law (wsV RL 128 RX7 yX7_part wsX7_part) := goodIn_app (goodIn_r _ [787, 788, 789, 5] rfl rfl) ggL_law_X7_part
set_option maxRecDepth 20000 in
theorem ggL_law_X6_common : GoodIn wsL_law wsX6_common := goodIn_r _ [794, 223, 19, 225, 226, 227, 2, 228, 21, 795, 796, 797, 18, 798, 574, 69, 575, 235, 236, 23, 237, 238, 239, 240, 241, 78, 242, 156, 56, 157, 387, 148, 149, 14, 150, 35, 151, 152, 153, 154, 48, 141, 130, 131, 132, 46, 155, 346, 159, 160, 161, 37, 366, 167, 168, 169, 36, 914, 915, 916, 879, 880, 881, 882, 909, 910, 911, 912, 913, 897, 898, 899, 900, 901, 902, 903, 904, 905, 906, 907, 908] rfl rfl
set_option maxRecDepth 20000 in
theorem gL_law_X6_common : GoodIn wsL_law (wsV RL 129 RX6 yX6_common wsX6_common) := goodIn_app (goodIn_r _ [791, 792, 793, 2] rfl rfl) ggL_law_X6_common
set_option maxRecDepth 20000 in
theorem ggL_law_X7_common : GoodIn wsL_law wsX7_common := goodIn_r _ [802, 98, 121, 122, 5, 123, 248, 249, 250, 251, 252, 253, 254, 580, 581, 582, 583, 99, 584, 585, 586, 587, 109, 404, 405, 406, 407, 93, 212, 213, 214, 883, 884, 885, 886, 887, 888, 889, 890, 891, 892, 893, 894, 895, 896] rfl rfl
set_option maxRecDepth 20000 in
theorem gL_law_X7_common : GoodIn wsL_law (wsV RL 132 RX7 yX7_common wsX7_common) := goodIn_app (goodIn_r _ [799, 800, 801, 5] rfl rfl) ggL_law_X7_common
set_option maxRecDepth 20000 in
theorem ggL_law_X6_border : GoodIn wsL_law wsX6_border := goodIn_r _ [806, 19, 807, 339, 340, 18, 341, 69, 342, 343, 344, 14, 345, 49, 346, 159, 160, 161, 37, 151, 152, 153, 154, 48, 155, 156, 56, 157, 347, 348, 349, 350, 351, 352, 353, 354, 170, 171, 172, 173, 41, 174, 175, 176, 355, 356, 357, 358, 359, 360, 361, 362, 363, 364, 365, 366, 167, 168, 169, 36, 879, 880, 881, 882, 909, 910, 911, 912, 913, 897, 898, 899, 900, 901, 902, 903, 904, 905, 906, 907, 908] rfl rfl
set_option maxRecDepth 20000 in
theorem gL_law_X6_border : GoodIn wsL_law (wsV RL 133 RX6 yX6_border wsX6_border) := goodIn_app (goodIn_r _ [803, 804, 805, 2] rfl rfl) ggL_law_X6_border
set_option maxRecDepth 20000 in
theorem ggL_law_X7_border : GoodIn wsL_law wsX7_border := goodIn_r _ [811, 109, 420, 421, 422, 5, 423, 197, 198, 199, 200, 93, 883, 884, 885, 886, 887, 888, 889, 890, 891, 892, 893, 894, 895, 896] rfl rfl
set_option maxRecDepth 20000 in
theorem gL_law_X7_border : GoodIn wsL_law (wsV RL 136 RX7 yX7_border wsX7_border) := goodIn_app (goodIn_r _ [808, 809, 810, 5] rfl rfl) ggL_law_X7_border
set_option maxRecDepth 20000 in
theorem ggL_law_X6_next : GoodIn wsL_law wsX6_next := goodIn_r _ [815, 15, 115, 19, 816, 817, 818, 18, 819, 69, 342, 343, 344, 14, 345, 49, 746, 447, 448, 449, 158, 159, 160, 161, 37, 151, 152, 153, 154, 48, 155, 156, 56, 157, 166, 167, 168, 169, 36, 346, 820, 821, 822, 823, 607, 387, 148, 149, 150, 35, 141, 130, 131, 132, 46, 696, 171, 172, 173, 41, 174, 175, 176, 697, 360, 361, 362, 363, 364, 365, 879, 880, 881, 882, 897, 898, 899, 900, 901, 902, 903, 904, 905, 906, 907, 908, 909, 910, 911, 912, 913] rfl rfl
set_option maxRecDepth 20000 in
theorem gL_law_X6_next : GoodIn wsL_law (wsV RL 137 RX6 yX6_next wsX6_next) := goodIn_app (goodIn_r _ [812, 813, 814, 2] rfl rfl) ggL_law_X6_next
set_option maxRecDepth 20000 in
theorem ggL_law_X7_next : GoodIn wsL_law wsX7_next := goodIn_r _ [827, 109, 108, 121, 122, 5, 123, 201, 202, 203, 204, 197, 198, 199, 200, 93, 404, 405, 406, 407, 212, 213, 214, 475, 476, 477, 883, 884, 885, 886, 887, 888, 889, 890, 891, 892, 893, 894, 895, 896] rfl rfl
set_option maxRecDepth 20000 in
theorem gL_law_X7_next : GoodIn wsL_law (wsV RL 140 RX7 yX7_next wsX7_next) := goodIn_app (goodIn_r _ [824, 825, 826, 5] rfl rfl) ggL_law_X7_next
set_option maxRecDepth 20000 in
theorem ggL_law_X6_worth : GoodIn wsL_law wsX6_worth := goodIn_r _ [831, 19, 832, 833, 834, 18, 835, 73, 69, 333, 836, 837, 59, 56, 60, 838, 175, 176, 324, 325, 326, 14, 327, 34, 155, 156, 157, 879, 880, 881, 882, 909, 910, 911, 912, 913, 897, 898, 899, 900, 901, 902, 903, 904, 905, 906, 907, 908] rfl rfl
set_option maxRecDepth 20000 in
theorem gL_law_X6_worth : GoodIn wsL_law (wsV RL 141 RX6 yX6_worth wsX6_worth) := goodIn_app (goodIn_r _ [828, 829, 830, 2] rfl rfl) ggL_law_X6_worth
set_option maxRecDepth 20000 in
theorem ggL_law_X7_worth : GoodIn wsL_law wsX7_worth := goodIn_r _ [842, 109, 293, 121, 122, 5, 123, 412, 413, 414, 415, 197, 198, 199, 200, 93, 883, 884, 885, 886, 887, 888, 889, 890, 891, 892, 893, 894, 895, 896] rfl rfl
set_option maxRecDepth 20000 in
theorem gL_law_X7_worth : GoodIn wsL_law (wsV RL 144 RX7 yX7_worth wsX7_worth) := goodIn_app (goodIn_r _ [839, 840, 841, 5] rfl rfl) ggL_law_X7_worth
set_option maxRecDepth 20000 in
theorem ggL_law_X6_keep : GoodIn wsL_law wsX6_keep := goodIn_r _ [846, 15, 115, 847, 848, 849, 2, 850, 25, 851, 852, 853, 27, 854, 88, 855, 86, 856, 87, 85, 857, 264, 265, 14, 266, 33, 155, 156, 56, 157, 858, 55, 57, 879, 880, 881, 882, 897, 898, 899, 900, 901, 902, 903, 904, 905, 906, 907, 908, 917, 918, 919, 920] rfl rfl
set_option maxRecDepth 20000 in
theorem gL_law_X6_keep : GoodIn wsL_law (wsV RL 145 RX6 yX6_keep wsX6_keep) := goodIn_app (goodIn_r _ [843, 844, 845, 2] rfl rfl) ggL_law_X6_keep
set_option maxRecDepth 20000 in
theorem ggL_law_X7_keep : GoodIn wsL_law wsX7_keep := goodIn_r _ [862, 101, 108, 102, 109, 103, 93, 121, 122, 5, 123, 883, 884, 885, 886, 887, 888, 889, 890, 891, 892, 893, 894, 895, 896] rfl rfl
set_option maxRecDepth 20000 in
theorem gL_law_X7_keep : GoodIn wsL_law (wsV RL 148 RX7 yX7_keep wsX7_keep) := goodIn_app (goodIn_r _ [859, 860, 861, 5] rfl rfl) ggL_law_X7_keep
set_option maxRecDepth 20000 in
theorem ggL_law_X6_goBack : GoodIn wsL_law wsX6_goBack := goodIn_r _ [866, 867, 15, 115, 847, 848, 849, 2, 850, 25, 868, 869, 870, 27, 871, 86, 87, 85, 872, 43, 44, 14, 45, 46, 47, 48, 49, 41, 34, 50, 51, 52, 53, 36, 37, 38, 39, 54, 55, 56, 57, 58, 59, 60, 61, 62, 63, 64, 35, 873, 156, 157, 874, 138, 139, 140, 33, 141, 130, 131, 132, 142, 134, 135, 136, 143, 144, 145, 146, 147, 148, 149, 150, 151, 152, 153, 154, 155, 158, 159, 160, 161, 162, 163, 164, 165, 166, 167, 168, 169, 170, 171, 172, 173, 174, 175, 176, 177, 178, 179, 180, 917, 918, 919, 920, 879, 880, 881, 882, 897, 898, 899, 900, 901, 902, 903, 904, 905, 906, 907, 908] rfl rfl
set_option maxRecDepth 20000 in
theorem gL_law_X6_goBack : GoodIn wsL_law (wsV RL 149 RX6 yX6_goBack wsX6_goBack) := goodIn_app (goodIn_r _ [863, 864, 865, 2] rfl rfl) ggL_law_X6_goBack
set_option maxRecDepth 20000 in
theorem ggL_law_X7_goBack : GoodIn wsL_law wsX7_goBack := goodIn_r _ [878, 101, 102, 103, 109, 121, 122, 5, 123, 104, 105, 106, 107, 108, 110, 94, 95, 96, 97, 189, 190, 191, 192, 93, 193, 194, 195, 196, 197, 198, 199, 200, 201, 202, 203, 204, 205, 206, 207, 208, 209, 210, 211, 212, 213, 214, 215, 216, 217, 218, 883, 884, 885, 886, 887, 888, 889, 890, 891, 892, 893, 894, 895, 896] rfl rfl
set_option maxRecDepth 20000 in
theorem gL_law_X7_goBack : GoodIn wsL_law (wsV RL 152 RX7 yX7_goBack wsX7_goBack) := goodIn_app (goodIn_r _ [875, 876, 877, 5] rfl rfl) ggL_law_X7_goBack
theorem dL_law_0 : decode cL_law 0 = .ok (.new 7, 3) := by decide +kernel
theorem dL_law_3 : decode cL_law 3 = .ok (.dup, 1) := by decide +kernel
theorem dL_law_4 : decode cL_law 4 = .ok (.invokespecial 9, 3) := by decide +kernel
theorem dL_law_7 : decode cL_law 7 = .ok (.astore_n 1, 1) := by decide +kernel
theorem dL_law_8 : decode cL_law 8 = .ok (.new 10, 3) := by decide +kernel
theorem dL_law_11 : decode cL_law 11 = .ok (.dup, 1) := by decide +kernel
theorem dL_law_12 : decode cL_law 12 = .ok (.invokespecial 12, 3) := by decide +kernel
theorem dL_law_15 : decode cL_law 15 = .ok (.astore_n 2, 1) := by decide +kernel
theorem dL_law_16 : decode cL_law 16 = .ok (.iconst 0, 1) := by decide +kernel
theorem dL_law_17 : decode cL_law 17 = .ok (.istore_n 3, 1) := by decide +kernel
theorem dL_law_18 : decode cL_law 18 = .ok (.iload_n 3, 1) := by decide +kernel
theorem dL_law_19 : decode cL_law 19 = .ok (.aload_n 0, 1) := by decide +kernel
theorem dL_law_20 : decode cL_law 20 = .ok (.arraylength, 1) := by decide +kernel
theorem dL_law_21 : decode cL_law 21 = .ok (.iconst 4, 1) := by decide +kernel
theorem dL_law_22 : decode cL_law 22 = .ok (.isub, 1) := by decide +kernel
theorem dL_law_23 : decode cL_law 23 = .ok (.if_icmp .gt 1059, 3) := by decide +kernel
theorem dL_law_26 : decode cL_law 26 = .ok (.aload_n 0, 1) := by decide +kernel
theorem dL_law_27 : decode cL_law 27 = .ok (.iload_n 3, 1) := by decide +kernel
theorem dL_law_28 : decode cL_law 28 = .ok (.iaload, 1) := by decide +kernel
theorem dL_law_29 : decode cL_law 29 = .ok (.bipush 63, 2) := by decide +kernel
theorem dL_law_31 : decode cL_law 31 = .ok (.iand, 1) := by decide +kernel
theorem dL_law_32 : decode cL_law 32 = .ok (.tableswitch 1044 0 33 #[152, 175, 198, 221, 244, 277, 300, 323, 356, 389, 422, 455, 498, 531, 554, 577, 600, 633, 666, 689, 712, 735, 768, 791, 814, 837, 860, 873, 896, 929, 952, 975, 998, 1021], 152) := by decide +kernel
theorem dL_law_184 : decode cL_law 184 = .ok (.aload_n 1, 1) := by decide +kernel
theorem dL_law_185 : decode cL_law 185 = .ok (.aload_n 0, 1) := by decide +kernel
theorem dL_law_186 : decode cL_law 186 = .ok (.iload_n 3, 1) := by decide +kernel
theorem dL_law_187 : decode cL_law 187 = .ok (.iconst 1, 1) := by decide +kernel
theorem dL_law_188 : decode cL_law 188 = .ok (.iadd, 1) := by decide +kernel
theorem dL_law_189 : decode cL_law 189 = .ok (.iaload, 1) := by decide +kernel
theorem dL_law_190 : decode cL_law 190 = .ok (.invokevirtual 13, 3) := by decide +kernel
theorem dL_law_193 : decode cL_law 193 = .ok (.aload_n 2, 1) := by decide +kernel
theorem dL_law_194 : decode cL_law 194 = .ok (.aload_n 0, 1) := by decide +kernel
theorem dL_law_195 : decode cL_law 195 = .ok (.iload_n 3, 1) := by decide +kernel
theorem dL_law_196 : decode cL_law 196 = .ok (.iconst 1, 1) := by decide +kernel
theorem dL_law_197 : decode cL_law 197 = .ok (.iadd, 1) := by decide +kernel
theorem dL_law_198 : decode cL_law 198 = .ok (.iaload, 1) := by decide +kernel
theorem dL_law_199 : decode cL_law 199 = .ok (.invokevirtual 17, 3) := by decide +kernel
theorem dL_law_202 : decode cL_law 202 = .ok (.if_icmp .eq 874, 3) := by decide +kernel
theorem dL_law_205 : decode cL_law 205 = .ok (.iconst 0, 1) := by decide +kernel
theorem dL_law_206 : decode cL_law 206 = .ok (.ireturn, 1) := by decide +kernel
theorem dL_law_207 : decode cL_law 207 = .ok (.aload_n 1, 1) := by decide +kernel
theorem dL_law_208 : decode cL_law 208 = .ok (.aload_n 0, 1) := by decide +kernel
theorem dL_law_209 : decode cL_law 209 = .ok (.iload_n 3, 1) := by decide +kernel
theorem dL_law_210 : decode cL_law 210 = .ok (.iconst 1, 1) := by decide +kernel
theorem dL_law_211 : decode cL_law 211 = .ok (.iadd, 1) := by decide +kernel
theorem dL_law_212 : decode cL_law 212 = .ok (.iaload, 1) := by decide +kernel
theorem dL_law_213 : decode cL_law 213 = .ok (.invokevirtual 18, 3) := by decide +kernel
theorem dL_law_216 : decode cL_law 216 = .ok (.aload_n 2, 1) := by decide +kernel
theorem dL_law_217 : decode cL_law 217 = .ok (.aload_n 0, 1) := by decide +kernel
theorem dL_law_218 : decode cL_law 218 = .ok (.iload_n 3, 1) := by decide +kernel
theorem dL_law_219 : decode cL_law 219 = .ok (.iconst 1, 1) := by decide +kernel
theorem dL_law_220 : decode cL_law 220 = .ok (.iadd, 1) := by decide +kernel
theorem dL_law_221 : decode cL_law 221 = .ok (.iaload, 1) := by decide +kernel
theorem dL_law_222 : decode cL_law 222 = .ok (.invokevirtual 21, 3) := by decide +kernel
theorem dL_law_225 : decode cL_law 225 = .ok (.if_icmp .eq 851, 3) := by decide +kernel
theorem dL_law_228 : decode cL_law 228 = .ok (.iconst 0, 1) := by decide +kernel
theorem dL_law_229 : decode cL_law 229 = .ok (.ireturn, 1) := by decide +kernel
theorem dL_law_230 : decode cL_law 230 = .ok (.aload_n 1, 1) := by decide +kernel
theorem dL_law_231 : decode cL_law 231 = .ok (.aload_n 0, 1) := by decide +kernel
theorem dL_law_232 : decode cL_law 232 = .ok (.iload_n 3, 1) := by decide +kernel
theorem dL_law_233 : decode cL_law 233 = .ok (.iconst 1, 1) := by decide +kernel
theorem dL_law_234 : decode cL_law 234 = .ok (.iadd, 1) := by decide +kernel
theorem dL_law_235 : decode cL_law 235 = .ok (.iaload, 1) := by decide +kernel
theorem dL_law_236 : decode cL_law 236 = .ok (.invokevirtual 22, 3) := by decide +kernel
theorem dL_law_239 : decode cL_law 239 = .ok (.aload_n 2, 1) := by decide +kernel
theorem dL_law_240 : decode cL_law 240 = .ok (.aload_n 0, 1) := by decide +kernel
theorem dL_law_241 : decode cL_law 241 = .ok (.iload_n 3, 1) := by decide +kernel
theorem dL_law_242 : decode cL_law 242 = .ok (.iconst 1, 1) := by decide +kernel
theorem dL_law_243 : decode cL_law 243 = .ok (.iadd, 1) := by decide +kernel
theorem dL_law_244 : decode cL_law 244 = .ok (.iaload, 1) := by decide +kernel
theorem dL_law_245 : decode cL_law 245 = .ok (.invokevirtual 25, 3) := by decide +kernel
theorem dL_law_248 : decode cL_law 248 = .ok (.if_icmp .eq 828, 3) := by decide +kernel
theorem dL_law_251 : decode cL_law 251 = .ok (.iconst 0, 1) := by decide +kernel
theorem dL_law_252 : decode cL_law 252 = .ok (.ireturn, 1) := by decide +kernel
theorem dL_law_253 : decode cL_law 253 = .ok (.aload_n 1, 1) := by decide +kernel
theorem dL_law_254 : decode cL_law 254 = .ok (.aload_n 0, 1) := by decide +kernel
theorem dL_law_255 : decode cL_law 255 = .ok (.iload_n 3, 1) := by decide +kernel
theorem dL_law_256 : decode cL_law 256 = .ok (.iconst 1, 1) := by decide +kernel
theorem dL_law_257 : decode cL_law 257 = .ok (.iadd, 1) := by decide +kernel
theorem dL_law_258 : decode cL_law 258 = .ok (.iaload, 1) := by decide +kernel
theorem dL_law_259 : decode cL_law 259 = .ok (.invokevirtual 26, 3) := by decide +kernel
theorem dL_law_262 : decode cL_law 262 = .ok (.aload_n 2, 1) := by decide +kernel
theorem dL_law_263 : decode cL_law 263 = .ok (.aload_n 0, 1) := by decide +kernel
theorem dL_law_264 : decode cL_law 264 = .ok (.iload_n 3, 1) := by decide +kernel
theorem dL_law_265 : decode cL_law 265 = .ok (.iconst 1, 1) := by decide +kernel
theorem dL_law_266 : decode cL_law 266 = .ok (.iadd, 1) := by decide +kernel
theorem dL_law_267 : decode cL_law 267 = .ok (.iaload, 1) := by decide +kernel
theorem dL_law_268 : decode cL_law 268 = .ok (.invokevirtual 29, 3) := by decide +kernel
theorem dL_law_271 : decode cL_law 271 = .ok (.if_icmp .eq 805, 3) := by decide +kernel
theorem dL_law_274 : decode cL_law 274 = .ok (.iconst 0, 1) := by decide +kernel
theorem dL_law_275 : decode cL_law 275 = .ok (.ireturn, 1) := by decide +kernel
theorem dL_law_276 : decode cL_law 276 = .ok (.aload_n 1, 1) := by decide +kernel
theorem dL_law_277 : decode cL_law 277 = .ok (.aload_n 0, 1) := by decide +kernel
theorem dL_law_278 : decode cL_law 278 = .ok (.iload_n 3, 1) := by decide +kernel
theorem dL_law_279 : decode cL_law 279 = .ok (.iconst 1, 1) := by decide +kernel
theorem dL_law_280 : decode cL_law 280 = .ok (.iadd, 1) := by decide +kernel
theorem dL_law_281 : decode cL_law 281 = .ok (.iaload, 1) := by decide +kernel
theorem dL_law_282 : decode cL_law 282 = .ok (.aload_n 0, 1) := by decide +kernel
theorem dL_law_283 : decode cL_law 283 = .ok (.iload_n 3, 1) := by decide +kernel
theorem dL_law_284 : decode cL_law 284 = .ok (.iconst 2, 1) := by decide +kernel
theorem dL_law_285 : decode cL_law 285 = .ok (.iadd, 1) := by decide +kernel
theorem dL_law_286 : decode cL_law 286 = .ok (.iaload, 1) := by decide +kernel
theorem dL_law_287 : decode cL_law 287 = .ok (.invokevirtual 30, 3) := by decide +kernel
theorem dL_law_290 : decode cL_law 290 = .ok (.aload_n 2, 1) := by decide +kernel
theorem dL_law_291 : decode cL_law 291 = .ok (.aload_n 0, 1) := by decide +kernel
theorem dL_law_292 : decode cL_law 292 = .ok (.iload_n 3, 1) := by decide +kernel
theorem dL_law_293 : decode cL_law 293 = .ok (.iconst 1, 1) := by decide +kernel
theorem dL_law_294 : decode cL_law 294 = .ok (.iadd, 1) := by decide +kernel
theorem dL_law_295 : decode cL_law 295 = .ok (.iaload, 1) := by decide +kernel
theorem dL_law_296 : decode cL_law 296 = .ok (.aload_n 0, 1) := by decide +kernel
theorem dL_law_297 : decode cL_law 297 = .ok (.iload_n 3, 1) := by decide +kernel
theorem dL_law_298 : decode cL_law 298 = .ok (.iconst 2, 1) := by decide +kernel
theorem dL_law_299 : decode cL_law 299 = .ok (.iadd, 1) := by decide +kernel
theorem dL_law_300 : decode cL_law 300 = .ok (.iaload, 1) := by decide +kernel
theorem dL_law_301 : decode cL_law 301 = .ok (.invokevirtual 34, 3) := by decide +kernel
theorem dL_law_304 : decode cL_law 304 = .ok (.if_icmp .eq 772, 3) := by decide +kernel
theorem dL_law_307 : decode cL_law 307 = .ok (.iconst 0, 1) := by decide +kernel
theorem dL_law_308 : decode cL_law 308 = .ok (.ireturn, 1) := by decide +kernel
theorem dL_law_309 : decode cL_law 309 = .ok (.aload_n 1, 1) := by decide +kernel
theorem dL_law_310 : decode cL_law 310 = .ok (.aload_n 0, 1) := by decide +kernel
theorem dL_law_311 : decode cL_law 311 = .ok (.iload_n 3, 1) := by decide +kernel
theorem dL_law_312 : decode cL_law 312 = .ok (.iconst 1, 1) := by decide +kernel
theorem dL_law_313 : decode cL_law 313 = .ok (.iadd, 1) := by decide +kernel
theorem dL_law_314 : decode cL_law 314 = .ok (.iaload, 1) := by decide +kernel
theorem dL_law_315 : decode cL_law 315 = .ok (.invokevirtual 35, 3) := by decide +kernel
theorem dL_law_318 : decode cL_law 318 = .ok (.aload_n 2, 1) := by decide +kernel
theorem dL_law_319 : decode cL_law 319 = .ok (.aload_n 0, 1) := by decide +kernel
theorem dL_law_320 : decode cL_law 320 = .ok (.iload_n 3, 1) := by decide +kernel
theorem dL_law_321 : decode cL_law 321 = .ok (.iconst 1, 1) := by decide +kernel
theorem dL_law_322 : decode cL_law 322 = .ok (.iadd, 1) := by decide +kernel
theorem dL_law_323 : decode cL_law 323 = .ok (.iaload, 1) := by decide +kernel
theorem dL_law_324 : decode cL_law 324 = .ok (.invokevirtual 38, 3) := by decide +kernel
theorem dL_law_327 : decode cL_law 327 = .ok (.if_icmp .eq 749, 3) := by decide +kernel
theorem dL_law_330 : decode cL_law 330 = .ok (.iconst 0, 1) := by decide +kernel
theorem dL_law_331 : decode cL_law 331 = .ok (.ireturn, 1) := by decide +kernel
theorem dL_law_332 : decode cL_law 332 = .ok (.aload_n 1, 1) := by decide +kernel
theorem dL_law_333 : decode cL_law 333 = .ok (.aload_n 0, 1) := by decide +kernel
theorem dL_law_334 : decode cL_law 334 = .ok (.iload_n 3, 1) := by decide +kernel
theorem dL_law_335 : decode cL_law 335 = .ok (.iconst 1, 1) := by decide +kernel
theorem dL_law_336 : decode cL_law 336 = .ok (.iadd, 1) := by decide +kernel
theorem dL_law_337 : decode cL_law 337 = .ok (.iaload, 1) := by decide +kernel
theorem dL_law_338 : decode cL_law 338 = .ok (.invokevirtual 39, 3) := by decide +kernel
theorem dL_law_341 : decode cL_law 341 = .ok (.aload_n 2, 1) := by decide +kernel
theorem dL_law_342 : decode cL_law 342 = .ok (.aload_n 0, 1) := by decide +kernel
theorem dL_law_343 : decode cL_law 343 = .ok (.iload_n 3, 1) := by decide +kernel
theorem dL_law_344 : decode cL_law 344 = .ok (.iconst 1, 1) := by decide +kernel
theorem dL_law_345 : decode cL_law 345 = .ok (.iadd, 1) := by decide +kernel
theorem dL_law_346 : decode cL_law 346 = .ok (.iaload, 1) := by decide +kernel
theorem dL_law_347 : decode cL_law 347 = .ok (.invokevirtual 42, 3) := by decide +kernel
theorem dL_law_350 : decode cL_law 350 = .ok (.if_icmp .eq 726, 3) := by decide +kernel
theorem dL_law_353 : decode cL_law 353 = .ok (.iconst 0, 1) := by decide +kernel
theorem dL_law_354 : decode cL_law 354 = .ok (.ireturn, 1) := by decide +kernel
theorem dL_law_355 : decode cL_law 355 = .ok (.aload_n 1, 1) := by decide +kernel
theorem dL_law_356 : decode cL_law 356 = .ok (.aload_n 0, 1) := by decide +kernel
theorem dL_law_357 : decode cL_law 357 = .ok (.iload_n 3, 1) := by decide +kernel
theorem dL_law_358 : decode cL_law 358 = .ok (.iconst 1, 1) := by decide +kernel
theorem dL_law_359 : decode cL_law 359 = .ok (.iadd, 1) := by decide +kernel
theorem dL_law_360 : decode cL_law 360 = .ok (.iaload, 1) := by decide +kernel
theorem dL_law_361 : decode cL_law 361 = .ok (.aload_n 0, 1) := by decide +kernel
theorem dL_law_362 : decode cL_law 362 = .ok (.iload_n 3, 1) := by decide +kernel
theorem dL_law_363 : decode cL_law 363 = .ok (.iconst 2, 1) := by decide +kernel
theorem dL_law_364 : decode cL_law 364 = .ok (.iadd, 1) := by decide +kernel
theorem dL_law_365 : decode cL_law 365 = .ok (.iaload, 1) := by decide +kernel
theorem dL_law_366 : decode cL_law 366 = .ok (.invokevirtual 43, 3) := by decide +kernel
theorem dL_law_369 : decode cL_law 369 = .ok (.aload_n 2, 1) := by decide +kernel
theorem dL_law_370 : decode cL_law 370 = .ok (.aload_n 0, 1) := by decide +kernel
theorem dL_law_371 : decode cL_law 371 = .ok (.iload_n 3, 1) := by decide +kernel
theorem dL_law_372 : decode cL_law 372 = .ok (.iconst 1, 1) := by decide +kernel
theorem dL_law_373 : decode cL_law 373 = .ok (.iadd, 1) := by decide +kernel
theorem dL_law_374 : decode cL_law 374 = .ok (.iaload, 1) := by decide +kernel
theorem dL_law_375 : decode cL_law 375 = .ok (.aload_n 0, 1) := by decide +kernel
theorem dL_law_376 : decode cL_law 376 = .ok (.iload_n 3, 1) := by decide +kernel
theorem dL_law_377 : decode cL_law 377 = .ok (.iconst 2, 1) := by decide +kernel
theorem dL_law_378 : decode cL_law 378 = .ok (.iadd, 1) := by decide +kernel
theorem dL_law_379 : decode cL_law 379 = .ok (.iaload, 1) := by decide +kernel
theorem dL_law_380 : decode cL_law 380 = .ok (.invokevirtual 46, 3) := by decide +kernel
theorem dL_law_383 : decode cL_law 383 = .ok (.if_icmp .eq 693, 3) := by decide +kernel
theorem dL_law_386 : decode cL_law 386 = .ok (.iconst 0, 1) := by decide +kernel
theorem dL_law_387 : decode cL_law 387 = .ok (.ireturn, 1) := by decide +kernel
theorem dL_law_388 : decode cL_law 388 = .ok (.aload_n 1, 1) := by decide +kernel
theorem dL_law_389 : decode cL_law 389 = .ok (.aload_n 0, 1) := by decide +kernel
theorem dL_law_390 : decode cL_law 390 = .ok (.iload_n 3, 1) := by decide +kernel
theorem dL_law_391 : decode cL_law 391 = .ok (.iconst 1, 1) := by decide +kernel
theorem dL_law_392 : decode cL_law 392 = .ok (.iadd, 1) := by decide +kernel
theorem dL_law_393 : decode cL_law 393 = .ok (.iaload, 1) := by decide +kernel
theorem dL_law_394 : decode cL_law 394 = .ok (.aload_n 0, 1) := by decide +kernel
theorem dL_law_395 : decode cL_law 395 = .ok (.iload_n 3, 1) := by decide +kernel
theorem dL_law_396 : decode cL_law 396 = .ok (.iconst 2, 1) := by decide +kernel
theorem dL_law_397 : decode cL_law 397 = .ok (.iadd, 1) := by decide +kernel
theorem dL_law_398 : decode cL_law 398 = .ok (.iaload, 1) := by decide +kernel
theorem dL_law_399 : decode cL_law 399 = .ok (.invokevirtual 47, 3) := by decide +kernel
theorem dL_law_402 : decode cL_law 402 = .ok (.aload_n 2, 1) := by decide +kernel
theorem dL_law_403 : decode cL_law 403 = .ok (.aload_n 0, 1) := by decide +kernel
theorem dL_law_404 : decode cL_law 404 = .ok (.iload_n 3, 1) := by decide +kernel
theorem dL_law_405 : decode cL_law 405 = .ok (.iconst 1, 1) := by decide +kernel
theorem dL_law_406 : decode cL_law 406 = .ok (.iadd, 1) := by decide +kernel
theorem dL_law_407 : decode cL_law 407 = .ok (.iaload, 1) := by decide +kernel
theorem dL_law_408 : decode cL_law 408 = .ok (.aload_n 0, 1) := by decide +kernel
theorem dL_law_409 : decode cL_law 409 = .ok (.iload_n 3, 1) := by decide +kernel
theorem dL_law_410 : decode cL_law 410 = .ok (.iconst 2, 1) := by decide +kernel
theorem dL_law_411 : decode cL_law 411 = .ok (.iadd, 1) := by decide +kernel
theorem dL_law_412 : decode cL_law 412 = .ok (.iaload, 1) := by decide +kernel
theorem dL_law_413 : decode cL_law 413 = .ok (.invokevirtual 50, 3) := by decide +kernel
theorem dL_law_416 : decode cL_law 416 = .ok (.if_icmp .eq 660, 3) := by decide +kernel
theorem dL_law_419 : decode cL_law 419 = .ok (.iconst 0, 1) := by decide +kernel
theorem dL_law_420 : decode cL_law 420 = .ok (.ireturn, 1) := by decide +kernel
theorem dL_law_421 : decode cL_law 421 = .ok (.aload_n 1, 1) := by decide +kernel
theorem dL_law_422 : decode cL_law 422 = .ok (.aload_n 0, 1) := by decide +kernel
theorem dL_law_423 : decode cL_law 423 = .ok (.iload_n 3, 1) := by decide +kernel
theorem dL_law_424 : decode cL_law 424 = .ok (.iconst 1, 1) := by decide +kernel
theorem dL_law_425 : decode cL_law 425 = .ok (.iadd, 1) := by decide +kernel
theorem dL_law_426 : decode cL_law 426 = .ok (.iaload, 1) := by decide +kernel
theorem dL_law_427 : decode cL_law 427 = .ok (.aload_n 0, 1) := by decide +kernel
theorem dL_law_428 : decode cL_law 428 = .ok (.iload_n 3, 1) := by decide +kernel
theorem dL_law_429 : decode cL_law 429 = .ok (.iconst 2, 1) := by decide +kernel
theorem dL_law_430 : decode cL_law 430 = .ok (.iadd, 1) := by decide +kernel
theorem dL_law_431 : decode cL_law 431 = .ok (.iaload, 1) := by decide +kernel
theorem dL_law_432 : decode cL_law 432 = .ok (.invokevirtual 51, 3) := by decide +kernel
theorem dL_law_435 : decode cL_law 435 = .ok (.aload_n 2, 1) := by decide +kernel
theorem dL_law_436 : decode cL_law 436 = .ok (.aload_n 0, 1) := by decide +kernel
theorem dL_law_437 : decode cL_law 437 = .ok (.iload_n 3, 1) := by decide +kernel
theorem dL_law_438 : decode cL_law 438 = .ok (.iconst 1, 1) := by decide +kernel
theorem dL_law_439 : decode cL_law 439 = .ok (.iadd, 1) := by decide +kernel
theorem dL_law_440 : decode cL_law 440 = .ok (.iaload, 1) := by decide +kernel
theorem dL_law_441 : decode cL_law 441 = .ok (.aload_n 0, 1) := by decide +kernel
theorem dL_law_442 : decode cL_law 442 = .ok (.iload_n 3, 1) := by decide +kernel
theorem dL_law_443 : decode cL_law 443 = .ok (.iconst 2, 1) := by decide +kernel
theorem dL_law_444 : decode cL_law 444 = .ok (.iadd, 1) := by decide +kernel
theorem dL_law_445 : decode cL_law 445 = .ok (.iaload, 1) := by decide +kernel
theorem dL_law_446 : decode cL_law 446 = .ok (.invokevirtual 54, 3) := by decide +kernel
theorem dL_law_449 : decode cL_law 449 = .ok (.if_icmp .eq 627, 3) := by decide +kernel
theorem dL_law_452 : decode cL_law 452 = .ok (.iconst 0, 1) := by decide +kernel
theorem dL_law_453 : decode cL_law 453 = .ok (.ireturn, 1) := by decide +kernel
theorem dL_law_454 : decode cL_law 454 = .ok (.aload_n 1, 1) := by decide +kernel
theorem dL_law_455 : decode cL_law 455 = .ok (.aload_n 0, 1) := by decide +kernel
theorem dL_law_456 : decode cL_law 456 = .ok (.iload_n 3, 1) := by decide +kernel
theorem dL_law_457 : decode cL_law 457 = .ok (.iconst 1, 1) := by decide +kernel
theorem dL_law_458 : decode cL_law 458 = .ok (.iadd, 1) := by decide +kernel
theorem dL_law_459 : decode cL_law 459 = .ok (.iaload, 1) := by decide +kernel
theorem dL_law_460 : decode cL_law 460 = .ok (.aload_n 0, 1) := by decide +kernel
theorem dL_law_461 : decode cL_law 461 = .ok (.iload_n 3, 1) := by decide +kernel
theorem dL_law_462 : decode cL_law 462 = .ok (.iconst 2, 1) := by decide +kernel
theorem dL_law_463 : decode cL_law 463 = .ok (.iadd, 1) := by decide +kernel
theorem dL_law_464 : decode cL_law 464 = .ok (.iaload, 1) := by decide +kernel
theorem dL_law_465 : decode cL_law 465 = .ok (.invokevirtual 55, 3) := by decide +kernel
theorem dL_law_468 : decode cL_law 468 = .ok (.aload_n 2, 1) := by decide +kernel
theorem dL_law_469 : decode cL_law 469 = .ok (.aload_n 0, 1) := by decide +kernel
theorem dL_law_470 : decode cL_law 470 = .ok (.iload_n 3, 1) := by decide +kernel
theorem dL_law_471 : decode cL_law 471 = .ok (.iconst 1, 1) := by decide +kernel
theorem dL_law_472 : decode cL_law 472 = .ok (.iadd, 1) := by decide +kernel
theorem dL_law_473 : decode cL_law 473 = .ok (.iaload, 1) := by decide +kernel
theorem dL_law_474 : decode cL_law 474 = .ok (.aload_n 0, 1) := by decide +kernel
theorem dL_law_475 : decode cL_law 475 = .ok (.iload_n 3, 1) := by decide +kernel
theorem dL_law_476 : decode cL_law 476 = .ok (.iconst 2, 1) := by decide +kernel
theorem dL_law_477 : decode cL_law 477 = .ok (.iadd, 1) := by decide +kernel
theorem dL_law_478 : decode cL_law 478 = .ok (.iaload, 1) := by decide +kernel
theorem dL_law_479 : decode cL_law 479 = .ok (.invokevirtual 58, 3) := by decide +kernel
theorem dL_law_482 : decode cL_law 482 = .ok (.if_icmp .eq 594, 3) := by decide +kernel
theorem dL_law_485 : decode cL_law 485 = .ok (.iconst 0, 1) := by decide +kernel
theorem dL_law_486 : decode cL_law 486 = .ok (.ireturn, 1) := by decide +kernel
theorem dL_law_487 : decode cL_law 487 = .ok (.aload_n 1, 1) := by decide +kernel
theorem dL_law_488 : decode cL_law 488 = .ok (.aload_n 0, 1) := by decide +kernel
theorem dL_law_489 : decode cL_law 489 = .ok (.iload_n 3, 1) := by decide +kernel
theorem dL_law_490 : decode cL_law 490 = .ok (.iconst 1, 1) := by decide +kernel
theorem dL_law_491 : decode cL_law 491 = .ok (.iadd, 1) := by decide +kernel
theorem dL_law_492 : decode cL_law 492 = .ok (.iaload, 1) := by decide +kernel
theorem dL_law_493 : decode cL_law 493 = .ok (.aload_n 0, 1) := by decide +kernel
theorem dL_law_494 : decode cL_law 494 = .ok (.iload_n 3, 1) := by decide +kernel
theorem dL_law_495 : decode cL_law 495 = .ok (.iconst 2, 1) := by decide +kernel
theorem dL_law_496 : decode cL_law 496 = .ok (.iadd, 1) := by decide +kernel
theorem dL_law_497 : decode cL_law 497 = .ok (.iaload, 1) := by decide +kernel
theorem dL_law_498 : decode cL_law 498 = .ok (.aload_n 0, 1) := by decide +kernel
theorem dL_law_499 : decode cL_law 499 = .ok (.iload_n 3, 1) := by decide +kernel
theorem dL_law_500 : decode cL_law 500 = .ok (.iconst 3, 1) := by decide +kernel
theorem dL_law_501 : decode cL_law 501 = .ok (.iadd, 1) := by decide +kernel
theorem dL_law_502 : decode cL_law 502 = .ok (.iaload, 1) := by decide +kernel
theorem dL_law_503 : decode cL_law 503 = .ok (.invokevirtual 59, 3) := by decide +kernel
theorem dL_law_506 : decode cL_law 506 = .ok (.aload_n 2, 1) := by decide +kernel
theorem dL_law_507 : decode cL_law 507 = .ok (.aload_n 0, 1) := by decide +kernel
theorem dL_law_508 : decode cL_law 508 = .ok (.iload_n 3, 1) := by decide +kernel
theorem dL_law_509 : decode cL_law 509 = .ok (.iconst 1, 1) := by decide +kernel
theorem dL_law_510 : decode cL_law 510 = .ok (.iadd, 1) := by decide +kernel
theorem dL_law_511 : decode cL_law 511 = .ok (.iaload, 1) := by decide +kernel
theorem dL_law_512 : decode cL_law 512 = .ok (.aload_n 0, 1) := by decide +kernel
theorem dL_law_513 : decode cL_law 513 = .ok (.iload_n 3, 1) := by decide +kernel
theorem dL_law_514 : decode cL_law 514 = .ok (.iconst 2, 1) := by decide +kernel
theorem dL_law_515 : decode cL_law 515 = .ok (.iadd, 1) := by decide +kernel
theorem dL_law_516 : decode cL_law 516 = .ok (.iaload, 1) := by decide +kernel
theorem dL_law_517 : decode cL_law 517 = .ok (.aload_n 0, 1) := by decide +kernel
theorem dL_law_518 : decode cL_law 518 = .ok (.iload_n 3, 1) := by decide +kernel
theorem dL_law_519 : decode cL_law 519 = .ok (.iconst 3, 1) := by decide +kernel
theorem dL_law_520 : decode cL_law 520 = .ok (.iadd, 1) := by decide +kernel
theorem dL_law_521 : decode cL_law 521 = .ok (.iaload, 1) := by decide +kernel
theorem dL_law_522 : decode cL_law 522 = .ok (.invokevirtual 63, 3) := by decide +kernel
theorem dL_law_525 : decode cL_law 525 = .ok (.if_icmp .eq 551, 3) := by decide +kernel
theorem dL_law_528 : decode cL_law 528 = .ok (.iconst 0, 1) := by decide +kernel
theorem dL_law_529 : decode cL_law 529 = .ok (.ireturn, 1) := by decide +kernel
theorem dL_law_530 : decode cL_law 530 = .ok (.aload_n 1, 1) := by decide +kernel
theorem dL_law_531 : decode cL_law 531 = .ok (.aload_n 0, 1) := by decide +kernel
theorem dL_law_532 : decode cL_law 532 = .ok (.iload_n 3, 1) := by decide +kernel
theorem dL_law_533 : decode cL_law 533 = .ok (.iconst 1, 1) := by decide +kernel
theorem dL_law_534 : decode cL_law 534 = .ok (.iadd, 1) := by decide +kernel
theorem dL_law_535 : decode cL_law 535 = .ok (.iaload, 1) := by decide +kernel
theorem dL_law_536 : decode cL_law 536 = .ok (.aload_n 0, 1) := by decide +kernel
theorem dL_law_537 : decode cL_law 537 = .ok (.iload_n 3, 1) := by decide +kernel
theorem dL_law_538 : decode cL_law 538 = .ok (.iconst 2, 1) := by decide +kernel
theorem dL_law_539 : decode cL_law 539 = .ok (.iadd, 1) := by decide +kernel
theorem dL_law_540 : decode cL_law 540 = .ok (.iaload, 1) := by decide +kernel
theorem dL_law_541 : decode cL_law 541 = .ok (.invokevirtual 64, 3) := by decide +kernel
theorem dL_law_544 : decode cL_law 544 = .ok (.aload_n 2, 1) := by decide +kernel
theorem dL_law_545 : decode cL_law 545 = .ok (.aload_n 0, 1) := by decide +kernel
theorem dL_law_546 : decode cL_law 546 = .ok (.iload_n 3, 1) := by decide +kernel
theorem dL_law_547 : decode cL_law 547 = .ok (.iconst 1, 1) := by decide +kernel
theorem dL_law_548 : decode cL_law 548 = .ok (.iadd, 1) := by decide +kernel
theorem dL_law_549 : decode cL_law 549 = .ok (.iaload, 1) := by decide +kernel
theorem dL_law_550 : decode cL_law 550 = .ok (.aload_n 0, 1) := by decide +kernel
theorem dL_law_551 : decode cL_law 551 = .ok (.iload_n 3, 1) := by decide +kernel
theorem dL_law_552 : decode cL_law 552 = .ok (.iconst 2, 1) := by decide +kernel
theorem dL_law_553 : decode cL_law 553 = .ok (.iadd, 1) := by decide +kernel
theorem dL_law_554 : decode cL_law 554 = .ok (.iaload, 1) := by decide +kernel
theorem dL_law_555 : decode cL_law 555 = .ok (.invokevirtual 67, 3) := by decide +kernel
theorem dL_law_558 : decode cL_law 558 = .ok (.if_icmp .eq 518, 3) := by decide +kernel
theorem dL_law_561 : decode cL_law 561 = .ok (.iconst 0, 1) := by decide +kernel
theorem dL_law_562 : decode cL_law 562 = .ok (.ireturn, 1) := by decide +kernel
theorem dL_law_563 : decode cL_law 563 = .ok (.aload_n 1, 1) := by decide +kernel
theorem dL_law_564 : decode cL_law 564 = .ok (.aload_n 0, 1) := by decide +kernel
theorem dL_law_565 : decode cL_law 565 = .ok (.iload_n 3, 1) := by decide +kernel
theorem dL_law_566 : decode cL_law 566 = .ok (.iconst 1, 1) := by decide +kernel
theorem dL_law_567 : decode cL_law 567 = .ok (.iadd, 1) := by decide +kernel
theorem dL_law_568 : decode cL_law 568 = .ok (.iaload, 1) := by decide +kernel
theorem dL_law_569 : decode cL_law 569 = .ok (.invokevirtual 68, 3) := by decide +kernel
theorem dL_law_572 : decode cL_law 572 = .ok (.aload_n 2, 1) := by decide +kernel
theorem dL_law_573 : decode cL_law 573 = .ok (.aload_n 0, 1) := by decide +kernel
theorem dL_law_574 : decode cL_law 574 = .ok (.iload_n 3, 1) := by decide +kernel
theorem dL_law_575 : decode cL_law 575 = .ok (.iconst 1, 1) := by decide +kernel
theorem dL_law_576 : decode cL_law 576 = .ok (.iadd, 1) := by decide +kernel
theorem dL_law_577 : decode cL_law 577 = .ok (.iaload, 1) := by decide +kernel
theorem dL_law_578 : decode cL_law 578 = .ok (.invokevirtual 71, 3) := by decide +kernel
theorem dL_law_581 : decode cL_law 581 = .ok (.if_icmp .eq 495, 3) := by decide +kernel
theorem dL_law_584 : decode cL_law 584 = .ok (.iconst 0, 1) := by decide +kernel
theorem dL_law_585 : decode cL_law 585 = .ok (.ireturn, 1) := by decide +kernel
theorem dL_law_586 : decode cL_law 586 = .ok (.aload_n 1, 1) := by decide +kernel
theorem dL_law_587 : decode cL_law 587 = .ok (.aload_n 0, 1) := by decide +kernel
theorem dL_law_588 : decode cL_law 588 = .ok (.iload_n 3, 1) := by decide +kernel
theorem dL_law_589 : decode cL_law 589 = .ok (.iconst 1, 1) := by decide +kernel
theorem dL_law_590 : decode cL_law 590 = .ok (.iadd, 1) := by decide +kernel
theorem dL_law_591 : decode cL_law 591 = .ok (.iaload, 1) := by decide +kernel
theorem dL_law_592 : decode cL_law 592 = .ok (.invokevirtual 72, 3) := by decide +kernel
theorem dL_law_595 : decode cL_law 595 = .ok (.aload_n 2, 1) := by decide +kernel
theorem dL_law_596 : decode cL_law 596 = .ok (.aload_n 0, 1) := by decide +kernel
theorem dL_law_597 : decode cL_law 597 = .ok (.iload_n 3, 1) := by decide +kernel
theorem dL_law_598 : decode cL_law 598 = .ok (.iconst 1, 1) := by decide +kernel
theorem dL_law_599 : decode cL_law 599 = .ok (.iadd, 1) := by decide +kernel
theorem dL_law_600 : decode cL_law 600 = .ok (.iaload, 1) := by decide +kernel
theorem dL_law_601 : decode cL_law 601 = .ok (.invokevirtual 75, 3) := by decide +kernel
theorem dL_law_604 : decode cL_law 604 = .ok (.if_icmp .eq 472, 3) := by decide +kernel
theorem dL_law_607 : decode cL_law 607 = .ok (.iconst 0, 1) := by decide +kernel
theorem dL_law_608 : decode cL_law 608 = .ok (.ireturn, 1) := by decide +kernel
theorem dL_law_609 : decode cL_law 609 = .ok (.aload_n 1, 1) := by decide +kernel
theorem dL_law_610 : decode cL_law 610 = .ok (.aload_n 0, 1) := by decide +kernel
theorem dL_law_611 : decode cL_law 611 = .ok (.iload_n 3, 1) := by decide +kernel
theorem dL_law_612 : decode cL_law 612 = .ok (.iconst 1, 1) := by decide +kernel
theorem dL_law_613 : decode cL_law 613 = .ok (.iadd, 1) := by decide +kernel
theorem dL_law_614 : decode cL_law 614 = .ok (.iaload, 1) := by decide +kernel
theorem dL_law_615 : decode cL_law 615 = .ok (.invokevirtual 76, 3) := by decide +kernel
theorem dL_law_618 : decode cL_law 618 = .ok (.aload_n 2, 1) := by decide +kernel
theorem dL_law_619 : decode cL_law 619 = .ok (.aload_n 0, 1) := by decide +kernel
theorem dL_law_620 : decode cL_law 620 = .ok (.iload_n 3, 1) := by decide +kernel
theorem dL_law_621 : decode cL_law 621 = .ok (.iconst 1, 1) := by decide +kernel
theorem dL_law_622 : decode cL_law 622 = .ok (.iadd, 1) := by decide +kernel
theorem dL_law_623 : decode cL_law 623 = .ok (.iaload, 1) := by decide +kernel
theorem dL_law_624 : decode cL_law 624 = .ok (.invokevirtual 79, 3) := by decide +kernel
theorem dL_law_627 : decode cL_law 627 = .ok (.if_icmp .eq 449, 3) := by decide +kernel
theorem dL_law_630 : decode cL_law 630 = .ok (.iconst 0, 1) := by decide +kernel
theorem dL_law_631 : decode cL_law 631 = .ok (.ireturn, 1) := by decide +kernel
theorem dL_law_632 : decode cL_law 632 = .ok (.aload_n 1, 1) := by decide +kernel
theorem dL_law_633 : decode cL_law 633 = .ok (.aload_n 0, 1) := by decide +kernel
theorem dL_law_634 : decode cL_law 634 = .ok (.iload_n 3, 1) := by decide +kernel
theorem dL_law_635 : decode cL_law 635 = .ok (.iconst 1, 1) := by decide +kernel
theorem dL_law_636 : decode cL_law 636 = .ok (.iadd, 1) := by decide +kernel
theorem dL_law_637 : decode cL_law 637 = .ok (.iaload, 1) := by decide +kernel
theorem dL_law_638 : decode cL_law 638 = .ok (.aload_n 0, 1) := by decide +kernel
theorem dL_law_639 : decode cL_law 639 = .ok (.iload_n 3, 1) := by decide +kernel
theorem dL_law_640 : decode cL_law 640 = .ok (.iconst 2, 1) := by decide +kernel
theorem dL_law_641 : decode cL_law 641 = .ok (.iadd, 1) := by decide +kernel
theorem dL_law_642 : decode cL_law 642 = .ok (.iaload, 1) := by decide +kernel
theorem dL_law_643 : decode cL_law 643 = .ok (.invokevirtual 80, 3) := by decide +kernel
theorem dL_law_646 : decode cL_law 646 = .ok (.aload_n 2, 1) := by decide +kernel
theorem dL_law_647 : decode cL_law 647 = .ok (.aload_n 0, 1) := by decide +kernel
theorem dL_law_648 : decode cL_law 648 = .ok (.iload_n 3, 1) := by decide +kernel
theorem dL_law_649 : decode cL_law 649 = .ok (.iconst 1, 1) := by decide +kernel
theorem dL_law_650 : decode cL_law 650 = .ok (.iadd, 1) := by decide +kernel
theorem dL_law_651 : decode cL_law 651 = .ok (.iaload, 1) := by decide +kernel
theorem dL_law_652 : decode cL_law 652 = .ok (.aload_n 0, 1) := by decide +kernel
theorem dL_law_653 : decode cL_law 653 = .ok (.iload_n 3, 1) := by decide +kernel
theorem dL_law_654 : decode cL_law 654 = .ok (.iconst 2, 1) := by decide +kernel
theorem dL_law_655 : decode cL_law 655 = .ok (.iadd, 1) := by decide +kernel
theorem dL_law_656 : decode cL_law 656 = .ok (.iaload, 1) := by decide +kernel
theorem dL_law_657 : decode cL_law 657 = .ok (.invokevirtual 83, 3) := by decide +kernel
theorem dL_law_660 : decode cL_law 660 = .ok (.if_icmp .eq 416, 3) := by decide +kernel
theorem dL_law_663 : decode cL_law 663 = .ok (.iconst 0, 1) := by decide +kernel
theorem dL_law_664 : decode cL_law 664 = .ok (.ireturn, 1) := by decide +kernel
theorem dL_law_665 : decode cL_law 665 = .ok (.aload_n 1, 1) := by decide +kernel
theorem dL_law_666 : decode cL_law 666 = .ok (.aload_n 0, 1) := by decide +kernel
theorem dL_law_667 : decode cL_law 667 = .ok (.iload_n 3, 1) := by decide +kernel
theorem dL_law_668 : decode cL_law 668 = .ok (.iconst 1, 1) := by decide +kernel
theorem dL_law_669 : decode cL_law 669 = .ok (.iadd, 1) := by decide +kernel
theorem dL_law_670 : decode cL_law 670 = .ok (.iaload, 1) := by decide +kernel
theorem dL_law_671 : decode cL_law 671 = .ok (.aload_n 0, 1) := by decide +kernel
theorem dL_law_672 : decode cL_law 672 = .ok (.iload_n 3, 1) := by decide +kernel
theorem dL_law_673 : decode cL_law 673 = .ok (.iconst 2, 1) := by decide +kernel
theorem dL_law_674 : decode cL_law 674 = .ok (.iadd, 1) := by decide +kernel
theorem dL_law_675 : decode cL_law 675 = .ok (.iaload, 1) := by decide +kernel
theorem dL_law_676 : decode cL_law 676 = .ok (.invokevirtual 84, 3) := by decide +kernel
theorem dL_law_679 : decode cL_law 679 = .ok (.aload_n 2, 1) := by decide +kernel
theorem dL_law_680 : decode cL_law 680 = .ok (.aload_n 0, 1) := by decide +kernel
theorem dL_law_681 : decode cL_law 681 = .ok (.iload_n 3, 1) := by decide +kernel
theorem dL_law_682 : decode cL_law 682 = .ok (.iconst 1, 1) := by decide +kernel
theorem dL_law_683 : decode cL_law 683 = .ok (.iadd, 1) := by decide +kernel
theorem dL_law_684 : decode cL_law 684 = .ok (.iaload, 1) := by decide +kernel
theorem dL_law_685 : decode cL_law 685 = .ok (.aload_n 0, 1) := by decide +kernel
theorem dL_law_686 : decode cL_law 686 = .ok (.iload_n 3, 1) := by decide +kernel
theorem dL_law_687 : decode cL_law 687 = .ok (.iconst 2, 1) := by decide +kernel
theorem dL_law_688 : decode cL_law 688 = .ok (.iadd, 1) := by decide +kernel
theorem dL_law_689 : decode cL_law 689 = .ok (.iaload, 1) := by decide +kernel
theorem dL_law_690 : decode cL_law 690 = .ok (.invokevirtual 87, 3) := by decide +kernel
theorem dL_law_693 : decode cL_law 693 = .ok (.if_icmp .eq 383, 3) := by decide +kernel
theorem dL_law_696 : decode cL_law 696 = .ok (.iconst 0, 1) := by decide +kernel
theorem dL_law_697 : decode cL_law 697 = .ok (.ireturn, 1) := by decide +kernel
theorem dL_law_698 : decode cL_law 698 = .ok (.aload_n 1, 1) := by decide +kernel
theorem dL_law_699 : decode cL_law 699 = .ok (.aload_n 0, 1) := by decide +kernel
theorem dL_law_700 : decode cL_law 700 = .ok (.iload_n 3, 1) := by decide +kernel
theorem dL_law_701 : decode cL_law 701 = .ok (.iconst 1, 1) := by decide +kernel
theorem dL_law_702 : decode cL_law 702 = .ok (.iadd, 1) := by decide +kernel
theorem dL_law_703 : decode cL_law 703 = .ok (.iaload, 1) := by decide +kernel
theorem dL_law_704 : decode cL_law 704 = .ok (.invokevirtual 88, 3) := by decide +kernel
theorem dL_law_707 : decode cL_law 707 = .ok (.aload_n 2, 1) := by decide +kernel
theorem dL_law_708 : decode cL_law 708 = .ok (.aload_n 0, 1) := by decide +kernel
theorem dL_law_709 : decode cL_law 709 = .ok (.iload_n 3, 1) := by decide +kernel
theorem dL_law_710 : decode cL_law 710 = .ok (.iconst 1, 1) := by decide +kernel
theorem dL_law_711 : decode cL_law 711 = .ok (.iadd, 1) := by decide +kernel
theorem dL_law_712 : decode cL_law 712 = .ok (.iaload, 1) := by decide +kernel
theorem dL_law_713 : decode cL_law 713 = .ok (.invokevirtual 91, 3) := by decide +kernel
theorem dL_law_716 : decode cL_law 716 = .ok (.if_icmp .eq 360, 3) := by decide +kernel
theorem dL_law_719 : decode cL_law 719 = .ok (.iconst 0, 1) := by decide +kernel
theorem dL_law_720 : decode cL_law 720 = .ok (.ireturn, 1) := by decide +kernel
theorem dL_law_721 : decode cL_law 721 = .ok (.aload_n 1, 1) := by decide +kernel
theorem dL_law_722 : decode cL_law 722 = .ok (.aload_n 0, 1) := by decide +kernel
theorem dL_law_723 : decode cL_law 723 = .ok (.iload_n 3, 1) := by decide +kernel
theorem dL_law_724 : decode cL_law 724 = .ok (.iconst 1, 1) := by decide +kernel
theorem dL_law_725 : decode cL_law 725 = .ok (.iadd, 1) := by decide +kernel
theorem dL_law_726 : decode cL_law 726 = .ok (.iaload, 1) := by decide +kernel
theorem dL_law_727 : decode cL_law 727 = .ok (.invokevirtual 92, 3) := by decide +kernel
theorem dL_law_730 : decode cL_law 730 = .ok (.aload_n 2, 1) := by decide +kernel
theorem dL_law_731 : decode cL_law 731 = .ok (.aload_n 0, 1) := by decide +kernel
theorem dL_law_732 : decode cL_law 732 = .ok (.iload_n 3, 1) := by decide +kernel
theorem dL_law_733 : decode cL_law 733 = .ok (.iconst 1, 1) := by decide +kernel
theorem dL_law_734 : decode cL_law 734 = .ok (.iadd, 1) := by decide +kernel
theorem dL_law_735 : decode cL_law 735 = .ok (.iaload, 1) := by decide +kernel
theorem dL_law_736 : decode cL_law 736 = .ok (.invokevirtual 95, 3) := by decide +kernel
theorem dL_law_739 : decode cL_law 739 = .ok (.if_icmp .eq 337, 3) := by decide +kernel
theorem dL_law_742 : decode cL_law 742 = .ok (.iconst 0, 1) := by decide +kernel
theorem dL_law_743 : decode cL_law 743 = .ok (.ireturn, 1) := by decide +kernel
theorem dL_law_744 : decode cL_law 744 = .ok (.aload_n 1, 1) := by decide +kernel
theorem dL_law_745 : decode cL_law 745 = .ok (.aload_n 0, 1) := by decide +kernel
theorem dL_law_746 : decode cL_law 746 = .ok (.iload_n 3, 1) := by decide +kernel
theorem dL_law_747 : decode cL_law 747 = .ok (.iconst 1, 1) := by decide +kernel
theorem dL_law_748 : decode cL_law 748 = .ok (.iadd, 1) := by decide +kernel
theorem dL_law_749 : decode cL_law 749 = .ok (.iaload, 1) := by decide +kernel
theorem dL_law_750 : decode cL_law 750 = .ok (.invokevirtual 96, 3) := by decide +kernel
theorem dL_law_753 : decode cL_law 753 = .ok (.aload_n 2, 1) := by decide +kernel
theorem dL_law_754 : decode cL_law 754 = .ok (.aload_n 0, 1) := by decide +kernel
theorem dL_law_755 : decode cL_law 755 = .ok (.iload_n 3, 1) := by decide +kernel
theorem dL_law_756 : decode cL_law 756 = .ok (.iconst 1, 1) := by decide +kernel
theorem dL_law_757 : decode cL_law 757 = .ok (.iadd, 1) := by decide +kernel
theorem dL_law_758 : decode cL_law 758 = .ok (.iaload, 1) := by decide +kernel
theorem dL_law_759 : decode cL_law 759 = .ok (.invokevirtual 99, 3) := by decide +kernel
theorem dL_law_762 : decode cL_law 762 = .ok (.if_icmp .eq 314, 3) := by decide +kernel
theorem dL_law_765 : decode cL_law 765 = .ok (.iconst 0, 1) := by decide +kernel
theorem dL_law_766 : decode cL_law 766 = .ok (.ireturn, 1) := by decide +kernel
theorem dL_law_767 : decode cL_law 767 = .ok (.aload_n 1, 1) := by decide +kernel
theorem dL_law_768 : decode cL_law 768 = .ok (.aload_n 0, 1) := by decide +kernel
theorem dL_law_769 : decode cL_law 769 = .ok (.iload_n 3, 1) := by decide +kernel
theorem dL_law_770 : decode cL_law 770 = .ok (.iconst 1, 1) := by decide +kernel
theorem dL_law_771 : decode cL_law 771 = .ok (.iadd, 1) := by decide +kernel
theorem dL_law_772 : decode cL_law 772 = .ok (.iaload, 1) := by decide +kernel
theorem dL_law_773 : decode cL_law 773 = .ok (.aload_n 0, 1) := by decide +kernel
theorem dL_law_774 : decode cL_law 774 = .ok (.iload_n 3, 1) := by decide +kernel
theorem dL_law_775 : decode cL_law 775 = .ok (.iconst 2, 1) := by decide +kernel
theorem dL_law_776 : decode cL_law 776 = .ok (.iadd, 1) := by decide +kernel
theorem dL_law_777 : decode cL_law 777 = .ok (.iaload, 1) := by decide +kernel
theorem dL_law_778 : decode cL_law 778 = .ok (.invokevirtual 100, 3) := by decide +kernel
theorem dL_law_781 : decode cL_law 781 = .ok (.aload_n 2, 1) := by decide +kernel
theorem dL_law_782 : decode cL_law 782 = .ok (.aload_n 0, 1) := by decide +kernel
theorem dL_law_783 : decode cL_law 783 = .ok (.iload_n 3, 1) := by decide +kernel
theorem dL_law_784 : decode cL_law 784 = .ok (.iconst 1, 1) := by decide +kernel
theorem dL_law_785 : decode cL_law 785 = .ok (.iadd, 1) := by decide +kernel
theorem dL_law_786 : decode cL_law 786 = .ok (.iaload, 1) := by decide +kernel
theorem dL_law_787 : decode cL_law 787 = .ok (.aload_n 0, 1) := by decide +kernel
theorem dL_law_788 : decode cL_law 788 = .ok (.iload_n 3, 1) := by decide +kernel
theorem dL_law_789 : decode cL_law 789 = .ok (.iconst 2, 1) := by decide +kernel
theorem dL_law_790 : decode cL_law 790 = .ok (.iadd, 1) := by decide +kernel
theorem dL_law_791 : decode cL_law 791 = .ok (.iaload, 1) := by decide +kernel
theorem dL_law_792 : decode cL_law 792 = .ok (.invokevirtual 103, 3) := by decide +kernel
theorem dL_law_795 : decode cL_law 795 = .ok (.if_icmp .eq 281, 3) := by decide +kernel
theorem dL_law_798 : decode cL_law 798 = .ok (.iconst 0, 1) := by decide +kernel
theorem dL_law_799 : decode cL_law 799 = .ok (.ireturn, 1) := by decide +kernel
theorem dL_law_800 : decode cL_law 800 = .ok (.aload_n 1, 1) := by decide +kernel
theorem dL_law_801 : decode cL_law 801 = .ok (.aload_n 0, 1) := by decide +kernel
theorem dL_law_802 : decode cL_law 802 = .ok (.iload_n 3, 1) := by decide +kernel
theorem dL_law_803 : decode cL_law 803 = .ok (.iconst 1, 1) := by decide +kernel
theorem dL_law_804 : decode cL_law 804 = .ok (.iadd, 1) := by decide +kernel
theorem dL_law_805 : decode cL_law 805 = .ok (.iaload, 1) := by decide +kernel
theorem dL_law_806 : decode cL_law 806 = .ok (.invokevirtual 104, 3) := by decide +kernel
theorem dL_law_809 : decode cL_law 809 = .ok (.aload_n 2, 1) := by decide +kernel
theorem dL_law_810 : decode cL_law 810 = .ok (.aload_n 0, 1) := by decide +kernel
theorem dL_law_811 : decode cL_law 811 = .ok (.iload_n 3, 1) := by decide +kernel
theorem dL_law_812 : decode cL_law 812 = .ok (.iconst 1, 1) := by decide +kernel
theorem dL_law_813 : decode cL_law 813 = .ok (.iadd, 1) := by decide +kernel
theorem dL_law_814 : decode cL_law 814 = .ok (.iaload, 1) := by decide +kernel
theorem dL_law_815 : decode cL_law 815 = .ok (.invokevirtual 107, 3) := by decide +kernel
theorem dL_law_818 : decode cL_law 818 = .ok (.if_icmp .eq 258, 3) := by decide +kernel
theorem dL_law_821 : decode cL_law 821 = .ok (.iconst 0, 1) := by decide +kernel
theorem dL_law_822 : decode cL_law 822 = .ok (.ireturn, 1) := by decide +kernel
theorem dL_law_823 : decode cL_law 823 = .ok (.aload_n 1, 1) := by decide +kernel
theorem dL_law_824 : decode cL_law 824 = .ok (.aload_n 0, 1) := by decide +kernel
theorem dL_law_825 : decode cL_law 825 = .ok (.iload_n 3, 1) := by decide +kernel
theorem dL_law_826 : decode cL_law 826 = .ok (.iconst 1, 1) := by decide +kernel
theorem dL_law_827 : decode cL_law 827 = .ok (.iadd, 1) := by decide +kernel
theorem dL_law_828 : decode cL_law 828 = .ok (.iaload, 1) := by decide +kernel
theorem dL_law_829 : decode cL_law 829 = .ok (.invokevirtual 108, 3) := by decide +kernel
theorem dL_law_832 : decode cL_law 832 = .ok (.aload_n 2, 1) := by decide +kernel
theorem dL_law_833 : decode cL_law 833 = .ok (.aload_n 0, 1) := by decide +kernel
theorem dL_law_834 : decode cL_law 834 = .ok (.iload_n 3, 1) := by decide +kernel
theorem dL_law_835 : decode cL_law 835 = .ok (.iconst 1, 1) := by decide +kernel
theorem dL_law_836 : decode cL_law 836 = .ok (.iadd, 1) := by decide +kernel
theorem dL_law_837 : decode cL_law 837 = .ok (.iaload, 1) := by decide +kernel
theorem dL_law_838 : decode cL_law 838 = .ok (.invokevirtual 111, 3) := by decide +kernel
theorem dL_law_841 : decode cL_law 841 = .ok (.if_icmp .eq 235, 3) := by decide +kernel
theorem dL_law_844 : decode cL_law 844 = .ok (.iconst 0, 1) := by decide +kernel
theorem dL_law_845 : decode cL_law 845 = .ok (.ireturn, 1) := by decide +kernel
theorem dL_law_846 : decode cL_law 846 = .ok (.aload_n 1, 1) := by decide +kernel
theorem dL_law_847 : decode cL_law 847 = .ok (.aload_n 0, 1) := by decide +kernel
theorem dL_law_848 : decode cL_law 848 = .ok (.iload_n 3, 1) := by decide +kernel
theorem dL_law_849 : decode cL_law 849 = .ok (.iconst 1, 1) := by decide +kernel
theorem dL_law_850 : decode cL_law 850 = .ok (.iadd, 1) := by decide +kernel
theorem dL_law_851 : decode cL_law 851 = .ok (.iaload, 1) := by decide +kernel
theorem dL_law_852 : decode cL_law 852 = .ok (.invokevirtual 112, 3) := by decide +kernel
theorem dL_law_855 : decode cL_law 855 = .ok (.aload_n 2, 1) := by decide +kernel
theorem dL_law_856 : decode cL_law 856 = .ok (.aload_n 0, 1) := by decide +kernel
theorem dL_law_857 : decode cL_law 857 = .ok (.iload_n 3, 1) := by decide +kernel
theorem dL_law_858 : decode cL_law 858 = .ok (.iconst 1, 1) := by decide +kernel
theorem dL_law_859 : decode cL_law 859 = .ok (.iadd, 1) := by decide +kernel
theorem dL_law_860 : decode cL_law 860 = .ok (.iaload, 1) := by decide +kernel
theorem dL_law_861 : decode cL_law 861 = .ok (.invokevirtual 115, 3) := by decide +kernel
theorem dL_law_864 : decode cL_law 864 = .ok (.if_icmp .eq 212, 3) := by decide +kernel
theorem dL_law_867 : decode cL_law 867 = .ok (.iconst 0, 1) := by decide +kernel
theorem dL_law_868 : decode cL_law 868 = .ok (.ireturn, 1) := by decide +kernel
theorem dL_law_869 : decode cL_law 869 = .ok (.aload_n 1, 1) := by decide +kernel
theorem dL_law_870 : decode cL_law 870 = .ok (.aload_n 0, 1) := by decide +kernel
theorem dL_law_871 : decode cL_law 871 = .ok (.iload_n 3, 1) := by decide +kernel
theorem dL_law_872 : decode cL_law 872 = .ok (.iconst 1, 1) := by decide +kernel
theorem dL_law_873 : decode cL_law 873 = .ok (.iadd, 1) := by decide +kernel
theorem dL_law_874 : decode cL_law 874 = .ok (.iaload, 1) := by decide +kernel
theorem dL_law_875 : decode cL_law 875 = .ok (.invokevirtual 116, 3) := by decide +kernel
theorem dL_law_878 : decode cL_law 878 = .ok (.aload_n 2, 1) := by decide +kernel
theorem dL_law_879 : decode cL_law 879 = .ok (.aload_n 0, 1) := by decide +kernel
theorem dL_law_880 : decode cL_law 880 = .ok (.iload_n 3, 1) := by decide +kernel
theorem dL_law_881 : decode cL_law 881 = .ok (.iconst 1, 1) := by decide +kernel
theorem dL_law_882 : decode cL_law 882 = .ok (.iadd, 1) := by decide +kernel
theorem dL_law_883 : decode cL_law 883 = .ok (.iaload, 1) := by decide +kernel
theorem dL_law_884 : decode cL_law 884 = .ok (.invokevirtual 119, 3) := by decide +kernel
theorem dL_law_887 : decode cL_law 887 = .ok (.if_icmp .eq 189, 3) := by decide +kernel
theorem dL_law_890 : decode cL_law 890 = .ok (.iconst 0, 1) := by decide +kernel
theorem dL_law_891 : decode cL_law 891 = .ok (.ireturn, 1) := by decide +kernel
theorem dL_law_892 : decode cL_law 892 = .ok (.aload_n 1, 1) := by decide +kernel
theorem dL_law_893 : decode cL_law 893 = .ok (.invokevirtual 120, 3) := by decide +kernel
theorem dL_law_896 : decode cL_law 896 = .ok (.aload_n 2, 1) := by decide +kernel
theorem dL_law_897 : decode cL_law 897 = .ok (.invokevirtual 124, 3) := by decide +kernel
theorem dL_law_900 : decode cL_law 900 = .ok (.if_icmp .eq 176, 3) := by decide +kernel
theorem dL_law_903 : decode cL_law 903 = .ok (.iconst 0, 1) := by decide +kernel
theorem dL_law_904 : decode cL_law 904 = .ok (.ireturn, 1) := by decide +kernel
theorem dL_law_905 : decode cL_law 905 = .ok (.aload_n 1, 1) := by decide +kernel
theorem dL_law_906 : decode cL_law 906 = .ok (.aload_n 0, 1) := by decide +kernel
theorem dL_law_907 : decode cL_law 907 = .ok (.iload_n 3, 1) := by decide +kernel
theorem dL_law_908 : decode cL_law 908 = .ok (.iconst 1, 1) := by decide +kernel
theorem dL_law_909 : decode cL_law 909 = .ok (.iadd, 1) := by decide +kernel
theorem dL_law_910 : decode cL_law 910 = .ok (.iaload, 1) := by decide +kernel
theorem dL_law_911 : decode cL_law 911 = .ok (.invokevirtual 125, 3) := by decide +kernel
theorem dL_law_914 : decode cL_law 914 = .ok (.aload_n 2, 1) := by decide +kernel
theorem dL_law_915 : decode cL_law 915 = .ok (.aload_n 0, 1) := by decide +kernel
theorem dL_law_916 : decode cL_law 916 = .ok (.iload_n 3, 1) := by decide +kernel
theorem dL_law_917 : decode cL_law 917 = .ok (.iconst 1, 1) := by decide +kernel
theorem dL_law_918 : decode cL_law 918 = .ok (.iadd, 1) := by decide +kernel
theorem dL_law_919 : decode cL_law 919 = .ok (.iaload, 1) := by decide +kernel
theorem dL_law_920 : decode cL_law 920 = .ok (.invokevirtual 128, 3) := by decide +kernel
theorem dL_law_923 : decode cL_law 923 = .ok (.if_icmp .eq 153, 3) := by decide +kernel
theorem dL_law_926 : decode cL_law 926 = .ok (.iconst 0, 1) := by decide +kernel
theorem dL_law_927 : decode cL_law 927 = .ok (.ireturn, 1) := by decide +kernel
theorem dL_law_928 : decode cL_law 928 = .ok (.aload_n 1, 1) := by decide +kernel
theorem dL_law_929 : decode cL_law 929 = .ok (.aload_n 0, 1) := by decide +kernel
theorem dL_law_930 : decode cL_law 930 = .ok (.iload_n 3, 1) := by decide +kernel
theorem dL_law_931 : decode cL_law 931 = .ok (.iconst 1, 1) := by decide +kernel
theorem dL_law_932 : decode cL_law 932 = .ok (.iadd, 1) := by decide +kernel
theorem dL_law_933 : decode cL_law 933 = .ok (.iaload, 1) := by decide +kernel
theorem dL_law_934 : decode cL_law 934 = .ok (.aload_n 0, 1) := by decide +kernel
theorem dL_law_935 : decode cL_law 935 = .ok (.iload_n 3, 1) := by decide +kernel
theorem dL_law_936 : decode cL_law 936 = .ok (.iconst 2, 1) := by decide +kernel
theorem dL_law_937 : decode cL_law 937 = .ok (.iadd, 1) := by decide +kernel
theorem dL_law_938 : decode cL_law 938 = .ok (.iaload, 1) := by decide +kernel
theorem dL_law_939 : decode cL_law 939 = .ok (.invokevirtual 129, 3) := by decide +kernel
theorem dL_law_942 : decode cL_law 942 = .ok (.aload_n 2, 1) := by decide +kernel
theorem dL_law_943 : decode cL_law 943 = .ok (.aload_n 0, 1) := by decide +kernel
theorem dL_law_944 : decode cL_law 944 = .ok (.iload_n 3, 1) := by decide +kernel
theorem dL_law_945 : decode cL_law 945 = .ok (.iconst 1, 1) := by decide +kernel
theorem dL_law_946 : decode cL_law 946 = .ok (.iadd, 1) := by decide +kernel
theorem dL_law_947 : decode cL_law 947 = .ok (.iaload, 1) := by decide +kernel
theorem dL_law_948 : decode cL_law 948 = .ok (.aload_n 0, 1) := by decide +kernel
theorem dL_law_949 : decode cL_law 949 = .ok (.iload_n 3, 1) := by decide +kernel
theorem dL_law_950 : decode cL_law 950 = .ok (.iconst 2, 1) := by decide +kernel
theorem dL_law_951 : decode cL_law 951 = .ok (.iadd, 1) := by decide +kernel
theorem dL_law_952 : decode cL_law 952 = .ok (.iaload, 1) := by decide +kernel
theorem dL_law_953 : decode cL_law 953 = .ok (.invokevirtual 132, 3) := by decide +kernel
theorem dL_law_956 : decode cL_law 956 = .ok (.if_icmp .eq 120, 3) := by decide +kernel
theorem dL_law_959 : decode cL_law 959 = .ok (.iconst 0, 1) := by decide +kernel
theorem dL_law_960 : decode cL_law 960 = .ok (.ireturn, 1) := by decide +kernel
theorem dL_law_961 : decode cL_law 961 = .ok (.aload_n 1, 1) := by decide +kernel
theorem dL_law_962 : decode cL_law 962 = .ok (.aload_n 0, 1) := by decide +kernel
theorem dL_law_963 : decode cL_law 963 = .ok (.iload_n 3, 1) := by decide +kernel
theorem dL_law_964 : decode cL_law 964 = .ok (.iconst 1, 1) := by decide +kernel
theorem dL_law_965 : decode cL_law 965 = .ok (.iadd, 1) := by decide +kernel
theorem dL_law_966 : decode cL_law 966 = .ok (.iaload, 1) := by decide +kernel
theorem dL_law_967 : decode cL_law 967 = .ok (.invokevirtual 133, 3) := by decide +kernel
theorem dL_law_970 : decode cL_law 970 = .ok (.aload_n 2, 1) := by decide +kernel
theorem dL_law_971 : decode cL_law 971 = .ok (.aload_n 0, 1) := by decide +kernel
theorem dL_law_972 : decode cL_law 972 = .ok (.iload_n 3, 1) := by decide +kernel
theorem dL_law_973 : decode cL_law 973 = .ok (.iconst 1, 1) := by decide +kernel
theorem dL_law_974 : decode cL_law 974 = .ok (.iadd, 1) := by decide +kernel
theorem dL_law_975 : decode cL_law 975 = .ok (.iaload, 1) := by decide +kernel
theorem dL_law_976 : decode cL_law 976 = .ok (.invokevirtual 136, 3) := by decide +kernel
theorem dL_law_979 : decode cL_law 979 = .ok (.if_icmp .eq 97, 3) := by decide +kernel
theorem dL_law_982 : decode cL_law 982 = .ok (.iconst 0, 1) := by decide +kernel
theorem dL_law_983 : decode cL_law 983 = .ok (.ireturn, 1) := by decide +kernel
theorem dL_law_984 : decode cL_law 984 = .ok (.aload_n 1, 1) := by decide +kernel
theorem dL_law_985 : decode cL_law 985 = .ok (.aload_n 0, 1) := by decide +kernel
theorem dL_law_986 : decode cL_law 986 = .ok (.iload_n 3, 1) := by decide +kernel
theorem dL_law_987 : decode cL_law 987 = .ok (.iconst 1, 1) := by decide +kernel
theorem dL_law_988 : decode cL_law 988 = .ok (.iadd, 1) := by decide +kernel
theorem dL_law_989 : decode cL_law 989 = .ok (.iaload, 1) := by decide +kernel
theorem dL_law_990 : decode cL_law 990 = .ok (.invokevirtual 137, 3) := by decide +kernel
theorem dL_law_993 : decode cL_law 993 = .ok (.aload_n 2, 1) := by decide +kernel
theorem dL_law_994 : decode cL_law 994 = .ok (.aload_n 0, 1) := by decide +kernel
theorem dL_law_995 : decode cL_law 995 = .ok (.iload_n 3, 1) := by decide +kernel
theorem dL_law_996 : decode cL_law 996 = .ok (.iconst 1, 1) := by decide +kernel
theorem dL_law_997 : decode cL_law 997 = .ok (.iadd, 1) := by decide +kernel
theorem dL_law_998 : decode cL_law 998 = .ok (.iaload, 1) := by decide +kernel
theorem dL_law_999 : decode cL_law 999 = .ok (.invokevirtual 140, 3) := by decide +kernel
theorem dL_law_1002 : decode cL_law 1002 = .ok (.if_icmp .eq 74, 3) := by decide +kernel
theorem dL_law_1005 : decode cL_law 1005 = .ok (.iconst 0, 1) := by decide +kernel
theorem dL_law_1006 : decode cL_law 1006 = .ok (.ireturn, 1) := by decide +kernel
theorem dL_law_1007 : decode cL_law 1007 = .ok (.aload_n 1, 1) := by decide +kernel
theorem dL_law_1008 : decode cL_law 1008 = .ok (.aload_n 0, 1) := by decide +kernel
theorem dL_law_1009 : decode cL_law 1009 = .ok (.iload_n 3, 1) := by decide +kernel
theorem dL_law_1010 : decode cL_law 1010 = .ok (.iconst 1, 1) := by decide +kernel
theorem dL_law_1011 : decode cL_law 1011 = .ok (.iadd, 1) := by decide +kernel
theorem dL_law_1012 : decode cL_law 1012 = .ok (.iaload, 1) := by decide +kernel
theorem dL_law_1013 : decode cL_law 1013 = .ok (.invokevirtual 141, 3) := by decide +kernel
theorem dL_law_1016 : decode cL_law 1016 = .ok (.aload_n 2, 1) := by decide +kernel
theorem dL_law_1017 : decode cL_law 1017 = .ok (.aload_n 0, 1) := by decide +kernel
theorem dL_law_1018 : decode cL_law 1018 = .ok (.iload_n 3, 1) := by decide +kernel
theorem dL_law_1019 : decode cL_law 1019 = .ok (.iconst 1, 1) := by decide +kernel
theorem dL_law_1020 : decode cL_law 1020 = .ok (.iadd, 1) := by decide +kernel
theorem dL_law_1021 : decode cL_law 1021 = .ok (.iaload, 1) := by decide +kernel
theorem dL_law_1022 : decode cL_law 1022 = .ok (.invokevirtual 144, 3) := by decide +kernel
theorem dL_law_1025 : decode cL_law 1025 = .ok (.if_icmp .eq 51, 3) := by decide +kernel
theorem dL_law_1028 : decode cL_law 1028 = .ok (.iconst 0, 1) := by decide +kernel
theorem dL_law_1029 : decode cL_law 1029 = .ok (.ireturn, 1) := by decide +kernel
theorem dL_law_1030 : decode cL_law 1030 = .ok (.aload_n 1, 1) := by decide +kernel
theorem dL_law_1031 : decode cL_law 1031 = .ok (.aload_n 0, 1) := by decide +kernel
theorem dL_law_1032 : decode cL_law 1032 = .ok (.iload_n 3, 1) := by decide +kernel
theorem dL_law_1033 : decode cL_law 1033 = .ok (.iconst 1, 1) := by decide +kernel
theorem dL_law_1034 : decode cL_law 1034 = .ok (.iadd, 1) := by decide +kernel
theorem dL_law_1035 : decode cL_law 1035 = .ok (.iaload, 1) := by decide +kernel
theorem dL_law_1036 : decode cL_law 1036 = .ok (.invokevirtual 145, 3) := by decide +kernel
theorem dL_law_1039 : decode cL_law 1039 = .ok (.aload_n 2, 1) := by decide +kernel
theorem dL_law_1040 : decode cL_law 1040 = .ok (.aload_n 0, 1) := by decide +kernel
theorem dL_law_1041 : decode cL_law 1041 = .ok (.iload_n 3, 1) := by decide +kernel
theorem dL_law_1042 : decode cL_law 1042 = .ok (.iconst 1, 1) := by decide +kernel
theorem dL_law_1043 : decode cL_law 1043 = .ok (.iadd, 1) := by decide +kernel
theorem dL_law_1044 : decode cL_law 1044 = .ok (.iaload, 1) := by decide +kernel
theorem dL_law_1045 : decode cL_law 1045 = .ok (.invokevirtual 148, 3) := by decide +kernel
theorem dL_law_1048 : decode cL_law 1048 = .ok (.if_icmp .eq 28, 3) := by decide +kernel
theorem dL_law_1051 : decode cL_law 1051 = .ok (.iconst 0, 1) := by decide +kernel
theorem dL_law_1052 : decode cL_law 1052 = .ok (.ireturn, 1) := by decide +kernel
theorem dL_law_1053 : decode cL_law 1053 = .ok (.aload_n 1, 1) := by decide +kernel
theorem dL_law_1054 : decode cL_law 1054 = .ok (.aload_n 0, 1) := by decide +kernel
theorem dL_law_1055 : decode cL_law 1055 = .ok (.iload_n 3, 1) := by decide +kernel
theorem dL_law_1056 : decode cL_law 1056 = .ok (.iconst 1, 1) := by decide +kernel
theorem dL_law_1057 : decode cL_law 1057 = .ok (.iadd, 1) := by decide +kernel
theorem dL_law_1058 : decode cL_law 1058 = .ok (.iaload, 1) := by decide +kernel
theorem dL_law_1059 : decode cL_law 1059 = .ok (.invokevirtual 149, 3) := by decide +kernel
theorem dL_law_1062 : decode cL_law 1062 = .ok (.aload_n 2, 1) := by decide +kernel
theorem dL_law_1063 : decode cL_law 1063 = .ok (.aload_n 0, 1) := by decide +kernel
theorem dL_law_1064 : decode cL_law 1064 = .ok (.iload_n 3, 1) := by decide +kernel
theorem dL_law_1065 : decode cL_law 1065 = .ok (.iconst 1, 1) := by decide +kernel
theorem dL_law_1066 : decode cL_law 1066 = .ok (.iadd, 1) := by decide +kernel
theorem dL_law_1067 : decode cL_law 1067 = .ok (.iaload, 1) := by decide +kernel
theorem dL_law_1068 : decode cL_law 1068 = .ok (.invokevirtual 152, 3) := by decide +kernel
theorem dL_law_1071 : decode cL_law 1071 = .ok (.if_icmp .eq 5, 3) := by decide +kernel
theorem dL_law_1074 : decode cL_law 1074 = .ok (.iconst 0, 1) := by decide +kernel
theorem dL_law_1075 : decode cL_law 1075 = .ok (.ireturn, 1) := by decide +kernel
theorem dL_law_1076 : decode cL_law 1076 = .ok (.iinc 3 4, 3) := by decide +kernel
theorem dL_law_1079 : decode cL_law 1079 = .ok (.goto (-1061), 3) := by decide +kernel
theorem dL_law_1082 : decode cL_law 1082 = .ok (.iconst 1, 1) := by decide +kernel
theorem dL_law_1083 : decode cL_law 1083 = .ok (.ireturn, 1) := by decide +kernel
