/-! ===== the words of what the law calls ===== -/
set_option maxRecDepth 100000 in
theorem gL_law_L_build : GoodIn lw_tbl (va_wsS RL 70 yL_build wsL_build) := goodIn_r _ [548, 549, 14, 550, 72, 537, 538, 14, 539, 540, 541, 542, 543, 544, 551, 552, 553, 554, 555, 556, 15, 557, 190, 558, 559, 560, 237, 239, 0, 240, 200, 198, 561, 562, 563, 22, 564, 181, 179, 565, 566, 567, 568, 180, 569, 570, 571, 572, 573, 574, 575, 576, 577, 578, 579, 580, 192, 581, 582, 583, 16, 584, 88, 90, 92, 86, 74, 585, 586, 587, 17, 588, 56, 57, 589, 590, 591, 592, 593, 594, 595, 596, 597, 598, 599, 600, 601, 602, 603, 250, 251, 252, 76, 604, 606, 10, 607, 182, 77, 79, 608, 609, 23, 610, 611, 613, 614, 615, 616, 191, 194, 91, 401, 402, 403, 404, 405, 407, 406, 24, 81, 83, 84, 408, 409, 410, 411, 51, 412, 52, 54, 55, 617, 618, 619, 620, 89, 93, 87, 58, 621, 622, 623, 624, 625, 626, 627, 628, 630, 632, 11, 633, 189, 233, 234, 235, 21, 236, 168, 634, 636, 12, 637, 638, 640, 13, 641, 201, 203, 205, 207, 209, 211, 213, 215, 217, 219, 221, 223, 183, 185, 94, 96, 98, 100, 102, 104, 106, 108, 110, 112, 114, 59, 61, 63, 65, 67, 69, 169, 171] (by decide +kernel) (by decide +kernel)
set_option maxRecDepth 100000 in
theorem gL_law_L_talks : GoodIn lw_tbl (va_wsS RL 74 yL_talks wsL_talks) := goodIn_r _ [642, 643, 14, 644, 537, 538, 14, 539, 540, 541, 542, 543, 544, 645, 646, 647, 15, 648, 191, 93, 257, 259, 1, 260, 261, 263, 2, 264, 91, 288, 290, 3, 291, 292, 293, 294, 16, 295, 90, 649, 650, 651, 652, 81, 92, 83, 84, 201, 203, 205, 207, 209, 211, 213, 215, 217, 219, 221, 223, 94, 96, 98, 100, 102, 104, 106, 108, 110, 112, 114] (by decide +kernel) (by decide +kernel)
set_option maxRecDepth 100000 in
theorem gL_law_X8_keep : GoodIn lw_tbl (wsV RL 78 RX8 yX8_keep wsX8_keep) := goodIn_r _ [502, 503, 504, 15, 505, 191, 91, 193, 194, 87, 58, 506, 507, 15, 508, 401, 402, 403, 16, 404, 88, 90, 92, 74, 405, 407, 406, 24, 76, 77, 79, 81, 83, 84, 86, 408, 409, 410, 17, 411, 51, 412, 52, 54, 55, 56, 57, 201, 203, 205, 207, 209, 211, 213, 215, 217, 219, 221, 223, 94, 96, 98, 100, 102, 104, 106, 108, 110, 112, 114, 59, 61, 63, 65, 67, 69] (by decide +kernel) (by decide +kernel)
set_option maxRecDepth 100000 in
theorem gL_law_L_cell : GoodIn lw_tbl (va_wsS RL 30 yL_cell wsL_cell) := goodIn_r _ [537, 538, 14, 539, 540] (by decide +kernel) (by decide +kernel)
set_option maxRecDepth 100000 in
theorem gL_law_L_some : GoodIn lw_tbl (va_wsS RL 34 yL_some wsL_some) := goodIn_r _ [541, 542, 14, 543, 544] (by decide +kernel) (by decide +kernel)
set_option maxRecDepth 100000 in
theorem gL_law_X8_heard : GoodIn lw_tbl (wsV RL 81 RX8 yX8_heard wsX8_heard) := goodIn_r _ [284, 285, 286, 15, 287, 191, 261, 263, 2, 15, 264, 91, 288, 290, 3, 291, 292, 293, 294, 16, 295, 90, 296, 297, 298, 299, 300, 301, 303, 4, 304, 79, 305, 269, 311, 312, 25, 313, 77, 307, 309, 5, 310, 76, 271, 272, 273, 278, 266, 267, 268, 279, 280, 23, 281, 282, 201, 203, 205, 207, 209, 211, 213, 215, 217, 219, 221, 223, 94, 96, 98, 100, 102, 104, 106, 108, 110, 112, 114] (by decide +kernel) (by decide +kernel)
set_option maxRecDepth 100000 in
theorem gL_law_X8_hush : GoodIn lw_tbl (wsV RL 83 RX8 yX8_hush wsX8_hush) := goodIn_r _ [314, 315, 316, 15, 317, 191, 261, 263, 2, 15, 264, 91, 292, 293, 294, 16, 295, 90, 318, 319, 320, 321, 322, 26, 323, 324, 325, 326, 296, 297, 298, 299, 300, 301, 303, 4, 304, 79, 305, 269, 311, 312, 25, 313, 77, 307, 309, 5, 310, 76, 271, 272, 273, 278, 266, 267, 268, 279, 280, 23, 281, 282, 327, 329, 6, 330, 199, 201, 203, 205, 207, 209, 211, 213, 215, 217, 219, 221, 223, 94, 96, 98, 100, 102, 104, 106, 108, 110, 112, 114] (by decide +kernel) (by decide +kernel)
set_option maxRecDepth 100000 in
theorem gL_law_X8_asked : GoodIn lw_tbl (wsV RL 86 RX8 yX8_asked wsX8_asked) := goodIn_r _ [513, 514, 515, 15, 516, 199, 201, 203, 205, 207, 209, 211, 213, 215, 217, 219, 221, 223] (by decide +kernel) (by decide +kernel)
set_option maxRecDepth 100000 in
theorem gL_law_L_size : GoodIn lw_tbl (va_wsS RL 90 yL_size wsL_size) := goodIn_r _ [545, 546, 14, 547] (by decide +kernel) (by decide +kernel)
set_option maxRecDepth 100000 in
theorem gL_law_X8_leak : GoodIn lw_tbl (wsV RL 93 RX8 yX8_leak wsX8_leak) := goodIn_r _ [489, 490, 491, 15, 492, 191, 91, 288, 290, 3, 15, 291, 292, 293, 294, 16, 295, 90, 493, 494, 495, 496, 497, 297, 298, 299, 300, 301, 303, 4, 304, 79, 305, 269, 311, 312, 25, 313, 77, 307, 309, 5, 310, 76, 271, 272, 273, 278, 266, 267, 268, 279, 280, 23, 281, 282, 201, 203, 205, 207, 209, 211, 213, 215, 217, 219, 221, 223, 94, 96, 98, 100, 102, 104, 106, 108, 110, 112, 114] (by decide +kernel) (by decide +kernel)
set_option maxRecDepth 100000 in
theorem gL_law_X8_tearOff : GoodIn lw_tbl (wsV RL 96 RX8 yX8_tearOff wsX8_tearOff) := goodIn_r _ [434, 435, 436, 15, 437, 438, 191, 78, 80, 199, 439, 378, 25, 379, 440, 312, 313, 75, 257, 259, 1, 15, 260, 261, 263, 2, 264, 91, 265, 266, 267, 16, 268, 269, 77, 76, 79, 271, 272, 273, 201, 203, 205, 207, 209, 211, 213, 215, 217, 219, 221, 223, 94, 96, 98, 100, 102, 104, 106, 108, 110, 112, 114] (by decide +kernel) (by decide +kernel)
set_option maxRecDepth 100000 in
theorem gL_law_X8_hears : GoodIn lw_tbl (wsV RL 99 RX8 yX8_hears wsX8_hears) := goodIn_r _ [253, 254, 255, 15, 256, 191, 80, 199, 257, 259, 1, 15, 260, 261, 263, 2, 264, 91, 265, 266, 267, 16, 268, 269, 77, 76, 79, 271, 272, 25, 273, 274, 275, 276, 277, 278, 279, 280, 23, 281, 282, 201, 203, 205, 207, 209, 211, 213, 215, 217, 219, 221, 223, 94, 96, 98, 100, 102, 104, 106, 108, 110, 112, 114] (by decide +kernel) (by decide +kernel)
set_option maxRecDepth 100000 in
theorem gL_law_X8_wall : GoodIn lw_tbl (wsV RL 102 RX8 yX8_wall wsX8_wall) := goodIn_r _ [245, 246, 247, 15, 248, 191, 89, 75, 249, 250, 251, 16, 252, 88, 76, 74, 201, 203, 205, 207, 209, 211, 213, 215, 217, 219, 221, 223, 94, 96, 98, 100, 102, 104, 106, 108, 110, 112, 114] (by decide +kernel) (by decide +kernel)
set_option maxRecDepth 100000 in
theorem gL_law_X8_cover : GoodIn lw_tbl (wsV RL 105 RX8 yX8_cover wsX8_cover) := goodIn_r _ [347, 348, 349, 15, 350, 191, 93, 237, 239, 0, 15, 240, 200, 198, 292, 293, 294, 16, 295, 90, 318, 319, 320, 321, 322, 26, 323, 324, 325, 326, 335, 336, 337, 338, 339, 340, 341, 342, 81, 83, 300, 343, 345, 7, 346, 84, 301, 303, 4, 304, 79, 305, 269, 311, 312, 25, 313, 77, 307, 309, 5, 310, 76, 271, 272, 273, 278, 266, 267, 268, 279, 280, 23, 281, 282, 327, 329, 6, 330, 199, 201, 203, 205, 207, 209, 211, 213, 215, 217, 219, 221, 223, 94, 96, 98, 100, 102, 104, 106, 108, 110, 112, 114] (by decide +kernel) (by decide +kernel)
set_option maxRecDepth 100000 in
theorem gL_law_X8_safe : GoodIn lw_tbl (wsV RL 108 RX8 yX8_safe wsX8_safe) := goodIn_r _ [331, 332, 333, 15, 334, 191, 93, 82, 85, 199, 288, 290, 3, 15, 291, 292, 293, 294, 16, 295, 90, 237, 239, 0, 240, 200, 198, 296, 297, 298, 299, 300, 301, 303, 4, 304, 79, 305, 269, 311, 312, 25, 313, 77, 307, 309, 5, 310, 76, 271, 272, 273, 278, 266, 267, 268, 279, 280, 23, 281, 282, 335, 336, 337, 338, 339, 340, 341, 342, 81, 83, 343, 345, 7, 346, 84, 201, 203, 205, 207, 209, 211, 213, 215, 217, 219, 221, 223, 94, 96, 98, 100, 102, 104, 106, 108, 110, 112, 114] (by decide +kernel) (by decide +kernel)
set_option maxRecDepth 100000 in
theorem gL_law_X8_paste : GoodIn lw_tbl (wsV RL 110 RX8 yX8_paste wsX8_paste) := goodIn_r _ [397, 398, 399, 15, 400, 191, 93, 192, 189, 197, 154, 89, 230, 231, 15, 232, 237, 239, 0, 240, 200, 198, 401, 402, 403, 16, 404, 88, 90, 92, 74, 405, 407, 406, 24, 76, 77, 79, 81, 83, 84, 86, 408, 409, 410, 17, 411, 51, 412, 52, 54, 55, 56, 57, 413, 415, 9, 416, 75, 417, 418, 419, 20, 420, 155, 153, 249, 250, 251, 252, 335, 336, 337, 338, 339, 340, 341, 342, 300, 293, 294, 295, 343, 345, 7, 346, 301, 303, 4, 304, 305, 269, 311, 312, 25, 313, 307, 309, 5, 310, 271, 272, 273, 278, 266, 267, 268, 279, 280, 23, 281, 282, 421, 422, 423, 424, 425, 426, 427, 21, 428, 166, 433, 429, 430, 431, 432, 168, 201, 203, 205, 207, 209, 211, 213, 215, 217, 219, 221, 223, 94, 96, 98, 100, 102, 104, 106, 108, 110, 112, 114, 156, 158, 59, 61, 63, 65, 67, 69, 169, 171] (by decide +kernel) (by decide +kernel)
set_option maxRecDepth 100000 in
theorem gL_law_X8_at : GoodIn lw_tbl (wsV RL 113 RX8 yX8_at wsX8_at) := goodIn_r _ [226, 227, 228, 15, 229, 189, 167, 199, 230, 231, 15, 232, 233, 234, 235, 21, 236, 168, 237, 239, 0, 240, 200, 198, 241, 242, 243, 244, 201, 203, 205, 207, 209, 211, 213, 215, 217, 219, 221, 223, 169, 171] (by decide +kernel) (by decide +kernel)
set_option maxRecDepth 100000 in
theorem gL_law_X8_on : GoodIn lw_tbl (wsV RL 116 RX8 yX8_on wsX8_on) := goodIn_r _ [509, 510, 511, 15, 512, 194, 191, 193, 87, 58, 506, 507, 15, 508, 237, 239, 0, 240, 200, 198, 401, 402, 403, 16, 404, 88, 90, 92, 74, 405, 407, 406, 24, 76, 77, 79, 81, 83, 84, 86, 408, 409, 410, 17, 411, 51, 412, 52, 54, 55, 56, 57, 201, 203, 205, 207, 209, 211, 213, 215, 217, 219, 221, 223, 94, 96, 98, 100, 102, 104, 106, 108, 110, 112, 114, 59, 61, 63, 65, 67, 69] (by decide +kernel) (by decide +kernel)
set_option maxRecDepth 100000 in
theorem gL_law_X8_most : GoodIn lw_tbl (wsV RL 119 RX8 yX8_most wsX8_most) := goodIn_r _ [388, 389, 390, 15, 391, 195, 191, 367, 368, 369, 18, 370, 124, 125, 371, 356, 357, 16, 358, 92, 372, 360, 361, 362, 81, 339, 340, 341, 342, 83, 300, 293, 294, 295, 90, 343, 345, 7, 346, 84, 301, 303, 4, 304, 79, 305, 269, 311, 312, 25, 313, 77, 307, 309, 5, 310, 76, 271, 272, 273, 278, 266, 267, 268, 279, 280, 23, 281, 282, 373, 375, 8, 376, 377, 378, 379, 392, 393, 394, 395, 396, 322, 26, 323, 324, 325, 326, 327, 329, 6, 15, 330, 199, 321, 201, 203, 205, 207, 209, 211, 213, 215, 217, 219, 221, 223, 126, 128, 94, 96, 98, 100, 102, 104, 106, 108, 110, 112, 114] (by decide +kernel) (by decide +kernel)
set_option maxRecDepth 100000 in
theorem gL_law_X8_turns : GoodIn lw_tbl (wsV RL 122 RX8 yX8_turns wsX8_turns) := goodIn_r _ [363, 364, 365, 15, 366, 195, 191, 199, 367, 368, 369, 18, 370, 124, 125, 371, 356, 357, 16, 358, 92, 372, 360, 361, 362, 81, 339, 340, 341, 342, 83, 300, 293, 294, 295, 90, 343, 345, 7, 346, 84, 301, 303, 4, 304, 79, 305, 269, 311, 312, 25, 313, 77, 307, 309, 5, 310, 76, 271, 272, 273, 278, 266, 267, 268, 279, 280, 23, 281, 282, 373, 375, 8, 376, 377, 378, 379, 380, 381, 382, 383, 384, 385, 386, 387, 201, 203, 205, 207, 209, 211, 213, 215, 217, 219, 221, 223, 126, 128, 94, 96, 98, 100, 102, 104, 106, 108, 110, 112, 114] (by decide +kernel) (by decide +kernel)
set_option maxRecDepth 100000 in
theorem gL_law_X8_beside : GoodIn lw_tbl (wsV RL 125 RX8 yX8_beside wsX8_beside) := goodIn_r _ [351, 352, 353, 15, 354, 191, 355, 356, 357, 16, 358, 92, 359, 360, 361, 362, 81, 339, 340, 341, 342, 83, 300, 293, 294, 295, 90, 343, 345, 7, 346, 84, 301, 303, 4, 304, 79, 305, 269, 311, 312, 25, 313, 77, 307, 309, 5, 310, 76, 271, 272, 273, 278, 266, 267, 268, 279, 280, 23, 281, 282, 201, 203, 205, 207, 209, 211, 213, 215, 217, 219, 221, 223, 94, 96, 98, 100, 102, 104, 106, 108, 110, 112, 114] (by decide +kernel) (by decide +kernel)
set_option maxRecDepth 100000 in
theorem gL_law_X8_know : GoodIn lw_tbl (wsV RL 128 RX8 yX8_know wsX8_know) := goodIn_r _ [473, 474, 475, 15, 476, 191, 87, 445, 446, 15, 447, 452, 453, 454, 17, 455, 56, 201, 203, 205, 207, 209, 211, 213, 215, 217, 219, 221, 223, 94, 96, 98, 100, 102, 104, 106, 108, 110, 112, 114, 59, 61, 63, 65, 67, 69] (by decide +kernel) (by decide +kernel)
set_option maxRecDepth 100000 in
theorem gL_law_X8_tell : GoodIn lw_tbl (wsV RL 131 RX8 yX8_tell wsX8_tell) := goodIn_r _ [456, 457, 458, 15, 459, 191, 87, 58, 261, 263, 2, 15, 264, 91, 445, 446, 447, 452, 453, 454, 17, 455, 56, 296, 297, 298, 16, 299, 300, 293, 294, 295, 90, 301, 303, 4, 304, 79, 305, 269, 311, 312, 25, 313, 77, 307, 309, 5, 310, 76, 271, 272, 273, 278, 266, 267, 268, 279, 280, 23, 281, 282, 460, 461, 462, 463, 51, 57, 52, 54, 55, 464, 449, 450, 451, 201, 203, 205, 207, 209, 211, 213, 215, 217, 219, 221, 223, 94, 96, 98, 100, 102, 104, 106, 108, 110, 112, 114, 59, 61, 63, 65, 67, 69] (by decide +kernel) (by decide +kernel)
set_option maxRecDepth 100000 in
theorem gL_law_X8_comes : GoodIn lw_tbl (wsV RL 134 RX8 yX8_comes wsX8_comes) := goodIn_r _ [441, 442, 443, 15, 444, 191, 87, 261, 263, 2, 15, 264, 91, 445, 446, 447, 448, 449, 450, 17, 451, 56, 452, 453, 454, 455, 321, 322, 26, 323, 324, 325, 326, 201, 203, 205, 207, 209, 211, 213, 215, 217, 219, 221, 223, 94, 96, 98, 100, 102, 104, 106, 108, 110, 112, 114, 59, 61, 63, 65, 67, 69] (by decide +kernel) (by decide +kernel)
set_option maxRecDepth 100000 in
theorem gL_law_X8_spread : GoodIn lw_tbl (wsV RL 137 RX8 yX8_spread wsX8_spread) := goodIn_r _ [485, 486, 487, 15, 488, 191, 87, 91, 445, 446, 15, 447, 452, 453, 454, 17, 455, 56, 296, 297, 298, 16, 299, 300, 293, 294, 295, 90, 301, 303, 4, 304, 79, 305, 269, 311, 312, 25, 313, 77, 307, 309, 5, 310, 76, 271, 272, 273, 278, 266, 267, 268, 279, 280, 23, 281, 282, 201, 203, 205, 207, 209, 211, 213, 215, 217, 219, 221, 223, 94, 96, 98, 100, 102, 104, 106, 108, 110, 112, 114, 59, 61, 63, 65, 67, 69] (by decide +kernel) (by decide +kernel)
set_option maxRecDepth 100000 in
theorem gL_law_X8_leaks : GoodIn lw_tbl (wsV RL 140 RX8 yX8_leaks wsX8_leaks) := goodIn_r _ [498, 499, 500, 15, 501, 191, 91, 288, 290, 3, 15, 291, 292, 293, 294, 16, 295, 90, 493, 494, 495, 496, 497, 297, 298, 299, 300, 301, 303, 4, 304, 79, 305, 269, 311, 312, 25, 313, 77, 307, 309, 5, 310, 76, 271, 272, 273, 278, 266, 267, 268, 279, 280, 23, 281, 282, 201, 203, 205, 207, 209, 211, 213, 215, 217, 219, 221, 223, 94, 96, 98, 100, 102, 104, 106, 108, 110, 112, 114] (by decide +kernel) (by decide +kernel)
set_option maxRecDepth 100000 in
theorem gL_law_X8_knowsThat : GoodIn lw_tbl (wsV RL 143 RX8 yX8_knowsThat wsX8_knowsThat) := goodIn_r _ [477, 478, 479, 15, 480, 191, 87, 58, 53, 257, 259, 1, 15, 260, 261, 263, 2, 264, 91, 445, 446, 447, 274, 275, 276, 16, 277, 77, 79, 278, 266, 267, 268, 269, 76, 271, 272, 25, 273, 279, 280, 23, 281, 282, 481, 482, 483, 17, 484, 54, 51, 201, 203, 205, 207, 209, 211, 213, 215, 217, 219, 221, 223, 94, 96, 98, 100, 102, 104, 106, 108, 110, 112, 114, 59, 61, 63, 65, 67, 69] (by decide +kernel) (by decide +kernel)
set_option maxRecDepth 100000 in
theorem gL_law_X8_undo : GoodIn lw_tbl (wsV RL 146 RX8 yX8_undo wsX8_undo) := goodIn_r _ [465, 466, 467, 15, 468, 191, 87, 58, 469, 470, 471, 17, 472, 57, 55, 56, 201, 203, 205, 207, 209, 211, 213, 215, 217, 219, 221, 223, 94, 96, 98, 100, 102, 104, 106, 108, 110, 112, 114, 59, 61, 63, 65, 67, 69] (by decide +kernel) (by decide +kernel)
set_option maxRecDepth 100000 in
theorem gL_law_X8_upper : GoodIn lw_tbl (wsV RL 149 RX8 yX8_upper wsX8_upper) := goodIn_r _ [517, 518, 519, 15, 520, 191, 521, 522, 523, 16, 524, 90, 497, 297, 298, 299, 300, 293, 294, 295, 301, 303, 4, 304, 79, 305, 269, 311, 312, 25, 313, 77, 307, 309, 5, 310, 76, 271, 272, 273, 278, 266, 267, 268, 279, 280, 23, 281, 282, 525, 322, 26, 323, 324, 325, 326, 526, 527, 528, 529, 530, 531, 15, 532, 440, 201, 203, 205, 207, 209, 211, 213, 215, 217, 219, 221, 223, 94, 96, 98, 100, 102, 104, 106, 108, 110, 112, 114] (by decide +kernel) (by decide +kernel)
set_option maxRecDepth 100000 in
theorem gL_law_X8_lower : GoodIn lw_tbl (wsV RL 153 RX8 yX8_lower wsX8_lower) := goodIn_r _ [533, 534, 535, 15, 536, 191, 526, 527, 528, 16, 529, 90, 311, 312, 25, 313, 521, 522, 523, 524, 497, 297, 298, 299, 300, 293, 294, 295, 301, 303, 4, 304, 79, 305, 269, 77, 307, 309, 5, 310, 76, 271, 272, 273, 278, 266, 267, 268, 279, 280, 23, 281, 282, 525, 322, 26, 323, 324, 325, 326, 530, 531, 15, 532, 440, 201, 203, 205, 207, 209, 211, 213, 215, 217, 219, 221, 223, 94, 96, 98, 100, 102, 104, 106, 108, 110, 112, 114] (by decide +kernel) (by decide +kernel)
theorem in_idx {big : List Cond} (ws : List Cond) (ps : List Nat) (hp : ws = ps.filterMap (fun i => big[i]?)) : ∀ w ∈ ws, w ∈ big := by
  intro w hw
  rw [hp] at hw
  obtain ⟨i, -, hi⟩ := List.mem_filterMap.mp hw
  exact List.mem_of_getElem? hi
set_option maxRecDepth 100000 in
theorem gL_X8_init : GoodIn lw_tbl wsX8_init := goodIn_r _ [31, 32, 33, 34, 35, 189, 37, 190, 39, 40, 16, 191, 192, 193, 131, 194, 118, 119, 18, 195, 132, 133, 19, 196, 147, 148, 20, 197, 72, 198, 161, 21, 174, 22, 41, 42, 43, 44, 74, 76, 77, 79, 81, 83, 84, 45, 46, 17, 86, 47, 48, 49, 50, 51, 52, 54, 73, 55, 120, 121, 122, 123, 124, 125, 134, 135, 136, 137, 138, 139, 149, 150, 151, 152, 153, 162, 163, 164, 165, 166, 168, 175, 176, 177, 178, 188, 179, 181, 201, 203, 205, 207, 209, 211, 213, 215, 217, 219, 221, 223, 94, 96, 98, 100, 102, 104, 106, 108, 110, 112, 114, 126, 128, 140, 142, 144, 156, 158, 169, 171, 183, 185, 59, 61, 63, 65, 67, 69] (by decide +kernel) (by decide +kernel)
set_option maxRecDepth 100000 in
theorem uin_X0 : ∀ w ∈ u_ws RX0 TX0 3, w ∈ lw_tbl := in_idx _ [140, 142, 144] (by decide +kernel)
set_option maxRecDepth 100000 in
theorem uin_X1 : ∀ w ∈ u_ws RX1 TX1 6, w ∈ lw_tbl := in_idx _ [59, 61, 63, 65, 67, 69] (by decide +kernel)
set_option maxRecDepth 100000 in
theorem uin_X3 : ∀ w ∈ u_ws RX3 TX3 2, w ∈ lw_tbl := in_idx _ [126, 128] (by decide +kernel)
set_option maxRecDepth 100000 in
theorem uin_X4 : ∀ w ∈ u_ws RX4 TX4 2, w ∈ lw_tbl := in_idx _ [169, 171] (by decide +kernel)
set_option maxRecDepth 100000 in
theorem uin_X5 : ∀ w ∈ u_ws RX5 TX5 2, w ∈ lw_tbl := in_idx _ [156, 158] (by decide +kernel)
set_option maxRecDepth 100000 in
theorem uin_X6 : ∀ w ∈ u_ws RX6 TX6 11, w ∈ lw_tbl := in_idx _ [94, 96, 98, 100, 102, 104, 106, 108, 110, 112, 114] (by decide +kernel)
set_option maxRecDepth 100000 in
theorem uin_X7 : ∀ w ∈ u_ws RX7 TX7 2, w ∈ lw_tbl := in_idx _ [183, 185] (by decide +kernel)
set_option maxRecDepth 100000 in
theorem uin_X8 : ∀ w ∈ u_ws RX8 TX8 12, w ∈ lw_tbl := in_idx _ [201, 203, 205, 207, 209, 211, 213, 215, 217, 219, 221, 223] (by decide +kernel)
theorem arr_c {args : Array Value} {s : State} {ty : FieldType} (h : (Cond.arrayClass ty).before args s = true) (hty : ∀ n, ty ≠ .object n) : ∃ c, ArrOfT s c ty ∧ va_RA s c ty := by
  obtain ⟨c, k, comp, h1, h2, h3⟩ := Cond.arrayClass_spec h
  refine ⟨c, fun N z => ⟨(fun k h => by cases h), k, h2, comp, h3⟩, ?_⟩
  cases ty with
  | object n => exact absurd rfl (hty n)
  | _ => exact h1
theorem arr_o {args : Array Value} {s : State} {n : String} (h : (Cond.arrayOver (.object n)).before args s = true) : ∃ c, ArrOfT s c (.object n) ∧ va_RA s c (.object n) := by
  obtain ⟨comp, c, k, h1, h2, h3, h4, h5⟩ := Cond.arrayOver_spec h
  exact ⟨c, fun N z => ⟨(fun k h => by cases h), k, h3, comp, h4⟩, k, comp, h3, h4, h1, h5⟩
set_option maxHeartbeats 4000000 in
set_option maxRecDepth 100000 in
theorem known_all {args : Array Value} {s : State} (hts : ∀ w ∈ lw_tbl, w.before args s = true) : ∃ (D : va_G) (ca : Nat → ClassId), ∀ (am : Nat → Nat) (r : (Nat → Nat) × Nat × Nat × Nat × (Nat → Int32)), va_K D vwCl (tysOf (D, am, ca, r)) s := by
  obtain ⟨c0, i0, h0⟩ := u_known hts uin_X0 (hts (.instantiable RX0 3) (by decide +kernel))
  obtain ⟨c1, i1, h1⟩ := u_known hts uin_X1 (hts (.instantiable RX1 6) (by decide +kernel))
  obtain ⟨c2, i2, h2⟩ := u_known hts uin_X3 (hts (.instantiable RX3 2) (by decide +kernel))
  obtain ⟨c3, i3, h3⟩ := u_known hts uin_X4 (hts (.instantiable RX4 2) (by decide +kernel))
  obtain ⟨c4, i4, h4⟩ := u_known hts uin_X5 (hts (.instantiable RX5 2) (by decide +kernel))
  obtain ⟨c5, i5, h5⟩ := u_known hts uin_X6 (hts (.instantiable RX6 11) (by decide +kernel))
  obtain ⟨c6, i6, h6⟩ := u_known hts uin_X7 (hts (.instantiable RX7 2) (by decide +kernel))
  obtain ⟨c7, i7, h7⟩ := u_known hts uin_X8 (hts (.instantiable RX8 12) (by decide +kernel))
  obtain ⟨a0, g0⟩ := arr_c (hts (.arrayClass .int) (by decide +kernel)) (fun n h => by cases h)
  obtain ⟨a1, g1⟩ := arr_c (hts (.arrayClass .byte) (by decide +kernel)) (fun n h => by cases h)
  obtain ⟨a2, g2⟩ := arr_c (hts (.arrayClass .boolean) (by decide +kernel)) (fun n h => by cases h)
  obtain ⟨a3, g3⟩ := arr_c (hts (.arrayClass .long) (by decide +kernel)) (fun n h => by cases h)
  obtain ⟨a4, g4⟩ := arr_o (hts (.arrayOver (.object "PaperWalls$Row")) (by decide +kernel))
  obtain ⟨a5, g5⟩ := arr_o (hts (.arrayOver (.object "PaperWalls$Text")) (by decide +kernel))
  obtain ⟨a6, g6⟩ := arr_o (hts (.arrayOver (.object "PaperWalls$Street")) (by decide +kernel))
  refine ⟨(fun c => match c with | 0 => c0 | 1 => c1 | 2 => c2 | 3 => c3 | 4 => c4 | 5 => c5 | 6 => c6 | _ => c7, fun c => match c with | 0 => i0 | 1 => i1 | 2 => i2 | 3 => i3 | 4 => i4 | 5 => i5 | 6 => i6 | _ => i7), fun c => match c with | 0 => a0 | 1 => a1 | 2 => a2 | 3 => a3 | 4 => a4 | 5 => a5 | _ => a6, fun am r => ⟨fun c q hq => ?_, fun k q hq => ?_⟩⟩
  · match c, hq with
    | 0, hq => cases hq; exact h0
    | 1, hq => cases hq; exact h1
    | 2, hq => cases hq; exact h2
    | 3, hq => cases hq; exact h3
    | 4, hq => cases hq; exact h4
    | 5, hq => cases hq; exact h5
    | 6, hq => cases hq; exact h6
    | 7, hq => cases hq; exact h7
    | c + 8, hq => exact absurd (List.getElem?_eq_some_iff.mp hq).1 (by show ¬ c + 8 < 8; omega)
  · match k, hq with
    | 0, hq => cases hq; exact g0
    | 1, hq => cases hq; exact g1
    | 2, hq => cases hq; exact g2
    | 3, hq => cases hq; exact g3
    | 4, hq => cases hq; exact g4
    | 5, hq => cases hq; exact g5
    | 6, hq => cases hq; exact g6
    | k + 7, hq => exact absurd (List.getElem?_eq_some_iff.mp hq).1 (by show ¬ k + 7 < 7; omega)
theorem sta {args : Array Value} {s : State} {n : String} {f : Nat → Int32} {A : Nat → Prop} (hl : (Cond.laysStatic "PaperWalls$Kinds" n "[I").before args s = true) (hini : (Cond.initialized "PaperWalls$Kinds").before args s = true) (harr : (Cond.arrayOf (.static "PaperWalls$Kinds" n "[I") .int).before args s = true) (hlen : (Cond.eq (.length (.static "PaperWalls$Kinds" n "[I")) (.int 6)).before args s = true) (hel : ∀ j, j < 6 → (Cond.eq (.elem (.static "PaperWalls$Kinds" n "[I") (.int (Int32.ofNat j))) (.int (f j))).before args s = true) (hA : ∀ a : Nat, a < s.heap.size → ¬ A a) : ∃ t, va_Z "PaperWalls$Kinds" n "[I" (.ref t) A s s.heap ∧ va_T .int t 6 (fun j => .int (f j)) A s s.heap := by
  obtain ⟨t, ht, hT⟩ := va_Tof (N := 6) (f := fun j => .int (f j)) (by decide) harr (va_eqt hlen) (fun j hj => va_eqt (hel j hj)) hA
  exact ⟨t, va_Zref hl hini ht hA, hT⟩
theorem wc_len {w : WD} {S : Sg} : (wcells w S).length = w.2.1 := by
  unfold wcells
  rw [List.length_map, List.length_range]
theorem wD_AW {w : WD} {S : Sg} {A : Nat → Prop} (hD : va_D A (wcells w S)) : Ij w ∧ ∀ q, AW w q → A q := by
  refine ⟨fun i j hi hj e => hD.1 i j _ _ (wcells_get hi) (wcells_get hj) e, fun q hq => ?_⟩
  obtain ⟨k, hk, rfl⟩ := hq
  exact hD.2 k _ (wcells_get hk)
theorem va_D1 {A : Nat → Prop} {q : Nat} {e : va_E} (h : A q) : va_D A [(q, e)] := by
  have z : ∀ (k : Nat) (p : Nat × va_E), [(q, e)][k]? = some p → k = 0 ∧ p = (q, e) := fun k p hk => by
    have hl : k < 1 := (List.getElem?_eq_some_iff.mp hk).1
    obtain rfl : k = 0 := by omega
    cases hk
    exact ⟨rfl, rfl⟩
  refine ⟨fun i j p p' hi hj _ => by rw [(z i p hi).1, (z j p' hj).1], fun k p hk => ?_⟩
  rw [(z k p hk).2]
  exact h
theorem init8_blind {G : Gp} {av : List Value} {sz : Nat} {ws : va_W} : FrameBlind (va_Pc av (fun U => U.heap.size = sz ∧ va_P G.1 vwCl ws U.heap ∧ va_K G.1 vwCl (tysOf G) U ∧ va_D (fun _ => True) ws ∧ va_AO RX4 U ∧ va_AO RX7 U ∧ va_AO RX6 U)) := by
  intro a U g mk h
  obtain ⟨h0, h1, h2, h3, h4, h5, h6, h7⟩ := h
  exact ⟨h0, h1, h2, va_K.moved (u := U) (U := U.calling g mk a) (Vm.Alike.refl U.vm) h3, h4, va_AO.moved (u := U) (U := U.calling g mk a) (Vm.Alike.refl U.vm) h5, va_AO.moved (u := U) (U := U.calling g mk a) (Vm.Alike.refl U.vm) h6, va_AO.moved (u := U) (U := U.calling g mk a) (Vm.Alike.refl U.vm) h7⟩
