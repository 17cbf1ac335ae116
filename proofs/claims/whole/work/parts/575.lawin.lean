set_option maxRecDepth 20000 in
theorem in__r1 : ∀ w ∈ wsL_law0_r1, w ∈ lw_tbl := fun w h => (goodIn_r wsL_law0_r1 [35, 36, 22, 519, 520, 28, 193, 425, 426, 21, 427, 37, 38, 39, 40, 41, 42, 43, 44, 23, 45, 46, 47, 48] (by decide +kernel) (by decide +kernel) w h).1
set_option maxRecDepth 20000 in
theorem in__r2 : ∀ w ∈ wsL_law0_r2, w ∈ lw_tbl := fun w h => (goodIn_r wsL_law0_r2 [159, 49, 50, 24, 160, 81, 82, 25, 56, 58, 161, 162, 113, 114, 26, 163, 144, 145, 27, 164, 79, 165, 166, 167] (by decide +kernel) (by decide +kernel) w h).1
set_option maxRecDepth 20000 in
theorem in__r3 : ∀ w ∈ wsL_law0_r3, w ∈ lw_tbl := fun w h => (goodIn_r wsL_law0_r3 [168, 169, 52, 53, 54, 55, 57, 59, 80, 62, 64, 83, 84, 85, 86, 92, 93, 94, 87, 88, 89, 90, 95, 116] (by decide +kernel) (by decide +kernel) w h).1
set_option maxRecDepth 20000 in
theorem in__r4 : ∀ w ∈ wsL_law0_r4, w ∈ lw_tbl := fun w h => (goodIn_r wsL_law0_r4 [117, 118, 119, 121, 123, 125, 127, 129, 147, 148, 149, 150, 152, 521, 522, 523, 524, 528, 529, 530, 531, 533, 534, 535] (by decide +kernel) (by decide +kernel) w h).1
set_option maxRecDepth 20000 in
theorem in__r5 : ∀ w ∈ wsL_law0_r5, w ∈ lw_tbl := fun w h => (goodIn_r wsL_law0_r5 [536, 537, 538, 539, 540, 541, 542, 543, 544, 526, 194, 195, 196, 197, 198, 200, 0, 201, 202, 203, 204, 205, 586, 587] (by decide +kernel) (by decide +kernel) w h).1
set_option maxRecDepth 20000 in
theorem in__r6 : ∀ w ∈ wsL_law0_r6, w ∈ lw_tbl := fun w h => (goodIn_r wsL_law0_r6 [588, 589, 525, 527, 590, 592, 9, 593, 206, 207, 208, 209, 210, 212, 1, 213, 61, 63, 214, 215, 216, 217, 594, 595] (by decide +kernel) (by decide +kernel) w h).1
set_option maxRecDepth 20000 in
theorem in__r7 : ∀ w ∈ wsL_law0_r7, w ∈ lw_tbl := fun w h => (goodIn_r wsL_law0_r7 [596, 597, 598, 600, 10, 601, 218, 219, 220, 221, 602, 603, 604, 605, 222, 223, 224, 225, 226, 228, 2, 229, 230, 231] (by decide +kernel) (by decide +kernel) w h).1
set_option maxRecDepth 20000 in
theorem in__r8 : ∀ w ∈ wsL_law0_r8, w ∈ lw_tbl := fun w h => (goodIn_r wsL_law0_r8 [232, 233, 234, 236, 3, 237, 238, 239, 240, 241, 242, 243, 244, 245, 65, 60, 246, 247, 248, 249, 253, 255, 254, 30] (by decide +kernel) (by decide +kernel) w h).1
set_option maxRecDepth 20000 in
theorem in__r9 : ∀ w ∈ wsL_law0_r9, w ∈ lw_tbl := fun w h => (goodIn_r wsL_law0_r9 [250, 251, 29, 252, 256, 257, 258, 259, 606, 607, 608, 609, 610, 612, 11, 613, 260, 261, 262, 263, 67, 264, 265, 266] (by decide +kernel) (by decide +kernel) w h).1
set_option maxRecDepth 20000 in
theorem in__r10 : ∀ w ∈ wsL_law0_r10, w ∈ lw_tbl := fun w h => (goodIn_r wsL_law0_r10 [267, 268, 614, 615, 616, 617, 532, 618, 269, 270, 271, 272, 619, 620, 621, 622, 428, 429, 430, 431, 432, 433, 434, 435] (by decide +kernel) (by decide +kernel) w h).1
set_option maxRecDepth 20000 in
theorem in__r11 : ∀ w ∈ wsL_law0_r11, w ∈ lw_tbl := fun w h => (goodIn_r wsL_law0_r11 [436, 438, 7, 439, 440, 34, 506, 298, 299, 300, 383, 302, 303, 304, 297, 305, 306, 307, 308, 309, 623, 624, 625, 626] (by decide +kernel) (by decide +kernel) w h).1
set_option maxRecDepth 20000 in
theorem in__r12 : ∀ w ∈ wsL_law0_r12, w ∈ lw_tbl := fun w h => (goodIn_r wsL_law0_r12 [627, 629, 12, 630, 631, 633, 13, 634, 635, 637, 14, 638, 639, 641, 15, 642, 643, 645, 16, 646, 647, 649, 17, 650] (by decide +kernel) (by decide +kernel) w h).1
set_option maxRecDepth 20000 in
theorem in__r13 : ∀ w ∈ wsL_law0_r13, w ∈ lw_tbl := fun w h => (goodIn_r wsL_law0_r13 [515, 516, 517, 518, 508, 509, 510, 511, 512, 513, 514, 651, 652, 653, 654, 273, 274, 275, 276, 91, 277, 279, 4, 280] (by decide +kernel) (by decide +kernel) w h).1
set_option maxRecDepth 20000 in
theorem in__r14 : ∀ w ∈ wsL_law0_r14, w ∈ lw_tbl := fun w h => (goodIn_r wsL_law0_r14 [655, 656, 657, 658, 281, 282, 283, 284, 659, 660, 661, 662, 285, 286, 287, 288, 289, 290, 291, 292, 293, 294, 295, 296] (by decide +kernel) (by decide +kernel) w h).1
set_option maxRecDepth 20000 in
theorem in__r15 : ∀ w ∈ wsL_law0_r15, w ∈ lw_tbl := fun w h => (goodIn_r wsL_law0_r15 [301, 310, 311, 312, 313, 663, 664, 665, 666, 314, 315, 316, 317, 318, 319, 320, 321, 667, 668, 669, 670, 322, 323, 324] (by decide +kernel) (by decide +kernel) w h).1
set_option maxRecDepth 20000 in
theorem in__r16 : ∀ w ∈ wsL_law0_r16, w ∈ lw_tbl := fun w h => (goodIn_r wsL_law0_r16 [325, 326, 327, 328, 329, 330, 671, 672, 673, 674, 675, 677, 18, 678, 331, 332, 333, 334, 335, 336, 338, 5, 339, 340] (by decide +kernel) (by decide +kernel) w h).1
set_option maxRecDepth 20000 in
theorem in__r17 : ∀ w ∈ wsL_law0_r17, w ∈ lw_tbl := fun w h => (goodIn_r wsL_law0_r17 [679, 680, 681, 682, 341, 342, 343, 344, 345, 346, 347, 348, 349, 350, 352, 6, 353, 354, 683, 684, 685, 686, 687, 688] (by decide +kernel) (by decide +kernel) w h).1
set_option maxRecDepth 20000 in
theorem in__r18 : ∀ w ∈ wsL_law0_r18, w ∈ lw_tbl := fun w h => (goodIn_r wsL_law0_r18 [355, 356, 357, 358, 359, 360, 361, 362, 363, 364, 365, 366, 689, 690, 691, 692, 367, 368, 369, 370, 122, 126, 124, 128] (by decide +kernel) (by decide +kernel) w h).1
set_option maxRecDepth 20000 in
theorem in__r19 : ∀ w ∈ wsL_law0_r19, w ∈ lw_tbl := fun w h => (goodIn_r wsL_law0_r19 [371, 372, 373, 374, 375, 376, 377, 378, 379, 380, 381, 382, 693, 694, 695, 696, 697, 699, 19, 700, 384, 385, 386, 387] (by decide +kernel) (by decide +kernel) w h).1
set_option maxRecDepth 20000 in
theorem in__r20 : ∀ w ∈ wsL_law0_r20, w ∈ lw_tbl := fun w h => (goodIn_r wsL_law0_r20 [120, 130, 701, 702, 703, 704, 388, 389, 390, 391, 153, 151, 705, 706, 707, 708, 392, 393, 394, 395, 396, 397, 398, 399] (by decide +kernel) (by decide +kernel) w h).1
set_option maxRecDepth 20000 in
theorem in__r21 : ∀ w ∈ wsL_law0_r21, w ∈ lw_tbl := fun w h => (goodIn_r wsL_law0_r21 [400, 401, 402, 403, 404, 405, 406, 407, 66, 408, 709, 710, 711, 712, 713, 715, 20, 716, 409, 410, 411, 412, 413, 414] (by decide +kernel) (by decide +kernel) w h).1
set_option maxRecDepth 20000 in
theorem in__r22 : ∀ w ∈ wsL_law0_r22, w ∈ lw_tbl := fun w h => (goodIn_r wsL_law0_r22 [415, 416, 417, 418, 419, 420, 421, 422, 423, 424, 717, 718, 719, 720] (by decide +kernel) (by decide +kernel) w h).1
theorem inX4 : ∀ w ∈ wsX40, w ∈ lw_tbl := by decide +kernel
theorem inX5 : ∀ w ∈ wsX50, w ∈ lw_tbl := by decide +kernel
theorem inX0 : ∀ w ∈ wsX00, w ∈ lw_tbl := by decide +kernel
theorem inX3 : ∀ w ∈ wsX30, w ∈ lw_tbl := by decide +kernel
theorem inX2 : ∀ w ∈ wsX20, w ∈ lw_tbl := by decide +kernel
theorem inX1 : ∀ w ∈ wsX10, w ∈ lw_tbl := by decide +kernel
theorem in_x0 : ∀ w ∈ LL9.filter goodWord, w ∈ lw_tbl := by decide +kernel
theorem in_ng : ∀ w ∈ NG9, w ∈ lw_tbl := by decide +kernel
theorem wsL_law_in : ∀ w ∈ wsL_law, w ∈ lw_tbl := by
  unfold wsL_law wsL_law0
  refine List.forall_mem_append.mpr ⟨?_, in_x0⟩
  refine List.forall_mem_append.mpr ⟨?_, fun w h => absurd h List.not_mem_nil⟩
  refine List.forall_mem_append.mpr ⟨?_, inX1⟩
  refine List.forall_mem_append.mpr ⟨?_, inX2⟩
  refine List.forall_mem_append.mpr ⟨?_, inX3⟩
  refine List.forall_mem_append.mpr ⟨?_, inX0⟩
  refine List.forall_mem_append.mpr ⟨?_, inX5⟩
  refine List.forall_mem_append.mpr ⟨?_, inX4⟩
  exact (List.forall_mem_append.mpr ⟨in__r1, (List.forall_mem_append.mpr ⟨in__r2, (List.forall_mem_append.mpr ⟨in__r3, (List.forall_mem_append.mpr ⟨in__r4, (List.forall_mem_append.mpr ⟨in__r5, (List.forall_mem_append.mpr ⟨in__r6, (List.forall_mem_append.mpr ⟨in__r7, (List.forall_mem_append.mpr ⟨in__r8, (List.forall_mem_append.mpr ⟨in__r9, (List.forall_mem_append.mpr ⟨in__r10, (List.forall_mem_append.mpr ⟨in__r11, (List.forall_mem_append.mpr ⟨in__r12, (List.forall_mem_append.mpr ⟨in__r13, (List.forall_mem_append.mpr ⟨in__r14, (List.forall_mem_append.mpr ⟨in__r15, (List.forall_mem_append.mpr ⟨in__r16, (List.forall_mem_append.mpr ⟨in__r17, (List.forall_mem_append.mpr ⟨in__r18, (List.forall_mem_append.mpr ⟨in__r19, (List.forall_mem_append.mpr ⟨in__r20, (List.forall_mem_append.mpr ⟨in__r21, in__r22⟩)⟩)⟩)⟩)⟩)⟩)⟩)⟩)⟩)⟩)⟩)⟩)⟩)⟩)⟩)⟩)⟩)⟩)⟩)⟩)⟩)
