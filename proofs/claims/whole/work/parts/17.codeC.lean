/-! the texts of the class's methods, checked against their bytes -/
def kX7_feed : CD := [
  (0, 1, .inl (.aload_n 0)), (1, 3, .inr (1, 14, 6, 0, 1224, 0)), (4, 3, .inr (4, 73, 168, 201, 2022, 1)), (7, 3, .inl (.sipush 1040)), (10, 3, .inl (.if_icmp .lt 5)), (13, 1, .inl (.iconst 0)),
  (14, 1, .inr (11, 0, 0, 0, 0, 0)), (15, 1, .inl (.aload_n 0)), (16, 1, .inl (.iload_n 1)), (17, 3, .inr (4, 77, 1, 602, 2026, 0)), (20, 1, .inl (.aload_n 0)), (21, 1, .inl (.iload_n 2)),
  (22, 3, .inr (4, 77, 1, 602, 2026, 0)), (25, 1, .inl (.aload_n 0)), (26, 1, .inl (.iload_n 3)), (27, 3, .inr (4, 77, 1, 602, 2026, 0)), (30, 1, .inl (.aload_n 0)), (31, 2, .inl (.iload 4)),
  (33, 3, .inr (4, 77, 1, 602, 2026, 0)), (36, 1, .inl (.aload_n 0)), (37, 2, .inl (.iload 5)), (39, 3, .inr (4, 77, 1, 602, 2026, 0)), (42, 1, .inl (.iconst 1)), (43, 1, .inr (11, 0, 0, 0, 0, 0))]
set_option maxRecDepth 100000 in
theorem okX7_feed : ckM (mt mX7_feed) kX7_feed = true := by decide +kernel
def kX7_putBytes : CD := [
  (0, 2, .inl (.bipush 24)), (2, 1, .inl (.istore_n 2)), (3, 1, .inl (.iload_n 2)), (4, 3, .inl (.ifCond .lt 23)), (7, 1, .inl (.aload_n 0)), (8, 3, .inr (1, 14, 6, 0, 1224, 0)),
  (11, 1, .inl (.iload_n 1)), (12, 1, .inl (.iload_n 2)), (13, 1, .inl .ishr), (14, 3, .inl (.sipush 255)), (17, 1, .inl .iand), (18, 3, .inr (4, 80, 171, 202, 2030, 0)),
  (21, 3, .inl (.iinc 2 (-8))), (24, 3, .inl (.goto (-21))), (27, 1, .inl .return_)]
set_option maxRecDepth 100000 in
theorem okX7_putBytes : ckM (mt mX7_putBytes) kX7_putBytes = true := by decide +kernel
def kX7_end : CD := [
  (0, 1, .inl (.iload_n 1)), (1, 3, .inl (.ifCond .lt 21)), (4, 1, .inl (.iload_n 1)), (5, 1, .inl (.aload_n 0)), (6, 3, .inr (1, 14, 6, 0, 1224, 0)), (9, 3, .inr (4, 73, 168, 201, 2022, 1)),
  (12, 3, .inl (.if_icmp .gt 10)), (15, 1, .inl (.iload_n 1)), (16, 3, .inl (.sipush 1024)), (19, 3, .inl (.if_icmp .le 5)), (22, 1, .inl (.iconst 0)), (23, 1, .inr (11, 0, 0, 0, 0, 0)),
  (24, 1, .inl (.aload_n 0)), (25, 3, .inr (1, 14, 6, 0, 1224, 0)), (28, 1, .inl (.iload_n 1)), (29, 3, .inr (4, 83, 175, 202, 2035, 0)), (32, 1, .inl (.aload_n 0)), (33, 3, .inr (1, 18, 6, 1, 1225, 0)),
  (36, 1, .inl (.aload_n 0)), (37, 3, .inr (1, 14, 6, 0, 1224, 0)), (40, 3, .inr (4, 86, 178, 202, 2039, 0)), (43, 1, .inl (.aload_n 0)), (44, 3, .inr (1, 14, 6, 0, 1224, 0)), (47, 3, .inr (4, 90, 177, 201, 2048, 0)),
  (50, 1, .inl (.iconst 1)), (51, 1, .inr (11, 0, 0, 0, 0, 0))]
set_option maxRecDepth 100000 in
theorem okX7_end : ckM (mt mX7_end) kX7_end = true := by decide +kernel
def kX7_illAt : CD := [
  (0, 1, .inl (.aload_n 0)), (1, 3, .inr (0, 69, 6, 10, 1234, 0)), (4, 1, .inl .ireturn)]
set_option maxRecDepth 100000 in
theorem okX7_illAt : ckM (mt mX7_illAt) kX7_illAt = true := by decide +kernel
def kX7_word : CD := [
  (0, 1, .inl (.aload_n 0)), (1, 3, .inr (1, 36, 6, 5, 1229, 0)), (4, 1, .inl (.iload_n 1)), (5, 3, .inr (4, 138, 169, 202, 2060, 1)), (8, 1, .inl .ireturn)]
set_option maxRecDepth 100000 in
theorem okX7_word : ckM (mt mX7_word) kX7_word = true := by decide +kernel
def kX7_names : CD := [
  (0, 1, .inl (.aload_n 0)), (1, 3, .inr (1, 30, 6, 3, 1227, 0)), (4, 3, .inr (4, 104, 195, 501, 2065, 1)), (7, 1, .inl .ireturn)]
set_option maxRecDepth 100000 in
theorem okX7_names : ckM (mt mX7_names) kX7_names = true := by decide +kernel
def kX7_name : CD := [
  (0, 1, .inl (.aload_n 0)), (1, 3, .inr (1, 30, 6, 3, 1227, 0)), (4, 1, .inl (.iload_n 1)), (5, 1, .inl (.iload_n 2)), (6, 3, .inr (4, 142, 198, 503, 2073, 1)), (9, 1, .inl .ireturn)]
set_option maxRecDepth 100000 in
theorem okX7_name : ckM (mt mX7_name) kX7_name = true := by decide +kernel
def kX7_reference : CD := [
  (0, 1, .inl (.iload_n 1)), (1, 3, .inl (.ifCond .lt 12)), (4, 1, .inl (.iload_n 2)), (5, 3, .inl (.ifCond .lt 8)), (8, 1, .inl (.iload_n 2)), (9, 1, .inl (.iconst 4)),
  (10, 3, .inl (.if_icmp .le 5)), (13, 1, .inl (.iconst (-1))), (14, 1, .inl .ireturn), (15, 1, .inl (.iconst 0)), (16, 1, .inl (.istore_n 3)), (17, 1, .inl (.iconst 0)),
  (18, 2, .inl (.istore 4)), (20, 2, .inl (.iload 4)), (22, 1, .inl (.aload_n 0)), (23, 3, .inr (1, 36, 6, 5, 1229, 0)), (26, 3, .inr (4, 73, 168, 201, 2022, 1)), (29, 3, .inl (.if_icmp .ge 67)),
  (32, 1, .inl (.aload_n 0)), (33, 3, .inr (1, 36, 6, 5, 1229, 0)), (36, 2, .inl (.iload 4)), (38, 3, .inr (4, 138, 169, 202, 2060, 1)), (41, 3, .inr (4, 146, 24, 9901, 2082, 1)), (44, 2, .inl (.istore 5)),
  (46, 2, .inl (.iload 5)), (48, 1, .inl (.iconst 4)), (49, 3, .inl (.if_icmp .eq 9)), (52, 2, .inl (.iload 5)), (54, 1, .inl (.iconst 5)), (55, 3, .inl (.if_icmp .ne 21)),
  (58, 1, .inl (.iload_n 3)), (59, 1, .inl (.iload_n 1)), (60, 3, .inl (.if_icmp .ne 13)), (63, 1, .inl (.aload_n 0)), (64, 2, .inl (.iload 5)), (66, 2, .inl (.iload 4)),
  (68, 1, .inl (.iload_n 2)), (69, 3, .inr (4, 149, 8, 604, 2085, 1)), (72, 1, .inl .ireturn), (73, 3, .inl (.iinc 3 1)), (76, 2, .inl (.iload 4)), (78, 1, .inl (.aload_n 0)),
  (79, 3, .inr (1, 36, 6, 5, 1229, 0)), (82, 2, .inl (.iload 4)), (84, 3, .inr (4, 138, 169, 202, 2060, 1)), (87, 3, .inr (4, 153, 26, 9901, 2089, 1)), (90, 1, .inl .iadd), (91, 2, .inl (.istore 4)),
  (93, 3, .inl (.goto (-73))), (96, 1, .inl (.iconst (-1))), (97, 1, .inl .ireturn)]
set_option maxRecDepth 100000 in
theorem okX7_reference : ckM (mt mX7_reference) kX7_reference = true := by decide +kernel
def kX7_referencePart : CD := [
  (0, 1, .inl (.iload_n 1)), (1, 1, .inl (.iconst 4)), (2, 3, .inl (.if_icmp .ne 12)), (5, 1, .inl (.iload_n 3)), (6, 1, .inl (.iconst 2)), (7, 3, .inl (.if_icmp .le 7)),
  (10, 1, .inl (.iconst 1)), (11, 3, .inl (.goto 4)), (14, 1, .inl (.iconst 0)), (15, 2, .inl (.istore 4)), (17, 1, .inl (.aload_n 0)), (18, 3, .inr (1, 36, 6, 5, 1229, 0)),
  (21, 1, .inl (.iload_n 2)), (22, 1, .inl (.iconst 1)), (23, 1, .inl .iadd), (24, 2, .inl (.iload 4)), (26, 3, .inl (.ifCond .eq 9)), (29, 1, .inl (.iload_n 3)),
  (30, 1, .inl (.iconst 2)), (31, 1, .inl .isub), (32, 3, .inl (.goto 4)), (35, 1, .inl (.iload_n 3)), (36, 1, .inl .iadd), (37, 3, .inr (4, 138, 169, 202, 2060, 1)),
  (40, 1, .inl .ireturn)]
set_option maxRecDepth 100000 in
theorem okX7_referencePart : ckM (mt mX7_referencePart) kX7_referencePart = true := by decide +kernel
def kX7_print : CD := [
  (0, 1, .inl (.aload_n 0)), (1, 3, .inr (1, 36, 6, 5, 1229, 0)), (4, 3, .inr (4, 73, 168, 201, 2022, 1)), (7, 3, .inl (.ifCond .ne 5)), (10, 1, .inl (.iconst 0)), (11, 1, .inl .ireturn),
  (12, 1, .inl (.aload_n 0)), (13, 3, .inr (1, 65, 6, 9, 1233, 0)), (16, 3, .inr (4, 156, 123, 1, 2099, 0)), (19, 1, .inl (.aload_n 0)), (20, 3, .inr (1, 65, 6, 9, 1233, 0)), (23, 3, .inr (4, 159, 121, 1, 3061, 1)),
  (26, 1, .inl .ireturn)]
set_option maxRecDepth 100000 in
theorem okX7_print : ckM (mt mX7_print) kX7_print = true := by decide +kernel
def kX7_output : CD := [
  (0, 1, .inl (.aload_n 0)), (1, 3, .inr (1, 65, 6, 9, 1233, 0)), (4, 1, .inl (.iload_n 1)), (5, 3, .inr (4, 160, 122, 2, 3070, 1)), (8, 1, .inl .ireturn)]
set_option maxRecDepth 100000 in
theorem okX7_output : ckM (mt mX7_output) kX7_output = true := by decide +kernel
def kX7_again : CD := [
  (0, 1, .inl (.aload_n 0)), (1, 3, .inr (1, 18, 6, 1, 1225, 0)), (4, 3, .inr (4, 90, 177, 201, 2048, 0)), (7, 1, .inl (.iconst 0)), (8, 1, .inl (.istore_n 1)), (9, 1, .inl (.iload_n 1)),
  (10, 1, .inl (.aload_n 0)), (11, 3, .inr (1, 65, 6, 9, 1233, 0)), (14, 3, .inr (4, 159, 121, 1, 3061, 1)), (17, 3, .inl (.if_icmp .ge 31)), (20, 1, .inl (.iload_n 1)), (21, 3, .inl (.sipush 1024)),
  (24, 3, .inl (.if_icmp .ge 24)), (27, 1, .inl (.aload_n 0)), (28, 3, .inr (1, 18, 6, 1, 1225, 0)), (31, 1, .inl (.aload_n 0)), (32, 3, .inr (1, 65, 6, 9, 1233, 0)), (35, 1, .inl (.iload_n 1)),
  (36, 3, .inr (4, 160, 122, 2, 3070, 1)), (39, 3, .inr (4, 80, 171, 202, 2030, 0)), (42, 3, .inl (.iinc 1 1)), (45, 3, .inl (.goto (-36))), (48, 1, .inl .return_)]
set_option maxRecDepth 100000 in
theorem okX7_again : ckM (mt mX7_again) kX7_again = true := by decide +kernel
def kX7_isPlain : CD := [
  (0, 1, .inl (.iconst 0)), (1, 1, .inl (.istore_n 1)), (2, 1, .inl (.iload_n 1)), (3, 1, .inl (.aload_n 0)), (4, 3, .inr (4, 73, 168, 201, 2022, 1)), (7, 3, .inl (.if_icmp .ge 31)),
  (10, 1, .inl (.aload_n 0)), (11, 1, .inl (.iload_n 1)), (12, 3, .inr (4, 138, 169, 202, 2060, 1)), (15, 2, .inl (.bipush 32)), (17, 3, .inl (.if_icmp .lt 13)), (20, 1, .inl (.aload_n 0)),
  (21, 1, .inl (.iload_n 1)), (22, 3, .inr (4, 138, 169, 202, 2060, 1)), (25, 2, .inl (.bipush 126)), (27, 3, .inl (.if_icmp .le 5)), (30, 1, .inl (.iconst 0)), (31, 1, .inr (11, 0, 0, 0, 0, 0)),
  (32, 3, .inl (.iinc 1 1)), (35, 3, .inl (.goto (-33))), (38, 1, .inl (.iconst 1)), (39, 1, .inr (11, 0, 0, 0, 0, 0))]
set_option maxRecDepth 100000 in
theorem okX7_isPlain : ckM (mt mX7_isPlain) kX7_isPlain = true := by decide +kernel
def kX7_isDigit : CD := [
  (0, 1, .inl (.iload_n 0)), (1, 2, .inl (.bipush 48)), (3, 3, .inl (.if_icmp .lt 13)), (6, 1, .inl (.iload_n 0)), (7, 2, .inl (.bipush 57)), (9, 3, .inl (.if_icmp .gt 7)),
  (12, 1, .inl (.iconst 1)), (13, 3, .inl (.goto 4)), (16, 1, .inl (.iconst 0)), (17, 1, .inr (11, 0, 0, 0, 0, 0))]
set_option maxRecDepth 100000 in
theorem okX7_isDigit : ckM (mt mX7_isDigit) kX7_isDigit = true := by decide +kernel
def kX7_isLetter : CD := [
  (0, 1, .inl (.iload_n 0)), (1, 2, .inl (.bipush 65)), (3, 3, .inl (.if_icmp .lt 9)), (6, 1, .inl (.iload_n 0)), (7, 2, .inl (.bipush 90)), (9, 3, .inl (.if_icmp .le 15)),
  (12, 1, .inl (.iload_n 0)), (13, 2, .inl (.bipush 97)), (15, 3, .inl (.if_icmp .lt 13)), (18, 1, .inl (.iload_n 0)), (19, 2, .inl (.bipush 122)), (21, 3, .inl (.if_icmp .gt 7)),
  (24, 1, .inl (.iconst 1)), (25, 3, .inl (.goto 4)), (28, 1, .inl (.iconst 0)), (29, 1, .inr (11, 0, 0, 0, 0, 0))]
set_option maxRecDepth 100000 in
theorem okX7_isLetter : ckM (mt mX7_isLetter) kX7_isLetter = true := by decide +kernel
def kX7_isWordPart : CD := [
  (0, 1, .inl (.iload_n 0)), (1, 2, .inl (.bipush 65)), (3, 3, .inl (.if_icmp .lt 9)), (6, 1, .inl (.iload_n 0)), (7, 2, .inl (.bipush 90)), (9, 3, .inl (.if_icmp .le 39)),
  (12, 1, .inl (.iload_n 0)), (13, 2, .inl (.bipush 97)), (15, 3, .inl (.if_icmp .lt 9)), (18, 1, .inl (.iload_n 0)), (19, 2, .inl (.bipush 122)), (21, 3, .inl (.if_icmp .le 27)),
  (24, 1, .inl (.iload_n 0)), (25, 2, .inl (.bipush 48)), (27, 3, .inl (.if_icmp .lt 9)), (30, 1, .inl (.iload_n 0)), (31, 2, .inl (.bipush 57)), (33, 3, .inl (.if_icmp .le 15)),
  (36, 1, .inl (.iload_n 0)), (37, 2, .inl (.bipush 95)), (39, 3, .inl (.if_icmp .eq 9)), (42, 1, .inl (.iload_n 0)), (43, 2, .inl (.bipush 46)), (45, 3, .inl (.if_icmp .ne 7)),
  (48, 1, .inl (.iconst 1)), (49, 3, .inl (.goto 4)), (52, 1, .inl (.iconst 0)), (53, 1, .inr (11, 0, 0, 0, 0, 0))]
set_option maxRecDepth 100000 in
theorem okX7_isWordPart : ckM (mt mX7_isWordPart) kX7_isWordPart = true := by decide +kernel
def kX7_capital : CD := [
  (0, 1, .inl (.iload_n 0)), (1, 2, .inl (.bipush 97)), (3, 3, .inl (.if_icmp .lt 16)), (6, 1, .inl (.iload_n 0)), (7, 2, .inl (.bipush 122)), (9, 3, .inl (.if_icmp .gt 10)),
  (12, 1, .inl (.iload_n 0)), (13, 2, .inl (.bipush 32)), (15, 1, .inl .isub), (16, 3, .inl (.goto 4)), (19, 1, .inl (.iload_n 0)), (20, 1, .inl .ireturn)]
set_option maxRecDepth 100000 in
theorem okX7_capital : ckM (mt mX7_capital) kX7_capital = true := by decide +kernel
def kX7_wordEnd : CD := [
  (0, 1, .inl (.iload_n 1)), (1, 1, .inl (.istore_n 2)), (2, 1, .inl (.aload_n 0)), (3, 1, .inl (.iload_n 2)), (4, 3, .inr (4, 138, 169, 202, 2060, 1)), (7, 3, .inr (4, 162, 14, 9901, 3189, 1)),
  (10, 3, .inl (.ifCond .ne 13)), (13, 1, .inl (.aload_n 0)), (14, 1, .inl (.iload_n 2)), (15, 3, .inr (4, 138, 169, 202, 2060, 1)), (18, 2, .inl (.bipush 95)), (20, 3, .inl (.if_icmp .ne 28)),
  (23, 1, .inl (.iload_n 2)), (24, 1, .inl (.aload_n 0)), (25, 3, .inr (4, 73, 168, 201, 2022, 1)), (28, 3, .inl (.if_icmp .ge 20)), (31, 1, .inl (.aload_n 0)), (32, 1, .inl (.iload_n 2)),
  (33, 3, .inr (4, 138, 169, 202, 2060, 1)), (36, 3, .inr (4, 166, 15, 9901, 3192, 1)), (39, 3, .inl (.ifCond .eq 9)), (42, 3, .inl (.iinc 2 1)), (45, 3, .inl (.goto (-22))), (48, 1, .inl (.iload_n 2)),
  (49, 1, .inl .ireturn)]
set_option maxRecDepth 100000 in
theorem okX7_wordEnd : ckM (mt mX7_wordEnd) kX7_wordEnd = true := by decide +kernel
def kX7_startsWith : CD := [
  (0, 1, .inl (.iconst 0)), (1, 1, .inl (.istore_n 3)), (2, 1, .inl (.iload_n 3)), (3, 1, .inl (.aload_n 2)), (4, 3, .inr (4, 169, 203, 801, 3199, 1)), (7, 3, .inl (.if_icmp .ge 29)),
  (10, 1, .inl (.aload_n 0)), (11, 1, .inl (.iload_n 1)), (12, 1, .inl (.iload_n 3)), (13, 1, .inl .iadd), (14, 3, .inr (4, 138, 169, 202, 2060, 1)), (17, 3, .inr (4, 174, 16, 9901, 3203, 1)),
  (20, 1, .inl (.aload_n 2)), (21, 1, .inl (.iload_n 3)), (22, 3, .inr (4, 177, 204, 802, 3204, 1)), (25, 3, .inl (.if_icmp .eq 5)), (28, 1, .inl (.iconst 0)), (29, 1, .inr (11, 0, 0, 0, 0, 0)),
  (30, 3, .inl (.iinc 3 1)), (33, 3, .inl (.goto (-31))), (36, 1, .inl (.iconst 1)), (37, 1, .inr (11, 0, 0, 0, 0, 0))]
set_option maxRecDepth 100000 in
theorem okX7_startsWith : ckM (mt mX7_startsWith) kX7_startsWith = true := by decide +kernel
def kX7_isSame : CD := [
  (0, 1, .inl (.iload_n 2)), (1, 1, .inl (.iload_n 1)), (2, 1, .inl .isub), (3, 1, .inl (.aload_n 3)), (4, 3, .inr (4, 169, 203, 801, 3199, 1)), (7, 3, .inl (.if_icmp .ne 16)),
  (10, 1, .inl (.aload_n 0)), (11, 1, .inl (.iload_n 1)), (12, 1, .inl (.aload_n 3)), (13, 3, .inr (4, 181, 18, 9903, 3200, 1)), (16, 3, .inl (.ifCond .eq 7)), (19, 1, .inl (.iconst 1)),
  (20, 3, .inl (.goto 4)), (23, 1, .inl (.iconst 0)), (24, 1, .inr (11, 0, 0, 0, 0, 0))]
set_option maxRecDepth 100000 in
theorem okX7_isSame : ckM (mt mX7_isSame) kX7_isSame = true := by decide +kernel
def kX7_functionNumber : CD := [
  (0, 1, .inl (.iconst 0)), (1, 1, .inl (.istore_n 3)), (2, 1, .inl (.iload_n 3)), (3, 3, .inr (8, 185, 0, 0, 4115, 0)), (6, 1, .inr (13, 0, 0, 0, 0, 0)), (7, 3, .inl (.if_icmp .ge 28)),
  (10, 1, .inl (.aload_n 0)), (11, 1, .inl (.iload_n 1)), (12, 1, .inl (.iload_n 2)), (13, 3, .inr (8, 185, 0, 0, 4115, 0)), (16, 1, .inl (.iload_n 3)), (17, 1, .inl .aaload),
  (18, 3, .inr (10, 189, 0, 0, 7193, 0)), (21, 3, .inr (4, 195, 19, 9904, 4116, 1)), (24, 3, .inl (.ifCond .eq 5)), (27, 1, .inl (.iload_n 3)), (28, 1, .inl .ireturn), (29, 3, .inl (.iinc 3 1)),
  (32, 3, .inl (.goto (-30))), (35, 1, .inl (.iconst (-1))), (36, 1, .inl .ireturn)]
set_option maxRecDepth 100000 in
theorem okX7_functionNumber : ckM (mt mX7_functionNumber) kX7_functionNumber = true := by decide +kernel
def kX7_errorText : CD := [
  (0, 1, .inl (.iload_n 0)), (1, 43, .inl (.tableswitch 64 1 7 #[43, 46, 49, 52, 55, 58, 61])), (44, 2, .inr (7, 199, 10, 0, 2225, 0)), (46, 1, .inl .areturn), (47, 2, .inr (7, 201, 11, 0, 2226, 0)), (49, 1, .inl .areturn),
  (50, 2, .inr (7, 203, 12, 0, 2227, 0)), (52, 1, .inl .areturn), (53, 2, .inr (7, 205, 13, 0, 2228, 0)), (55, 1, .inl .areturn), (56, 2, .inr (7, 207, 14, 0, 2229, 0)), (58, 1, .inl .areturn),
  (59, 2, .inr (7, 209, 15, 0, 2230, 0)), (61, 1, .inl .areturn), (62, 2, .inr (7, 211, 16, 0, 2231, 0)), (64, 1, .inl .areturn), (65, 2, .inr (7, 213, 17, 0, 2232, 0)), (67, 1, .inl .areturn)]
set_option maxRecDepth 100000 in
theorem okX7_errorText : ckM (mt mX7_errorText) kX7_errorText = true := by decide +kernel
def kX7_operationText : CD := [
  (0, 1, .inl (.iload_n 0)), (1, 79, .inl (.tableswitch 127 0 15 #[79, 82, 85, 88, 91, 94, 97, 100, 103, 106, 109, 112, 115, 118, 121, 124])), (80, 2, .inr (7, 215, 22, 0, 3025, 0)), (82, 1, .inl .areturn), (83, 2, .inr (7, 217, 23, 0, 3026, 0)), (85, 1, .inl .areturn),
  (86, 2, .inr (7, 219, 24, 0, 3027, 0)), (88, 1, .inl .areturn), (89, 2, .inr (7, 221, 25, 0, 3028, 0)), (91, 1, .inl .areturn), (92, 2, .inr (7, 223, 26, 0, 3029, 0)), (94, 1, .inl .areturn),
  (95, 2, .inr (7, 225, 27, 0, 3030, 0)), (97, 1, .inl .areturn), (98, 2, .inr (7, 227, 28, 0, 3031, 0)), (100, 1, .inl .areturn), (101, 2, .inr (7, 229, 29, 0, 3032, 0)), (103, 1, .inl .areturn),
  (104, 2, .inr (7, 231, 30, 0, 3033, 0)), (106, 1, .inl .areturn), (107, 2, .inr (7, 233, 31, 0, 3034, 0)), (109, 1, .inl .areturn), (110, 2, .inr (7, 235, 32, 0, 3035, 0)), (112, 1, .inl .areturn),
  (113, 2, .inr (7, 237, 33, 0, 3036, 0)), (115, 1, .inl .areturn), (116, 2, .inr (7, 239, 34, 0, 3037, 0)), (118, 1, .inl .areturn), (119, 2, .inr (7, 231, 30, 0, 3033, 0)), (121, 1, .inl .areturn),
  (122, 2, .inr (7, 229, 29, 0, 3032, 0)), (124, 1, .inl .areturn), (125, 2, .inr (7, 241, 35, 0, 3038, 0)), (127, 1, .inl .areturn), (128, 2, .inr (7, 213, 17, 0, 2232, 0)), (130, 1, .inl .areturn)]
set_option maxRecDepth 100000 in
theorem okX7_operationText : ckM (mt mX7_operationText) kX7_operationText = true := by decide +kernel
def kX7_item : CD := [
  (0, 1, .inl (.iload_n 0)), (1, 2, .inl (.bipush 16)), (3, 1, .inl (.iload_n 1)), (4, 1, .inl .imul), (5, 1, .inl .iadd), (6, 1, .inl .ireturn)]
set_option maxRecDepth 100000 in
theorem okX7_item : ckM (mt mX7_item) kX7_item = true := by decide +kernel
def kX7_kindOf : CD := [
  (0, 1, .inl (.iload_n 0)), (1, 2, .inl (.bipush 15)), (3, 1, .inl .iand), (4, 1, .inl .ireturn)]
set_option maxRecDepth 100000 in
theorem okX7_kindOf : ckM (mt mX7_kindOf) kX7_kindOf = true := by decide +kernel
def kX7_xOf : CD := [
  (0, 1, .inl (.iload_n 0)), (1, 1, .inl (.iconst 4)), (2, 1, .inl .ishr), (3, 1, .inl .ireturn)]
set_option maxRecDepth 100000 in
theorem okX7_xOf : ckM (mt mX7_xOf) kX7_xOf = true := by decide +kernel
def kX7_itemSize : CD := [
  (0, 1, .inl (.iload_n 0)), (1, 3, .inr (4, 146, 24, 9901, 2082, 1)), (4, 64, .inl (.tableswitch 82 0 11 #[64, 66, 82, 82, 64, 77, 82, 82, 80, 82, 82, 80])), (68, 1, .inl (.iconst 4)), (69, 1, .inl .ireturn), (70, 1, .inl (.iconst 1)),
  (71, 1, .inl (.iload_n 0)), (72, 3, .inr (4, 243, 25, 9901, 2092, 1)), (75, 1, .inl (.iconst 3)), (76, 1, .inl .iadd), (77, 1, .inl (.iconst 4)), (78, 1, .inl .idiv),
  (79, 1, .inl .iadd), (80, 1, .inl .ireturn), (81, 2, .inl (.bipush 6)), (83, 1, .inl .ireturn), (84, 1, .inl (.iconst 2)), (85, 1, .inl .ireturn),
  (86, 1, .inl (.iconst 1)), (87, 1, .inl .ireturn)]
set_option maxRecDepth 100000 in
theorem okX7_itemSize : ckM (mt mX7_itemSize) kX7_itemSize = true := by decide +kernel
def kX1_size : CD := [
  (0, 1, .inl (.aload_n 0)), (1, 3, .inr (1, 45, 0, 9, 1199, 0)), (4, 1, .inl .arraylength), (5, 1, .inl (.aload_n 0)), (6, 3, .inr (0, 49, 0, 10, 1200, 0)), (9, 1, .inl .isub),
  (10, 1, .inl .ireturn)]
set_option maxRecDepth 100000 in
theorem okX1_size : ckM (mt mX1_size) kX1_size = true := by decide +kernel
def kX1_letter : CD := [
  (0, 1, .inl (.iload_n 1)), (1, 3, .inl (.ifCond .lt 11)), (4, 1, .inl (.iload_n 1)), (5, 1, .inl (.aload_n 0)), (6, 3, .inr (4, 53, 121, 1, 3074, 1)), (9, 3, .inl (.if_icmp .lt 5)),
  (12, 1, .inl (.iconst 0)), (13, 1, .inl .ireturn), (14, 1, .inl (.aload_n 0)), (15, 3, .inr (0, 49, 0, 10, 1200, 0)), (18, 1, .inl (.iload_n 1)), (19, 1, .inl .iadd),
  (20, 1, .inl (.istore_n 2)), (21, 1, .inl (.iload_n 2)), (22, 3, .inl (.ifCond .lt 21)), (25, 1, .inl (.iload_n 2)), (26, 1, .inl (.aload_n 0)), (27, 3, .inr (1, 45, 0, 9, 1199, 0)),
  (30, 1, .inl .arraylength), (31, 3, .inl (.if_icmp .ge 12)), (34, 1, .inl (.aload_n 0)), (35, 3, .inr (1, 45, 0, 9, 1199, 0)), (38, 1, .inl (.iload_n 2)), (39, 1, .inl .iaload),
  (40, 3, .inl (.goto 4)), (43, 1, .inl (.iconst 0)), (44, 1, .inl .ireturn)]
set_option maxRecDepth 100000 in
theorem okX1_letter : ckM (mt mX1_letter) kX1_letter = true := by decide +kernel
def kX1_run : CD := [
  (0, 1, .inl (.aload_n 0)), (1, 1, .inl (.aload_n 0)), (2, 3, .inr (1, 45, 0, 9, 1199, 0)), (5, 1, .inl .arraylength), (6, 3, .inr (2, 49, 0, 10, 1200, 0)), (9, 1, .inl (.aload_n 0)),
  (10, 3, .inr (1, 33, 0, 5, 1195, 0)), (13, 3, .inr (4, 57, 177, 201, 2103, 0)), (16, 1, .inl (.aload_n 0)), (17, 3, .inr (1, 36, 0, 6, 1196, 0)), (20, 3, .inr (4, 57, 177, 201, 2103, 0)), (23, 1, .inl (.aload_n 0)),
  (24, 3, .inr (1, 30, 0, 4, 1194, 0)), (27, 3, .inr (4, 57, 177, 201, 2103, 0)), (30, 1, .inl (.iconst 0)), (31, 1, .inl (.istore_n 1)), (32, 1, .inl (.iload_n 1)), (33, 1, .inl (.aload_n 0)),
  (34, 3, .inr (1, 9, 0, 0, 1190, 0)), (37, 3, .inr (4, 60, 168, 201, 2104, 1)), (40, 3, .inl (.if_icmp .ge 28)), (43, 1, .inl (.aload_n 0)), (44, 3, .inr (1, 30, 0, 4, 1194, 0)), (47, 1, .inl (.iload_n 1)),
  (48, 3, .inr (4, 61, 171, 202, 2105, 0)), (51, 1, .inl (.iload_n 1)), (52, 1, .inl (.aload_n 0)), (53, 3, .inr (1, 9, 0, 0, 1190, 0)), (56, 1, .inl (.iload_n 1)), (57, 3, .inr (4, 64, 169, 202, 2106, 1)),
  (60, 3, .inr (4, 68, 26, 9901, 2107, 1)), (63, 1, .inl .iadd), (64, 1, .inl (.istore_n 1)), (65, 3, .inl (.goto (-33))), (68, 1, .inl (.aload_n 0)), (69, 3, .inr (1, 30, 0, 4, 1194, 0)),
  (72, 3, .inr (4, 60, 168, 201, 2104, 1)), (75, 1, .inl (.iconst 1)), (76, 1, .inl .isub), (77, 1, .inl (.istore_n 1)), (78, 1, .inl (.iload_n 1)), (79, 3, .inl (.ifCond .lt 69)),
  (82, 1, .inl (.aload_n 0)), (83, 3, .inr (1, 30, 0, 4, 1194, 0)), (86, 1, .inl (.iload_n 1)), (87, 3, .inr (4, 64, 169, 202, 2106, 1)), (90, 1, .inl (.istore_n 2)), (91, 1, .inl (.aload_n 0)),
  (92, 1, .inl (.iload_n 2)), (93, 3, .inr (4, 71, 127, 2, 2108, 0)), (96, 1, .inl (.aload_n 0)), (97, 3, .inr (4, 74, 124, 1, 2169, 0)), (100, 1, .inl (.aload_n 0)), (101, 1, .inl (.iload_n 2)),
  (102, 3, .inr (4, 77, 126, 2, 2173, 1)), (105, 1, .inl (.istore_n 3)), (106, 1, .inl (.iload_n 3)), (107, 3, .inl (.ifCond .le 22)), (110, 1, .inl (.aload_n 0)), (111, 3, .inr (1, 33, 0, 5, 1195, 0)),
  (114, 1, .inl (.iload_n 2)), (115, 3, .inr (4, 61, 171, 202, 2105, 0)), (118, 1, .inl (.aload_n 0)), (119, 3, .inr (1, 36, 0, 6, 1196, 0)), (122, 1, .inl (.iload_n 3)), (123, 3, .inr (4, 61, 171, 202, 2105, 0)),
  (126, 3, .inl (.goto 16)), (129, 1, .inl (.aload_n 0)), (130, 1, .inl (.iload_n 2)), (131, 3, .inr (4, 80, 129, 2, 2177, 0)), (134, 1, .inl (.aload_n 0)), (135, 3, .inr (4, 74, 124, 1, 2169, 0)),
  (138, 1, .inl (.aload_n 0)), (139, 3, .inr (4, 83, 125, 1, 3045, 0)), (142, 3, .inl (.iinc 1 (-1))), (145, 3, .inl (.goto (-67))), (148, 1, .inl (.aload_n 0)), (149, 3, .inr (1, 39, 0, 7, 1197, 0)),
  (152, 2, .inl (.bipush 61)), (154, 3, .inr (4, 61, 171, 202, 2105, 0)), (157, 1, .inl (.aload_n 0)), (158, 3, .inr (4, 74, 124, 1, 2169, 0)), (161, 1, .inl .return_)]
set_option maxRecDepth 100000 in
theorem okX1_run : ckM (mt mX1_run) kX1_run = true := by decide +kernel
def kX1_putPiece : CD := [
  (0, 1, .inl (.aload_n 0)), (1, 3, .inr (1, 39, 0, 7, 1197, 0)), (4, 3, .inr (4, 60, 168, 201, 2104, 1)), (7, 1, .inl (.iconst 1)), (8, 1, .inl .isub), (9, 1, .inl (.istore_n 1)),
  (10, 1, .inl (.iload_n 1)), (11, 3, .inl (.ifCond .lt 48)), (14, 1, .inl (.aload_n 0)), (15, 3, .inr (0, 49, 0, 10, 1200, 0)), (18, 1, .inl (.iconst 1)), (19, 1, .inl .isub),
  (20, 1, .inl (.istore_n 2)), (21, 1, .inl (.iload_n 2)), (22, 3, .inl (.ifCond .lt 31)), (25, 1, .inl (.iload_n 2)), (26, 1, .inl (.aload_n 0)), (27, 3, .inr (1, 45, 0, 9, 1199, 0)),
  (30, 1, .inl .arraylength), (31, 3, .inl (.if_icmp .ge 22)), (34, 1, .inl (.aload_n 0)), (35, 3, .inr (1, 45, 0, 9, 1199, 0)), (38, 1, .inl (.iload_n 2)), (39, 1, .inl (.aload_n 0)),
  (40, 3, .inr (1, 39, 0, 7, 1197, 0)), (43, 1, .inl (.iload_n 1)), (44, 3, .inr (4, 64, 169, 202, 2106, 1)), (47, 1, .inl .iastore), (48, 1, .inl (.aload_n 0)), (49, 1, .inl (.iload_n 2)),
  (50, 3, .inr (2, 49, 0, 10, 1200, 0)), (53, 3, .inl (.iinc 1 (-1))), (56, 3, .inl (.goto (-46))), (59, 1, .inl (.aload_n 0)), (60, 3, .inr (1, 39, 0, 7, 1197, 0)), (63, 3, .inr (4, 57, 177, 201, 2103, 0)),
  (66, 1, .inl .return_)]
set_option maxRecDepth 100000 in
theorem okX1_putPiece : ckM (mt mX1_putPiece) kX1_putPiece = true := by decide +kernel
def kX1_endOperand : CD := [
  (0, 1, .inl (.aload_n 0)), (1, 3, .inr (1, 33, 0, 5, 1195, 0)), (4, 3, .inr (4, 60, 168, 201, 2104, 1)), (7, 1, .inl (.istore_n 1)), (8, 1, .inl (.iload_n 1)), (9, 3, .inl (.ifCond .le 73)),
  (12, 1, .inl (.aload_n 0)), (13, 3, .inr (1, 36, 0, 6, 1196, 0)), (16, 3, .inr (4, 86, 170, 201, 2195, 1)), (19, 1, .inl (.iconst 1)), (20, 1, .inl .isub), (21, 1, .inl (.istore_n 2)),
  (22, 1, .inl (.aload_n 0)), (23, 3, .inr (1, 33, 0, 5, 1195, 0)), (26, 3, .inr (4, 86, 170, 201, 2195, 1)), (29, 1, .inl (.istore_n 3)), (30, 1, .inl (.iload_n 2)), (31, 3, .inl (.ifCond .le 22)),
  (34, 1, .inl (.aload_n 0)), (35, 3, .inr (1, 36, 0, 6, 1196, 0)), (38, 1, .inl (.iload_n 2)), (39, 3, .inr (4, 89, 172, 202, 3049, 0)), (42, 1, .inl (.aload_n 0)), (43, 1, .inl (.iload_n 3)),
  (44, 1, .inl (.iload_n 2)), (45, 3, .inr (4, 92, 128, 3, 3053, 0)), (48, 1, .inl (.aload_n 0)), (49, 3, .inr (4, 74, 124, 1, 2169, 0)), (52, 1, .inl .return_), (53, 1, .inl (.aload_n 0)),
  (54, 3, .inr (1, 33, 0, 5, 1195, 0)), (57, 3, .inr (4, 96, 176, 201, 3057, 0)), (60, 1, .inl (.aload_n 0)), (61, 3, .inr (1, 36, 0, 6, 1196, 0)), (64, 3, .inr (4, 96, 176, 201, 3057, 0)), (67, 1, .inl (.aload_n 0)),
  (68, 1, .inl (.iload_n 3)), (69, 3, .inr (4, 80, 129, 2, 2177, 0)), (72, 1, .inl (.aload_n 0)), (73, 3, .inr (4, 74, 124, 1, 2169, 0)), (76, 3, .inl (.iinc 1 (-1))), (79, 3, .inl (.goto (-71))),
  (82, 1, .inl .return_)]
set_option maxRecDepth 100000 in
theorem okX1_endOperand : ckM (mt mX1_endOperand) kX1_endOperand = true := by decide +kernel
def kX1_operandsOf : CD := [
  (0, 1, .inl (.aload_n 0)), (1, 3, .inr (1, 9, 0, 0, 1190, 0)), (4, 1, .inl (.iload_n 1)), (5, 3, .inr (4, 64, 169, 202, 2106, 1)), (8, 3, .inr (4, 99, 25, 9901, 2112, 1)), (11, 1, .inl (.istore_n 2)),
  (12, 1, .inl (.aload_n 0)), (13, 3, .inr (1, 9, 0, 0, 1190, 0)), (16, 1, .inl (.iload_n 1)), (17, 3, .inr (4, 64, 169, 202, 2106, 1)), (20, 3, .inr (4, 102, 24, 9901, 2113, 1)), (23, 29, .inl (.tableswitch 61 8 11 #[29, 42, 54, 59])),
  (52, 1, .inl (.iload_n 2)), (53, 1, .inl (.aload_n 0)), (54, 3, .inr (1, 9, 0, 0, 1190, 0)), (57, 1, .inl (.iload_n 1)), (58, 1, .inl (.iconst 1)), (59, 1, .inl .iadd),
  (60, 3, .inr (4, 64, 169, 202, 2106, 1)), (63, 1, .inl .imul), (64, 1, .inl .ireturn), (65, 1, .inl (.iload_n 2)), (66, 2, .inl (.bipush 11)), (68, 3, .inl (.if_icmp .gt 7)),
  (71, 1, .inl (.iconst 2)), (72, 3, .inl (.goto 4)), (75, 1, .inl (.iconst 1)), (76, 1, .inl .ireturn), (77, 1, .inl (.iload_n 2)), (78, 2, .inl (.bipush 64)),
  (80, 1, .inl .irem), (81, 1, .inl .ireturn), (82, 1, .inl (.iload_n 2)), (83, 1, .inl .ireturn), (84, 1, .inl (.iconst 0)), (85, 1, .inl .ireturn)]
set_option maxRecDepth 100000 in
theorem okX1_operandsOf : ckM (mt mX1_operandsOf) kX1_operandsOf = true := by decide +kernel
def kX1_writeClosing : CD := [
  (0, 1, .inl (.aload_n 0)), (1, 3, .inr (1, 9, 0, 0, 1190, 0)), (4, 1, .inl (.iload_n 1)), (5, 3, .inr (4, 64, 169, 202, 2106, 1)), (8, 3, .inr (4, 99, 25, 9901, 2112, 1)), (11, 1, .inl (.istore_n 2)),
  (12, 1, .inl (.aload_n 0)), (13, 3, .inr (1, 9, 0, 0, 1190, 0)), (16, 1, .inl (.iload_n 1)), (17, 3, .inr (4, 64, 169, 202, 2106, 1)), (20, 3, .inr (4, 102, 24, 9901, 2113, 1)), (23, 29, .inl (.tableswitch 87 8 11 #[29, 53, 41, 41])),
  (52, 1, .inl (.aload_n 0)), (53, 3, .inr (1, 39, 0, 7, 1197, 0)), (56, 2, .inl (.bipush 125)), (58, 3, .inr (4, 61, 171, 202, 2105, 0)), (61, 3, .inl (.goto 49)), (64, 1, .inl (.aload_n 0)),
  (65, 3, .inr (1, 39, 0, 7, 1197, 0)), (68, 2, .inl (.bipush 41)), (70, 3, .inr (4, 61, 171, 202, 2105, 0)), (73, 3, .inl (.goto 37)), (76, 1, .inl (.aload_n 0)), (77, 3, .inr (1, 39, 0, 7, 1197, 0)),
  (80, 1, .inl (.iload_n 2)), (81, 2, .inl (.bipush 15)), (83, 3, .inl (.if_icmp .ne 8)), (86, 2, .inr (7, 105, 0, 0, 2114, 0)), (88, 3, .inl (.goto 16)), (91, 1, .inl (.iload_n 2)),
  (92, 2, .inl (.bipush 12)), (94, 3, .inl (.if_icmp .ne 8)), (97, 2, .inr (7, 107, 1, 0, 2115, 0)), (99, 3, .inl (.goto 5)), (102, 2, .inr (7, 109, 2, 0, 2116, 0)), (104, 3, .inr (4, 111, 173, 202, 2117, 0)),
  (107, 3, .inl (.goto 3)), (110, 1, .inl .return_)]
set_option maxRecDepth 100000 in
theorem okX1_writeClosing : ckM (mt mX1_writeClosing) kX1_writeClosing = true := by decide +kernel
def kX1_writeBetween : CD := [
  (0, 1, .inl (.aload_n 0)), (1, 3, .inr (1, 9, 0, 0, 1190, 0)), (4, 1, .inl (.iload_n 1)), (5, 3, .inr (4, 64, 169, 202, 2106, 1)), (8, 1, .inl (.istore_n 3)), (9, 1, .inl (.iload_n 3)),
  (10, 3, .inr (4, 102, 24, 9901, 2113, 1)), (13, 2, .inl (.bipush 9)), (15, 3, .inl (.if_icmp .ne 18)), (18, 1, .inl (.aload_n 0)), (19, 3, .inr (1, 39, 0, 7, 1197, 0)), (22, 1, .inl (.iload_n 3)),
  (23, 3, .inr (4, 99, 25, 9901, 2112, 1)), (26, 3, .inr (4, 115, 22, 9901, 3022, 3)), (29, 3, .inr (4, 111, 173, 202, 2117, 0)), (32, 1, .inl .return_), (33, 1, .inl (.iload_n 3)), (34, 3, .inr (4, 102, 24, 9901, 2113, 1)),
  (37, 2, .inl (.bipush 8)), (39, 3, .inl (.if_icmp .ne 16)), (42, 1, .inl (.aload_n 0)), (43, 3, .inr (1, 9, 0, 0, 1190, 0)), (46, 1, .inl (.iload_n 1)), (47, 1, .inl (.iconst 1)),
  (48, 1, .inl .iadd), (49, 3, .inr (4, 64, 169, 202, 2106, 1)), (52, 3, .inl (.goto 4)), (55, 1, .inl (.iconst 0)), (56, 2, .inl (.istore 4)), (58, 1, .inl (.aload_n 0)),
  (59, 3, .inr (1, 39, 0, 7, 1197, 0)), (62, 2, .inl (.iload 4)), (64, 3, .inl (.ifCond .le 15)), (67, 1, .inl (.iload_n 2)), (68, 2, .inl (.iload 4)), (70, 1, .inl .irem),
  (71, 3, .inl (.ifCond .ne 8)), (74, 2, .inl (.bipush 59)), (76, 3, .inl (.goto 5)), (79, 2, .inl (.bipush 44)), (81, 3, .inr (4, 61, 171, 202, 2105, 0)), (84, 1, .inl .return_)]
set_option maxRecDepth 100000 in
theorem okX1_writeBetween : ckM (mt mX1_writeBetween) kX1_writeBetween = true := by decide +kernel
def kX1_writeOpening : CD := [
  (0, 1, .inl (.aload_n 0)), (1, 3, .inr (1, 9, 0, 0, 1190, 0)), (4, 1, .inl (.iload_n 1)), (5, 3, .inr (4, 64, 169, 202, 2106, 1)), (8, 3, .inr (4, 99, 25, 9901, 2112, 1)), (11, 1, .inl (.istore_n 2)),
  (12, 1, .inl (.aload_n 0)), (13, 3, .inr (1, 9, 0, 0, 1190, 0)), (16, 1, .inl (.iload_n 1)), (17, 3, .inr (4, 64, 169, 202, 2106, 1)), (20, 3, .inr (4, 102, 24, 9901, 2113, 1)), (23, 61, .inl (.tableswitch 269 0 11 #[61, 70, 79, 101, 115, 166, 175, 269, 183, 195, 232, 243])),
  (84, 1, .inl (.aload_n 0)), (85, 1, .inl (.iload_n 1)), (86, 1, .inl (.iload_n 2)), (87, 3, .inr (4, 119, 137, 3, 2181, 0)), (90, 3, .inl (.goto 202)), (93, 1, .inl (.aload_n 0)),
  (94, 1, .inl (.iload_n 1)), (95, 1, .inl (.iload_n 2)), (96, 3, .inr (4, 122, 132, 3, 2216, 0)), (99, 3, .inl (.goto 193)), (102, 1, .inl (.aload_n 0)), (103, 3, .inr (1, 39, 0, 7, 1197, 0)),
  (106, 1, .inl (.iload_n 2)), (107, 1, .inl (.iconst 1)), (108, 3, .inl (.if_icmp .ne 8)), (111, 2, .inr (7, 125, 8, 0, 2220, 0)), (113, 3, .inl (.goto 5)), (116, 2, .inr (7, 127, 9, 0, 2221, 0)),
  (118, 3, .inr (4, 111, 173, 202, 2117, 0)), (121, 3, .inl (.goto 171)), (124, 1, .inl (.aload_n 0)), (125, 3, .inr (1, 39, 0, 7, 1197, 0)), (128, 1, .inl (.iload_n 2)), (129, 3, .inr (4, 129, 21, 9901, 2222, 3)),
  (132, 3, .inr (4, 111, 173, 202, 2117, 0)), (135, 3, .inl (.goto 157)), (138, 1, .inl (.aload_n 0)), (139, 1, .inl (.aload_n 0)), (140, 3, .inr (1, 9, 0, 0, 1190, 0)), (143, 1, .inl (.iload_n 1)),
  (144, 1, .inl (.iconst 1)), (145, 1, .inl .iadd), (146, 3, .inr (4, 64, 169, 202, 2106, 1)), (149, 3, .inr (4, 132, 133, 2, 2233, 0)), (152, 1, .inl (.aload_n 0)), (153, 1, .inl (.iload_n 2)),
  (154, 1, .inl (.iconst 1)), (155, 1, .inl .iand), (156, 1, .inl (.aload_n 0)), (157, 3, .inr (1, 9, 0, 0, 1190, 0)), (160, 1, .inl (.iload_n 1)), (161, 1, .inl (.iconst 3)),
  (162, 1, .inl .iadd), (163, 3, .inr (4, 64, 169, 202, 2106, 1)), (166, 3, .inr (4, 135, 134, 3, 3005, 0)), (169, 1, .inl (.aload_n 0)), (170, 1, .inl (.iload_n 2)), (171, 1, .inl (.iconst 2)),
  (172, 1, .inl .iand), (173, 1, .inl (.aload_n 0)), (174, 3, .inr (1, 9, 0, 0, 1190, 0)), (177, 1, .inl (.iload_n 1)), (178, 1, .inl (.iconst 2)), (179, 1, .inl .iadd),
  (180, 3, .inr (4, 64, 169, 202, 2106, 1)), (183, 3, .inr (4, 138, 135, 3, 3010, 0)), (186, 3, .inl (.goto 106)), (189, 1, .inl (.aload_n 0)), (190, 1, .inl (.iload_n 1)), (191, 1, .inl (.iload_n 2)),
  (192, 3, .inr (4, 141, 136, 3, 3014, 0)), (195, 3, .inl (.goto 97)), (198, 1, .inl (.aload_n 0)), (199, 1, .inl (.iload_n 2)), (200, 3, .inr (4, 144, 131, 2, 3018, 0)), (203, 3, .inl (.goto 89)),
  (206, 1, .inl (.aload_n 0)), (207, 3, .inr (1, 39, 0, 7, 1197, 0)), (210, 2, .inl (.bipush 123)), (212, 3, .inr (4, 61, 171, 202, 2105, 0)), (215, 3, .inl (.goto 77)), (218, 1, .inl (.aload_n 0)),
  (219, 3, .inr (1, 39, 0, 7, 1197, 0)), (222, 1, .inl (.iload_n 2)), (223, 2, .inl (.bipush 13)), (225, 3, .inl (.if_icmp .eq 15)), (228, 1, .inl (.iload_n 2)), (229, 2, .inl (.bipush 14)),
  (231, 3, .inl (.if_icmp .eq 9)), (234, 1, .inl (.iload_n 2)), (235, 2, .inl (.bipush 15)), (237, 3, .inl (.if_icmp .ne 10)), (240, 1, .inl (.iload_n 2)), (241, 3, .inr (4, 115, 22, 9901, 3022, 3)),
  (244, 3, .inl (.goto 5)), (247, 2, .inr (7, 109, 2, 0, 2116, 0)), (249, 3, .inr (4, 111, 173, 202, 2117, 0)), (252, 3, .inl (.goto 40)), (255, 1, .inl (.aload_n 0)), (256, 1, .inl (.iload_n 2)),
  (257, 2, .inl (.bipush 64)), (259, 1, .inl .idiv), (260, 3, .inr (4, 147, 130, 2, 3039, 0)), (263, 3, .inl (.goto 29)), (266, 1, .inl (.aload_n 0)), (267, 1, .inl (.aload_n 0)),
  (268, 3, .inr (1, 9, 0, 0, 1190, 0)), (271, 1, .inl (.iload_n 1)), (272, 1, .inl (.iconst 1)), (273, 1, .inl .iadd), (274, 3, .inr (4, 64, 169, 202, 2106, 1)), (277, 3, .inr (4, 144, 131, 2, 3018, 0)),
  (280, 1, .inl (.aload_n 0)), (281, 3, .inr (1, 39, 0, 7, 1197, 0)), (284, 2, .inl (.bipush 40)), (286, 3, .inr (4, 61, 171, 202, 2105, 0)), (289, 3, .inl (.goto 3)), (292, 1, .inl .return_)]
set_option maxRecDepth 100000 in
theorem okX1_writeOpening : ckM (mt mX1_writeOpening) kX1_writeOpening = true := by decide +kernel
def kX1_writeFunction : CD := [
  (0, 1, .inl (.iload_n 1)), (1, 3, .inl (.ifCond .lt 26)), (4, 1, .inl (.iload_n 1)), (5, 3, .inr (8, 150, 0, 0, 3043, 0)), (8, 1, .inr (13, 0, 0, 0, 0, 0)), (9, 3, .inl (.if_icmp .ge 18)),
  (12, 1, .inl (.aload_n 0)), (13, 3, .inr (1, 39, 0, 7, 1197, 0)), (16, 3, .inr (8, 150, 0, 0, 3043, 0)), (19, 1, .inl (.iload_n 1)), (20, 1, .inl .aaload), (21, 3, .inr (10, 154, 0, 0, 7194, 0)),
  (24, 3, .inr (4, 111, 173, 202, 2117, 0)), (27, 1, .inl (.aload_n 0)), (28, 3, .inr (1, 39, 0, 7, 1197, 0)), (31, 2, .inl (.bipush 40)), (33, 3, .inr (4, 61, 171, 202, 2105, 0)), (36, 1, .inl .return_)]
set_option maxRecDepth 100000 in
theorem okX1_writeFunction : ckM (mt mX1_writeFunction) kX1_writeFunction = true := by decide +kernel
def kX1_writeName : CD := [
  (0, 1, .inl (.iconst 0)), (1, 1, .inl (.istore_n 2)), (2, 1, .inl (.iload_n 2)), (3, 1, .inl (.aload_n 0)), (4, 3, .inr (1, 19, 0, 2, 1192, 0)), (7, 1, .inl (.iload_n 1)),
  (8, 3, .inr (4, 160, 197, 502, 2238, 1)), (11, 3, .inl (.if_icmp .ge 25)), (14, 1, .inl (.aload_n 0)), (15, 3, .inr (1, 39, 0, 7, 1197, 0)), (18, 1, .inl (.aload_n 0)), (19, 3, .inr (1, 19, 0, 2, 1192, 0)),
  (22, 1, .inl (.iload_n 1)), (23, 1, .inl (.iload_n 2)), (24, 3, .inr (4, 165, 198, 503, 3002, 1)), (27, 3, .inr (4, 61, 171, 202, 2105, 0)), (30, 3, .inl (.iinc 2 1)), (33, 3, .inl (.goto (-31))),
  (36, 1, .inl .return_)]
set_option maxRecDepth 100000 in
theorem okX1_writeName : ckM (mt mX1_writeName) kX1_writeName = true := by decide +kernel
def kX1_writeString : CD := [
  (0, 1, .inl (.aload_n 0)), (1, 3, .inr (1, 39, 0, 7, 1197, 0)), (4, 2, .inl (.bipush 34)), (6, 3, .inr (4, 61, 171, 202, 2105, 0)), (9, 1, .inl (.iconst 0)), (10, 1, .inl (.istore_n 3)),
  (11, 1, .inl (.iload_n 3)), (12, 1, .inl (.iload_n 2)), (13, 3, .inl (.if_icmp .ge 64)), (16, 1, .inl (.aload_n 0)), (17, 3, .inr (1, 9, 0, 0, 1190, 0)), (20, 1, .inl (.iload_n 1)),
  (21, 1, .inl (.iconst 1)), (22, 1, .inl .iadd), (23, 1, .inl (.iload_n 3)), (24, 1, .inl (.iconst 4)), (25, 1, .inl .idiv), (26, 1, .inl .iadd),
  (27, 3, .inr (4, 64, 169, 202, 2106, 1)), (30, 2, .inl (.bipush 24)), (32, 1, .inl (.iload_n 3)), (33, 1, .inl (.iconst 4)), (34, 1, .inl .irem), (35, 2, .inl (.bipush 8)),
  (37, 1, .inl .imul), (38, 1, .inl .isub), (39, 1, .inl .ishr), (40, 3, .inl (.sipush 255)), (43, 1, .inl .iand), (44, 2, .inl (.istore 4)),
  (46, 1, .inl (.aload_n 0)), (47, 3, .inr (1, 39, 0, 7, 1197, 0)), (50, 2, .inl (.iload 4)), (52, 3, .inr (4, 61, 171, 202, 2105, 0)), (55, 2, .inl (.iload 4)), (57, 2, .inl (.bipush 34)),
  (59, 3, .inl (.if_icmp .ne 12)), (62, 1, .inl (.aload_n 0)), (63, 3, .inr (1, 39, 0, 7, 1197, 0)), (66, 2, .inl (.iload 4)), (68, 3, .inr (4, 61, 171, 202, 2105, 0)), (71, 3, .inl (.iinc 3 1)),
  (74, 3, .inl (.goto (-63))), (77, 1, .inl (.aload_n 0)), (78, 3, .inr (1, 39, 0, 7, 1197, 0)), (81, 2, .inl (.bipush 34)), (83, 3, .inr (4, 61, 171, 202, 2105, 0)), (86, 1, .inl .return_)]
set_option maxRecDepth 100000 in
theorem okX1_writeString : ckM (mt mX1_writeString) kX1_writeString = true := by decide +kernel
def kX1_writeSheet : CD := [
  (0, 1, .inl (.iload_n 1)), (1, 1, .inl (.iconst (-1))), (2, 3, .inl (.if_icmp .ne 4)), (5, 1, .inl .return_), (6, 1, .inl (.aload_n 0)), (7, 3, .inr (1, 22, 0, 3, 1193, 0)),
  (10, 1, .inl (.iload_n 1)), (11, 3, .inr (4, 64, 169, 202, 2106, 1)), (14, 1, .inl (.iconst 1)), (15, 3, .inl (.if_icmp .ne 7)), (18, 1, .inl (.iconst 1)), (19, 3, .inl (.goto 4)),
  (22, 1, .inl (.iconst 0)), (23, 1, .inl (.istore_n 2)), (24, 1, .inl (.aload_n 0)), (25, 3, .inr (1, 39, 0, 7, 1197, 0)), (28, 1, .inl (.iload_n 2)), (29, 3, .inl (.ifCond .eq 8)),
  (32, 2, .inr (7, 169, 18, 0, 2237, 0)), (34, 3, .inl (.goto 5)), (37, 2, .inr (7, 109, 2, 0, 2116, 0)), (39, 3, .inr (4, 111, 173, 202, 2117, 0)), (42, 1, .inl (.iconst 0)), (43, 1, .inl (.istore_n 3)),
  (44, 1, .inl (.iload_n 3)), (45, 1, .inl (.aload_n 0)), (46, 3, .inr (1, 15, 0, 1, 1191, 0)), (49, 1, .inl (.iload_n 1)), (50, 3, .inr (4, 160, 197, 502, 2238, 1)), (53, 3, .inl (.if_icmp .ge 45)),
  (56, 1, .inl (.aload_n 0)), (57, 3, .inr (1, 15, 0, 1, 1191, 0)), (60, 1, .inl (.iload_n 1)), (61, 1, .inl (.iload_n 3)), (62, 3, .inr (4, 165, 198, 503, 3002, 1)), (65, 2, .inl (.istore 4)),
  (67, 1, .inl (.aload_n 0)), (68, 3, .inr (1, 39, 0, 7, 1197, 0)), (71, 2, .inl (.iload 4)), (73, 3, .inr (4, 61, 171, 202, 2105, 0)), (76, 2, .inl (.iload 4)), (78, 2, .inl (.bipush 39)),
  (80, 3, .inl (.if_icmp .ne 12)), (83, 1, .inl (.aload_n 0)), (84, 3, .inr (1, 39, 0, 7, 1197, 0)), (87, 2, .inl (.iload 4)), (89, 3, .inr (4, 61, 171, 202, 2105, 0)), (92, 3, .inl (.iinc 3 1)),
  (95, 3, .inl (.goto (-51))), (98, 1, .inl (.aload_n 0)), (99, 3, .inr (1, 39, 0, 7, 1197, 0)), (102, 1, .inl (.iload_n 2)), (103, 3, .inl (.ifCond .eq 8)), (106, 2, .inr (7, 171, 19, 0, 3003, 0)),
  (108, 3, .inl (.goto 5)), (111, 2, .inr (7, 173, 20, 0, 3004, 0)), (113, 3, .inr (4, 111, 173, 202, 2117, 0)), (116, 1, .inl .return_)]
set_option maxRecDepth 100000 in
theorem okX1_writeSheet : ckM (mt mX1_writeSheet) kX1_writeSheet = true := by decide +kernel
def kX1_writeColumn : CD := [
  (0, 1, .inl (.aload_n 0)), (1, 3, .inr (1, 39, 0, 7, 1197, 0)), (4, 1, .inl (.iload_n 1)), (5, 3, .inl (.ifCond .eq 8)), (8, 2, .inr (7, 175, 21, 0, 3009, 0)), (10, 3, .inl (.goto 5)),
  (13, 2, .inr (7, 109, 2, 0, 2116, 0)), (15, 3, .inr (4, 111, 173, 202, 2117, 0)), (18, 1, .inl (.iload_n 2)), (19, 1, .inl (.iconst 1)), (20, 1, .inl .isub), (21, 1, .inl (.istore_n 3)),
  (22, 1, .inl (.iload_n 3)), (23, 3, .inl (.sipush 702)), (26, 3, .inl (.if_icmp .lt 22)), (29, 1, .inl (.aload_n 0)), (30, 3, .inr (1, 39, 0, 7, 1197, 0)), (33, 2, .inl (.bipush 65)),
  (35, 1, .inl (.iload_n 3)), (36, 3, .inl (.sipush 702)), (39, 1, .inl .isub), (40, 3, .inl (.sipush 676)), (43, 1, .inl .idiv), (44, 1, .inl .iadd),
  (45, 3, .inr (4, 61, 171, 202, 2105, 0)), (48, 1, .inl (.iload_n 3)), (49, 2, .inl (.bipush 26)), (51, 3, .inl (.if_icmp .lt 23)), (54, 1, .inl (.aload_n 0)), (55, 3, .inr (1, 39, 0, 7, 1197, 0)),
  (58, 2, .inl (.bipush 65)), (60, 1, .inl (.iload_n 3)), (61, 2, .inl (.bipush 26)), (63, 1, .inl .isub), (64, 2, .inl (.bipush 26)), (66, 1, .inl .idiv),
  (67, 2, .inl (.bipush 26)), (69, 1, .inl .irem), (70, 1, .inl .iadd), (71, 3, .inr (4, 61, 171, 202, 2105, 0)), (74, 1, .inl (.aload_n 0)), (75, 3, .inr (1, 39, 0, 7, 1197, 0)),
  (78, 2, .inl (.bipush 65)), (80, 1, .inl (.iload_n 3)), (81, 2, .inl (.bipush 26)), (83, 1, .inl .irem), (84, 1, .inl .iadd), (85, 3, .inr (4, 61, 171, 202, 2105, 0)),
  (88, 1, .inl .return_)]
set_option maxRecDepth 100000 in
theorem okX1_writeColumn : ckM (mt mX1_writeColumn) kX1_writeColumn = true := by decide +kernel
def kX1_writeRow : CD := [
  (0, 1, .inl (.aload_n 0)), (1, 3, .inr (1, 39, 0, 7, 1197, 0)), (4, 1, .inl (.iload_n 1)), (5, 3, .inl (.ifCond .eq 8)), (8, 2, .inr (7, 175, 21, 0, 3009, 0)), (10, 3, .inl (.goto 5)),
  (13, 2, .inr (7, 109, 2, 0, 2116, 0)), (15, 3, .inr (4, 111, 173, 202, 2117, 0)), (18, 1, .inl (.aload_n 0)), (19, 3, .inr (1, 39, 0, 7, 1197, 0)), (22, 1, .inl (.iload_n 2)), (23, 3, .inr (4, 177, 174, 202, 2206, 0)),
  (26, 1, .inl .return_)]
set_option maxRecDepth 100000 in
theorem okX1_writeRow : ckM (mt mX1_writeRow) kX1_writeRow = true := by decide +kernel
def kX1_writeRange : CD := [
  (0, 1, .inl (.aload_n 0)), (1, 1, .inl (.aload_n 0)), (2, 3, .inr (1, 9, 0, 0, 1190, 0)), (5, 1, .inl (.iload_n 1)), (6, 1, .inl (.iconst 1)), (7, 1, .inl .iadd),
  (8, 3, .inr (4, 64, 169, 202, 2106, 1)), (11, 3, .inr (4, 132, 133, 2, 2233, 0)), (14, 1, .inl (.iload_n 2)), (15, 2, .inl (.bipush 32)), (17, 1, .inl .iand), (18, 3, .inl (.ifCond .ne 20)),
  (21, 1, .inl (.aload_n 0)), (22, 1, .inl (.iload_n 2)), (23, 1, .inl (.iconst 1)), (24, 1, .inl .iand), (25, 1, .inl (.aload_n 0)), (26, 3, .inr (1, 9, 0, 0, 1190, 0)),
  (29, 1, .inl (.iload_n 1)), (30, 1, .inl (.iconst 3)), (31, 1, .inl .iadd), (32, 3, .inr (4, 64, 169, 202, 2106, 1)), (35, 3, .inr (4, 135, 134, 3, 3005, 0)), (38, 1, .inl (.iload_n 2)),
  (39, 2, .inl (.bipush 16)), (41, 1, .inl .iand), (42, 3, .inl (.ifCond .ne 20)), (45, 1, .inl (.aload_n 0)), (46, 1, .inl (.iload_n 2)), (47, 1, .inl (.iconst 2)),
  (48, 1, .inl .iand), (49, 1, .inl (.aload_n 0)), (50, 3, .inr (1, 9, 0, 0, 1190, 0)), (53, 1, .inl (.iload_n 1)), (54, 1, .inl (.iconst 2)), (55, 1, .inl .iadd),
  (56, 3, .inr (4, 64, 169, 202, 2106, 1)), (59, 3, .inr (4, 138, 135, 3, 3010, 0)), (62, 1, .inl (.aload_n 0)), (63, 3, .inr (1, 39, 0, 7, 1197, 0)), (66, 2, .inl (.bipush 58)), (68, 3, .inr (4, 61, 171, 202, 2105, 0)),
  (71, 1, .inl (.iload_n 2)), (72, 2, .inl (.bipush 32)), (74, 1, .inl .iand), (75, 3, .inl (.ifCond .ne 20)), (78, 1, .inl (.aload_n 0)), (79, 1, .inl (.iload_n 2)),
  (80, 1, .inl (.iconst 4)), (81, 1, .inl .iand), (82, 1, .inl (.aload_n 0)), (83, 3, .inr (1, 9, 0, 0, 1190, 0)), (86, 1, .inl (.iload_n 1)), (87, 1, .inl (.iconst 5)),
  (88, 1, .inl .iadd), (89, 3, .inr (4, 64, 169, 202, 2106, 1)), (92, 3, .inr (4, 135, 134, 3, 3005, 0)), (95, 1, .inl (.iload_n 2)), (96, 2, .inl (.bipush 16)), (98, 1, .inl .iand),
  (99, 3, .inl (.ifCond .ne 21)), (102, 1, .inl (.aload_n 0)), (103, 1, .inl (.iload_n 2)), (104, 2, .inl (.bipush 8)), (106, 1, .inl .iand), (107, 1, .inl (.aload_n 0)),
  (108, 3, .inr (1, 9, 0, 0, 1190, 0)), (111, 1, .inl (.iload_n 1)), (112, 1, .inl (.iconst 4)), (113, 1, .inl .iadd), (114, 3, .inr (4, 64, 169, 202, 2106, 1)), (117, 3, .inr (4, 138, 135, 3, 3010, 0)),
  (120, 1, .inl .return_)]
set_option maxRecDepth 100000 in
theorem okX1_writeRange : ckM (mt mX1_writeRange) kX1_writeRange = true := by decide +kernel
def kX1_writeNumber : CD := [
  (0, 1, .inl (.aload_n 0)), (1, 1, .inl (.aload_n 0)), (2, 3, .inr (1, 9, 0, 0, 1190, 0)), (5, 1, .inl (.iload_n 1)), (6, 1, .inl (.iconst 1)), (7, 1, .inl .iadd),
  (8, 3, .inr (4, 64, 169, 202, 2106, 1)), (11, 1, .inl .i2l), (12, 2, .inl (.bipush 30)), (14, 1, .inl .lshl), (15, 1, .inl (.aload_n 0)), (16, 3, .inr (1, 9, 0, 0, 1190, 0)),
  (19, 1, .inl (.iload_n 1)), (20, 1, .inl (.iconst 2)), (21, 1, .inl .iadd), (22, 3, .inr (4, 64, 169, 202, 2106, 1)), (25, 1, .inl .i2l), (26, 1, .inl .ladd),
  (27, 3, .inr (4, 180, 138, 2, 2185, 0)), (30, 1, .inl (.aload_n 0)), (31, 3, .inr (1, 9, 0, 0, 1190, 0)), (34, 1, .inl (.iload_n 1)), (35, 1, .inl (.iconst 3)), (36, 1, .inl .iadd),
  (37, 3, .inr (4, 64, 169, 202, 2106, 1)), (40, 1, .inl (.aload_n 0)), (41, 3, .inr (1, 42, 0, 8, 1198, 0)), (44, 3, .inr (4, 60, 168, 201, 2104, 1)), (47, 1, .inl .iadd), (48, 1, .inl (.iconst 1)),
  (49, 1, .inl .isub), (50, 1, .inl (.istore_n 3)), (51, 1, .inl (.aload_n 0)), (52, 3, .inr (1, 39, 0, 7, 1197, 0)), (55, 1, .inl (.iload_n 2)), (56, 1, .inl (.iconst 1)),
  (57, 3, .inl (.if_icmp .ne 8)), (60, 2, .inr (7, 184, 3, 0, 2190, 0)), (62, 3, .inl (.goto 5)), (65, 2, .inr (7, 109, 2, 0, 2116, 0)), (67, 3, .inr (4, 111, 173, 202, 2117, 0)), (70, 1, .inl (.iload_n 3)),
  (71, 2, .inl (.bipush (-5))), (73, 3, .inl (.if_icmp .lt 9)), (76, 1, .inl (.iload_n 3)), (77, 2, .inl (.bipush 20)), (79, 3, .inl (.if_icmp .le 11)), (82, 1, .inl (.aload_n 0)),
  (83, 1, .inl (.iload_n 3)), (84, 3, .inr (4, 186, 141, 2, 2191, 0)), (87, 3, .inl (.goto 53)), (90, 1, .inl (.iload_n 3)), (91, 3, .inl (.ifCond .ge 44)), (94, 1, .inl (.aload_n 0)),
  (95, 3, .inr (1, 39, 0, 7, 1197, 0)), (98, 2, .inr (7, 189, 7, 0, 2211, 0)), (100, 3, .inr (4, 111, 173, 202, 2117, 0)), (103, 1, .inl (.iconst (-1))), (104, 2, .inl (.istore 4)), (106, 2, .inl (.iload 4)),
  (108, 1, .inl (.iload_n 3)), (109, 3, .inl (.if_icmp .le 18)), (112, 1, .inl (.aload_n 0)), (113, 3, .inr (1, 39, 0, 7, 1197, 0)), (116, 2, .inl (.bipush 48)), (118, 3, .inr (4, 61, 171, 202, 2105, 0)),
  (121, 3, .inl (.iinc 4 (-1))), (124, 3, .inl (.goto (-18))), (127, 1, .inl (.aload_n 0)), (128, 1, .inl (.iconst 0)), (129, 3, .inr (4, 191, 139, 2, 2199, 0)), (132, 3, .inl (.goto 8)),
  (135, 1, .inl (.aload_n 0)), (136, 1, .inl (.iload_n 3)), (137, 3, .inr (4, 194, 140, 2, 2212, 0)), (140, 1, .inl .return_)]
set_option maxRecDepth 100000 in
theorem okX1_writeNumber : ckM (mt mX1_writeNumber) kX1_writeNumber = true := by decide +kernel
def kX1_takeDigits : CD := [
  (0, 1, .inl (.aload_n 0)), (1, 3, .inr (1, 42, 0, 8, 1198, 0)), (4, 3, .inr (4, 57, 177, 201, 2103, 0)), (7, 1, .inl (.lload_n 1)), (8, 1, .inl (.lstore_n 3)), (9, 1, .inl (.iconst 0)),
  (10, 2, .inl (.istore 5)), (12, 2, .inl (.iload 5)), (14, 2, .inl (.bipush 15)), (16, 3, .inl (.if_icmp .ge 42)), (19, 2, .inl (.iload 5)), (21, 3, .inl (.ifCond .eq 9)),
  (24, 1, .inl (.lload_n 3)), (25, 1, .inl (.lconst 0)), (26, 1, .inl .lcmp), (27, 3, .inl (.ifCond .le 31)), (30, 1, .inl (.aload_n 0)), (31, 3, .inr (1, 42, 0, 8, 1198, 0)),
  (34, 2, .inl (.bipush 48)), (36, 1, .inl (.lload_n 3)), (37, 3, .inr (5, 197, 0, 0, 2189, 10)), (40, 1, .inl .lrem), (41, 1, .inl .l2i), (42, 1, .inl .iadd),
  (43, 3, .inr (4, 61, 171, 202, 2105, 0)), (46, 1, .inl (.lload_n 3)), (47, 3, .inr (5, 197, 0, 0, 2189, 10)), (50, 1, .inl .ldiv), (51, 1, .inl (.lstore_n 3)), (52, 3, .inl (.iinc 5 1)),
  (55, 3, .inl (.goto (-43))), (58, 1, .inl .return_)]
set_option maxRecDepth 100000 in
theorem okX1_takeDigits : ckM (mt mX1_takeDigits) kX1_takeDigits = true := by decide +kernel
def kX1_writeDigits : CD := [
  (0, 1, .inl (.aload_n 0)), (1, 3, .inr (1, 42, 0, 8, 1198, 0)), (4, 3, .inr (4, 60, 168, 201, 2104, 1)), (7, 1, .inl (.iconst 1)), (8, 1, .inl .isub), (9, 1, .inl (.iload_n 1)),
  (10, 1, .inl .isub), (11, 1, .inl (.istore_n 2)), (12, 1, .inl (.iload_n 2)), (13, 3, .inl (.ifCond .lt 24)), (16, 1, .inl (.aload_n 0)), (17, 3, .inr (1, 39, 0, 7, 1197, 0)),
  (20, 1, .inl (.aload_n 0)), (21, 3, .inr (1, 42, 0, 8, 1198, 0)), (24, 1, .inl (.iload_n 2)), (25, 3, .inr (4, 64, 169, 202, 2106, 1)), (28, 3, .inr (4, 61, 171, 202, 2105, 0)), (31, 3, .inl (.iinc 2 (-1))),
  (34, 3, .inl (.goto (-22))), (37, 1, .inl .return_)]
set_option maxRecDepth 100000 in
theorem okX1_writeDigits : ckM (mt mX1_writeDigits) kX1_writeDigits = true := by decide +kernel
def kX1_writeWithPoint : CD := [
  (0, 1, .inl (.iconst 0)), (1, 1, .inl (.istore_n 2)), (2, 1, .inl (.iload_n 2)), (3, 1, .inl (.aload_n 0)), (4, 3, .inr (1, 42, 0, 8, 1198, 0)), (7, 3, .inr (4, 60, 168, 201, 2104, 1)),
  (10, 3, .inl (.if_icmp .lt 8)), (13, 1, .inl (.iload_n 2)), (14, 1, .inl (.iload_n 1)), (15, 3, .inl (.if_icmp .gt 66)), (18, 1, .inl (.iload_n 2)), (19, 1, .inl (.iload_n 1)),
  (20, 1, .inl (.iconst 1)), (21, 1, .inl .iadd), (22, 3, .inl (.if_icmp .ne 12)), (25, 1, .inl (.aload_n 0)), (26, 3, .inr (1, 39, 0, 7, 1197, 0)), (29, 2, .inl (.bipush 46)),
  (31, 3, .inr (4, 61, 171, 202, 2105, 0)), (34, 1, .inl (.aload_n 0)), (35, 3, .inr (1, 39, 0, 7, 1197, 0)), (38, 1, .inl (.iload_n 2)), (39, 1, .inl (.aload_n 0)), (40, 3, .inr (1, 42, 0, 8, 1198, 0)),
  (43, 3, .inr (4, 60, 168, 201, 2104, 1)), (46, 3, .inl (.if_icmp .ge 24)), (49, 1, .inl (.aload_n 0)), (50, 3, .inr (1, 42, 0, 8, 1198, 0)), (53, 1, .inl (.aload_n 0)), (54, 3, .inr (1, 42, 0, 8, 1198, 0)),
  (57, 3, .inr (4, 60, 168, 201, 2104, 1)), (60, 1, .inl (.iconst 1)), (61, 1, .inl .isub), (62, 1, .inl (.iload_n 2)), (63, 1, .inl .isub), (64, 3, .inr (4, 64, 169, 202, 2106, 1)),
  (67, 3, .inl (.goto 5)), (70, 2, .inl (.bipush 48)), (72, 3, .inr (4, 61, 171, 202, 2105, 0)), (75, 3, .inl (.iinc 2 1)), (78, 3, .inl (.goto (-76))), (81, 1, .inl .return_)]
set_option maxRecDepth 100000 in
theorem okX1_writeWithPoint : ckM (mt mX1_writeWithPoint) kX1_writeWithPoint = true := by decide +kernel
def kX1_writeWithExponent : CD := [
  (0, 1, .inl (.aload_n 0)), (1, 3, .inr (1, 39, 0, 7, 1197, 0)), (4, 1, .inl (.aload_n 0)), (5, 3, .inr (1, 42, 0, 8, 1198, 0)), (8, 3, .inr (4, 86, 170, 201, 2195, 1)), (11, 3, .inr (4, 61, 171, 202, 2105, 0)),
  (14, 1, .inl (.aload_n 0)), (15, 3, .inr (1, 42, 0, 8, 1198, 0)), (18, 3, .inr (4, 60, 168, 201, 2104, 1)), (21, 1, .inl (.iconst 1)), (22, 3, .inl (.if_icmp .le 17)), (25, 1, .inl (.aload_n 0)),
  (26, 3, .inr (1, 39, 0, 7, 1197, 0)), (29, 2, .inl (.bipush 46)), (31, 3, .inr (4, 61, 171, 202, 2105, 0)), (34, 1, .inl (.aload_n 0)), (35, 1, .inl (.iconst 1)), (36, 3, .inr (4, 191, 139, 2, 2199, 0)),
  (39, 1, .inl (.iload_n 1)), (40, 3, .inl (.ifCond .ge 8)), (43, 1, .inl (.iload_n 1)), (44, 1, .inl .ineg), (45, 3, .inl (.goto 4)), (48, 1, .inl (.iload_n 1)),
  (49, 1, .inl (.istore_n 2)), (50, 1, .inl (.aload_n 0)), (51, 3, .inr (1, 39, 0, 7, 1197, 0)), (54, 1, .inl (.iload_n 1)), (55, 3, .inl (.ifCond .ge 8)), (58, 2, .inr (7, 199, 4, 0, 2203, 0)),
  (60, 3, .inl (.goto 5)), (63, 2, .inr (7, 201, 5, 0, 2204, 0)), (65, 3, .inr (4, 111, 173, 202, 2117, 0)), (68, 1, .inl (.aload_n 0)), (69, 3, .inr (1, 39, 0, 7, 1197, 0)), (72, 1, .inl (.iload_n 2)),
  (73, 2, .inl (.bipush 10)), (75, 3, .inl (.if_icmp .ge 8)), (78, 2, .inr (7, 203, 6, 0, 2205, 0)), (80, 3, .inl (.goto 5)), (83, 2, .inr (7, 109, 2, 0, 2116, 0)), (85, 3, .inr (4, 111, 173, 202, 2117, 0)),
  (88, 1, .inl (.aload_n 0)), (89, 3, .inr (1, 39, 0, 7, 1197, 0)), (92, 1, .inl (.iload_n 2)), (93, 3, .inr (4, 177, 174, 202, 2206, 0)), (96, 1, .inl .return_)]
set_option maxRecDepth 100000 in
theorem okX1_writeWithExponent : ckM (mt mX1_writeWithExponent) kX1_writeWithExponent = true := by decide +kernel
def kX2_readText : CD := [
  (0, 1, .inl (.aload_n 0)), (1, 3, .inr (1, 15, 1, 1, 1137, 0)), (4, 3, .inr (4, 43, 177, 201, 3237, 0)), (7, 1, .inl (.aload_n 0)), (8, 3, .inr (1, 34, 1, 5, 1141, 0)), (11, 3, .inr (4, 43, 177, 201, 3237, 0)),
  (14, 1, .inl (.aload_n 0)), (15, 3, .inr (1, 37, 1, 6, 1142, 0)), (18, 3, .inr (4, 43, 177, 201, 3237, 0)), (21, 1, .inl (.aload_n 0)), (22, 3, .inr (1, 40, 1, 7, 1143, 0)), (25, 3, .inr (4, 43, 177, 201, 3237, 0)),
  (28, 1, .inl (.aload_n 0)), (29, 1, .inl (.iconst (-1))), (30, 3, .inr (2, 46, 1, 9, 1145, 0)), (33, 1, .inl (.aload_n 0)), (34, 3, .inr (1, 9, 1, 0, 1136, 0)), (37, 1, .inl (.iconst 0)),
  (38, 3, .inr (4, 50, 169, 202, 3238, 1)), (41, 2, .inl (.bipush 61)), (43, 3, .inl (.if_icmp .eq 5)), (46, 1, .inl (.iconst 0)), (47, 1, .inl .ireturn), (48, 1, .inl (.aload_n 0)),
  (49, 1, .inl (.iconst 1)), (50, 3, .inr (2, 54, 1, 8, 1144, 0)), (53, 1, .inl (.aload_n 0)), (54, 1, .inl (.iconst 0)), (55, 3, .inr (2, 57, 1, 10, 1146, 0)), (58, 1, .inl (.iconst 0)),
  (59, 1, .inl (.istore_n 1)), (60, 1, .inl (.iload_n 1)), (61, 1, .inl (.aload_n 0)), (62, 3, .inr (1, 9, 1, 0, 1136, 0)), (65, 3, .inr (4, 60, 168, 201, 3239, 1)), (68, 3, .inl (.if_icmp .gt 83)),
  (71, 1, .inl (.aload_n 0)), (72, 3, .inr (0, 46, 1, 9, 1145, 0)), (75, 1, .inl (.iconst (-1))), (76, 3, .inl (.if_icmp .ne 75)), (79, 1, .inl (.aload_n 0)), (80, 3, .inr (0, 57, 1, 10, 1146, 0)),
  (83, 1, .inl (.iconst 4)), (84, 3, .inl (.if_icmp .eq 67)), (87, 1, .inl (.aload_n 0)), (88, 3, .inr (4, 64, 143, 101, 4000, 0)), (91, 1, .inl (.aload_n 0)), (92, 3, .inr (0, 57, 1, 10, 1146, 0)),
  (95, 25, .inl (.tableswitch 46 0 2 #[25, 32, 39])), (120, 1, .inl (.aload_n 0)), (121, 3, .inr (4, 67, 144, 101, 4004, 0)), (124, 3, .inl (.goto 21)), (127, 1, .inl (.aload_n 0)), (128, 3, .inr (4, 70, 157, 101, 4150, 0)),
  (131, 3, .inl (.goto 14)), (134, 1, .inl (.aload_n 0)), (135, 3, .inr (4, 73, 165, 101, 4178, 0)), (138, 3, .inl (.goto 7)), (141, 1, .inl (.aload_n 0)), (142, 3, .inr (4, 76, 167, 101, 4187, 0)),
  (145, 3, .inl (.iinc 1 1)), (148, 3, .inl (.goto (-88))), (151, 1, .inl (.aload_n 0)), (152, 3, .inr (0, 46, 1, 9, 1145, 0)), (155, 1, .inl .ireturn)]
set_option maxRecDepth 100000 in
theorem okX2_readText : ckM (mt mX2_readText) kX2_readText = true := by decide +kernel
def kX2_skipBlanks : CD := [
  (0, 1, .inl (.aload_n 0)), (1, 3, .inr (0, 54, 1, 8, 1144, 0)), (4, 1, .inl (.aload_n 0)), (5, 3, .inr (1, 9, 1, 0, 1136, 0)), (8, 3, .inr (4, 60, 168, 201, 3239, 1)), (11, 3, .inl (.if_icmp .ge 32)),
  (14, 1, .inl (.aload_n 0)), (15, 3, .inr (1, 9, 1, 0, 1136, 0)), (18, 1, .inl (.aload_n 0)), (19, 3, .inr (0, 54, 1, 8, 1144, 0)), (22, 3, .inr (4, 50, 169, 202, 3238, 1)), (25, 2, .inl (.bipush 32)),
  (27, 3, .inl (.if_icmp .ne 16)), (30, 1, .inl (.aload_n 0)), (31, 1, .inl .dup), (32, 3, .inr (0, 54, 1, 8, 1144, 0)), (35, 1, .inl (.iconst 1)), (36, 1, .inl .iadd),
  (37, 3, .inr (2, 54, 1, 8, 1144, 0)), (40, 3, .inl (.goto (-40))), (43, 1, .inl .return_)]
set_option maxRecDepth 100000 in
theorem okX2_skipBlanks : ckM (mt mX2_skipBlanks) kX2_skipBlanks = true := by decide +kernel
def kX2_readOperand : CD := [
  (0, 1, .inl (.aload_n 0)), (1, 3, .inr (1, 9, 1, 0, 1136, 0)), (4, 1, .inl (.aload_n 0)), (5, 3, .inr (0, 54, 1, 8, 1144, 0)), (8, 3, .inr (4, 50, 169, 202, 3238, 1)), (11, 1, .inl (.istore_n 1)),
  (12, 1, .inl (.iload_n 1)), (13, 2, .inl (.bipush 43)), (15, 3, .inl (.if_icmp .eq 9)), (18, 1, .inl (.iload_n 1)), (19, 2, .inl (.bipush 45)), (21, 3, .inl (.if_icmp .ne 36)),
  (24, 1, .inl (.aload_n 0)), (25, 3, .inr (1, 34, 1, 5, 1141, 0)), (28, 1, .inl (.iload_n 1)), (29, 2, .inl (.bipush 45)), (31, 3, .inl (.if_icmp .ne 8)), (34, 2, .inl (.bipush 13)),
  (36, 3, .inl (.goto 5)), (39, 2, .inl (.bipush 14)), (41, 3, .inr (4, 79, 171, 202, 4008, 0)), (44, 1, .inl (.aload_n 0)), (45, 1, .inl .dup), (46, 3, .inr (0, 54, 1, 8, 1144, 0)),
  (49, 1, .inl (.iconst 1)), (50, 1, .inl .iadd), (51, 3, .inr (2, 54, 1, 8, 1144, 0)), (54, 3, .inl (.goto 183)), (57, 1, .inl (.iload_n 1)), (58, 2, .inl (.bipush 40)),
  (60, 3, .inl (.if_icmp .ne 17)), (63, 1, .inl (.aload_n 0)), (64, 1, .inl (.iconst (-1))), (65, 1, .inl (.aload_n 0)), (66, 3, .inr (0, 54, 1, 8, 1144, 0)), (69, 1, .inl (.iconst 1)),
  (70, 1, .inl .iadd), (71, 3, .inr (4, 82, 151, 103, 4009, 0)), (74, 3, .inl (.goto 163)), (77, 1, .inl (.iload_n 1)), (78, 2, .inl (.bipush 44)), (80, 3, .inl (.if_icmp .eq 9)),
  (83, 1, .inl (.iload_n 1)), (84, 2, .inl (.bipush 41)), (86, 3, .inl (.if_icmp .ne 11)), (89, 1, .inl (.aload_n 0)), (90, 1, .inl (.iload_n 1)), (91, 3, .inr (4, 86, 153, 102, 4013, 0)),
  (94, 3, .inl (.goto 143)), (97, 1, .inl (.iload_n 1)), (98, 2, .inl (.bipush 123)), (100, 3, .inl (.if_icmp .ne 10)), (103, 1, .inl (.aload_n 0)), (104, 3, .inr (4, 89, 164, 101, 4048, 0)),
  (107, 3, .inl (.goto 130)), (110, 1, .inl (.iload_n 1)), (111, 2, .inl (.bipush 34)), (113, 3, .inl (.if_icmp .ne 21)), (116, 1, .inl (.aload_n 0)), (117, 1, .inl (.aload_n 0)),
  (118, 3, .inr (1, 18, 1, 2, 1138, 0)), (121, 1, .inl (.aload_n 0)), (122, 3, .inr (0, 54, 1, 8, 1144, 0)), (125, 3, .inr (4, 92, 188, 302, 4052, 1)), (128, 3, .inr (4, 98, 145, 102, 4064, 0)), (131, 3, .inl (.goto 106)),
  (134, 1, .inl (.iload_n 1)), (135, 2, .inl (.bipush 35)), (137, 3, .inl (.if_icmp .ne 21)), (140, 1, .inl (.aload_n 0)), (141, 1, .inl (.aload_n 0)), (142, 3, .inr (1, 18, 1, 2, 1138, 0)),
  (145, 1, .inl (.aload_n 0)), (146, 3, .inr (0, 54, 1, 8, 1144, 0)), (149, 3, .inr (4, 102, 189, 302, 4072, 1)), (152, 3, .inr (4, 98, 145, 102, 4064, 0)), (155, 3, .inl (.goto 82)), (158, 1, .inl (.iload_n 1)),
  (159, 2, .inl (.bipush 39)), (161, 3, .inl (.if_icmp .ne 10)), (164, 1, .inl (.aload_n 0)), (165, 3, .inr (4, 105, 147, 101, 4079, 0)), (168, 3, .inl (.goto 69)), (171, 1, .inl (.iload_n 1)),
  (172, 3, .inr (4, 108, 14, 9901, 4106, 1)), (175, 3, .inl (.ifCond .ne 9)), (178, 1, .inl (.iload_n 1)), (179, 2, .inl (.bipush 95)), (181, 3, .inl (.if_icmp .ne 10)), (184, 1, .inl (.aload_n 0)),
  (185, 3, .inr (4, 111, 149, 101, 4107, 0)), (188, 3, .inl (.goto 49)), (191, 1, .inl (.aload_n 0)), (192, 3, .inr (1, 18, 1, 2, 1138, 0)), (195, 1, .inl (.aload_n 0)), (196, 3, .inr (0, 54, 1, 8, 1144, 0)),
  (199, 3, .inr (4, 114, 191, 302, 4093, 1)), (202, 3, .inl (.ifCond .eq 19)), (205, 1, .inl (.aload_n 0)), (206, 3, .inr (1, 18, 1, 2, 1138, 0)), (209, 1, .inl (.iconst (-1))), (210, 3, .inr (4, 117, 192, 302, 4097, 0)),
  (213, 1, .inl (.aload_n 0)), (214, 1, .inl (.iconst 1)), (215, 3, .inr (4, 98, 145, 102, 4064, 0)), (218, 3, .inl (.goto 19)), (221, 1, .inl (.aload_n 0)), (222, 1, .inl (.aload_n 0)),
  (223, 3, .inr (1, 18, 1, 2, 1138, 0)), (226, 1, .inl (.aload_n 0)), (227, 3, .inr (0, 54, 1, 8, 1144, 0)), (230, 1, .inl (.iconst 0)), (231, 3, .inr (4, 120, 183, 303, 4126, 1)), (234, 3, .inr (4, 98, 145, 102, 4064, 0)),
  (237, 1, .inl .return_)]
set_option maxRecDepth 100000 in
theorem okX2_readOperand : ckM (mt mX2_readOperand) kX2_readOperand = true := by decide +kernel
def kX2_endItem : CD := [
  (0, 1, .inl (.iload_n 1)), (1, 3, .inl (.ifCond .eq 21)), (4, 1, .inl (.aload_n 0)), (5, 1, .inl (.aload_n 0)), (6, 3, .inr (1, 18, 1, 2, 1138, 0)), (9, 3, .inr (4, 124, 179, 301, 4068, 1)),
  (12, 3, .inr (2, 54, 1, 8, 1144, 0)), (15, 1, .inl (.aload_n 0)), (16, 3, .inr (4, 127, 146, 101, 4044, 0)), (19, 3, .inl (.goto 11)), (22, 1, .inl (.aload_n 0)), (23, 1, .inl (.aload_n 0)),
  (24, 3, .inr (0, 54, 1, 8, 1144, 0)), (27, 3, .inr (2, 46, 1, 9, 1145, 0)), (30, 1, .inl .return_)]
set_option maxRecDepth 100000 in
theorem okX2_endItem : ckM (mt mX2_endItem) kX2_endItem = true := by decide +kernel
def kX2_endAtom : CD := [
  (0, 1, .inl (.aload_n 0)), (1, 3, .inr (1, 34, 1, 5, 1141, 0)), (4, 3, .inr (4, 60, 168, 201, 3239, 1)), (7, 1, .inl (.istore_n 1)), (8, 1, .inl (.iload_n 1)), (9, 3, .inl (.ifCond .le 59)),
  (12, 1, .inl (.aload_n 0)), (13, 3, .inr (1, 34, 1, 5, 1141, 0)), (16, 3, .inr (4, 130, 170, 201, 4021, 1)), (19, 2, .inl (.bipush 13)), (21, 3, .inl (.if_icmp .eq 15)), (24, 1, .inl (.aload_n 0)),
  (25, 3, .inr (1, 34, 1, 5, 1141, 0)), (28, 3, .inr (4, 130, 170, 201, 4021, 1)), (31, 2, .inl (.bipush 14)), (33, 3, .inl (.if_icmp .ne 35)), (36, 1, .inl (.aload_n 0)), (37, 3, .inr (1, 15, 1, 1, 1137, 0)),
  (40, 2, .inl (.bipush 9)), (42, 1, .inl (.aload_n 0)), (43, 3, .inr (1, 34, 1, 5, 1141, 0)), (46, 3, .inr (4, 130, 170, 201, 4021, 1)), (49, 3, .inr (4, 133, 23, 9902, 4022, 1)), (52, 3, .inr (4, 79, 171, 202, 4008, 0)),
  (55, 1, .inl (.aload_n 0)), (56, 3, .inr (1, 34, 1, 5, 1141, 0)), (59, 3, .inr (4, 137, 176, 201, 4043, 0)), (62, 3, .inl (.iinc 1 (-1))), (65, 3, .inl (.goto (-57))), (68, 1, .inl (.aload_n 0)),
  (69, 1, .inl (.iconst 1)), (70, 3, .inr (2, 57, 1, 10, 1146, 0)), (73, 1, .inl .return_)]
set_option maxRecDepth 100000 in
theorem okX2_endAtom : ckM (mt mX2_endAtom) kX2_endAtom = true := by decide +kernel
def kX2_readQuotedSheet : CD := [
  (0, 1, .inl (.aload_n 0)), (1, 3, .inr (1, 18, 1, 2, 1138, 0)), (4, 1, .inl (.aload_n 0)), (5, 3, .inr (0, 54, 1, 8, 1144, 0)), (8, 3, .inr (4, 140, 187, 302, 4083, 1)), (11, 3, .inl (.ifCond .eq 22)),
  (14, 1, .inl (.aload_n 0)), (15, 3, .inr (1, 9, 1, 0, 1136, 0)), (18, 1, .inl (.aload_n 0)), (19, 3, .inr (1, 18, 1, 2, 1138, 0)), (22, 3, .inr (4, 124, 179, 301, 4068, 1)), (25, 3, .inr (4, 50, 169, 202, 3238, 1)),
  (28, 2, .inl (.bipush 33)), (30, 3, .inl (.if_icmp .eq 12)), (33, 1, .inl (.aload_n 0)), (34, 1, .inl (.aload_n 0)), (35, 3, .inr (0, 54, 1, 8, 1144, 0)), (38, 3, .inr (2, 46, 1, 9, 1145, 0)),
  (41, 1, .inl .return_), (42, 1, .inl (.aload_n 0)), (43, 3, .inr (1, 18, 1, 2, 1138, 0)), (46, 3, .inr (4, 143, 180, 301, 4084, 3)), (49, 1, .inl (.astore_n 1)), (50, 1, .inl (.aload_n 0)),
  (51, 1, .inl (.aload_n 0)), (52, 3, .inr (1, 22, 1, 3, 1139, 0)), (55, 1, .inl (.aload_n 1)), (56, 1, .inl (.iconst 0)), (57, 1, .inl (.aload_n 1)), (58, 3, .inr (4, 60, 168, 201, 3239, 1)),
  (61, 3, .inr (4, 147, 199, 504, 4088, 1)), (64, 1, .inl (.aload_n 0)), (65, 3, .inr (1, 18, 1, 2, 1138, 0)), (68, 3, .inr (4, 124, 179, 301, 4068, 1)), (71, 1, .inl (.iconst 1)), (72, 1, .inl .iadd),
  (73, 3, .inr (4, 153, 148, 103, 4089, 0)), (76, 1, .inl .return_)]
set_option maxRecDepth 100000 in
theorem okX2_readQuotedSheet : ckM (mt mX2_readQuotedSheet) kX2_readQuotedSheet = true := by decide +kernel
def kX2_readSheetReference : CD := [
  (0, 1, .inl (.iload_n 1)), (1, 1, .inl (.iconst (-1))), (2, 3, .inl (.if_icmp .ne 14)), (5, 1, .inl (.aload_n 0)), (6, 1, .inl (.aload_n 0)), (7, 3, .inr (0, 54, 1, 8, 1144, 0)),
  (10, 3, .inr (2, 46, 1, 9, 1145, 0)), (13, 3, .inl (.goto 35)), (16, 1, .inl (.aload_n 0)), (17, 3, .inr (1, 18, 1, 2, 1138, 0)), (20, 1, .inl (.iload_n 2)), (21, 3, .inr (4, 114, 191, 302, 4093, 1)),
  (24, 3, .inl (.ifCond .eq 19)), (27, 1, .inl (.aload_n 0)), (28, 3, .inr (1, 18, 1, 2, 1138, 0)), (31, 1, .inl (.iload_n 1)), (32, 3, .inr (4, 117, 192, 302, 4097, 0)), (35, 1, .inl (.aload_n 0)),
  (36, 1, .inl (.iconst 1)), (37, 3, .inr (4, 98, 145, 102, 4064, 0)), (40, 3, .inl (.goto 8)), (43, 1, .inl (.aload_n 0)), (44, 1, .inl (.iload_n 2)), (45, 3, .inr (2, 46, 1, 9, 1145, 0)),
  (48, 1, .inl .return_)]
set_option maxRecDepth 100000 in
theorem okX2_readSheetReference : ckM (mt mX2_readSheetReference) kX2_readSheetReference = true := by decide +kernel
def kX2_readWord : CD := [
  (0, 1, .inl (.aload_n 0)), (1, 3, .inr (1, 9, 1, 0, 1136, 0)), (4, 1, .inl (.aload_n 0)), (5, 3, .inr (0, 54, 1, 8, 1144, 0)), (8, 3, .inr (4, 156, 17, 9902, 4111, 1)), (11, 1, .inl (.istore_n 1)),
  (12, 1, .inl (.aload_n 0)), (13, 3, .inr (1, 9, 1, 0, 1136, 0)), (16, 1, .inl (.iload_n 1)), (17, 3, .inr (4, 50, 169, 202, 3238, 1)), (20, 1, .inl (.istore_n 2)), (21, 1, .inl (.aload_n 0)),
  (22, 3, .inr (1, 18, 1, 2, 1138, 0)), (25, 1, .inl (.aload_n 0)), (26, 3, .inr (0, 54, 1, 8, 1144, 0)), (29, 3, .inr (4, 114, 191, 302, 4093, 1)), (32, 3, .inl (.ifCond .eq 19)), (35, 1, .inl (.aload_n 0)),
  (36, 3, .inr (1, 18, 1, 2, 1138, 0)), (39, 1, .inl (.iconst (-1))), (40, 3, .inr (4, 117, 192, 302, 4097, 0)), (43, 1, .inl (.aload_n 0)), (44, 1, .inl (.iconst 1)), (45, 3, .inr (4, 98, 145, 102, 4064, 0)),
  (48, 3, .inl (.goto 153)), (51, 1, .inl (.iload_n 1)), (52, 1, .inl (.aload_n 0)), (53, 3, .inr (0, 54, 1, 8, 1144, 0)), (56, 1, .inl .isub), (57, 2, .inl (.bipush 40)),
  (59, 3, .inl (.if_icmp .le 14)), (62, 1, .inl (.aload_n 0)), (63, 1, .inl (.aload_n 0)), (64, 3, .inr (0, 54, 1, 8, 1144, 0)), (67, 3, .inr (2, 46, 1, 9, 1145, 0)), (70, 3, .inl (.goto 131)),
  (73, 1, .inl (.iload_n 2)), (74, 2, .inl (.bipush 33)), (76, 3, .inl (.if_icmp .ne 29)), (79, 1, .inl (.aload_n 0)), (80, 1, .inl (.aload_n 0)), (81, 3, .inr (1, 22, 1, 3, 1139, 0)),
  (84, 1, .inl (.aload_n 0)), (85, 3, .inr (1, 9, 1, 0, 1136, 0)), (88, 1, .inl (.aload_n 0)), (89, 3, .inr (0, 54, 1, 8, 1144, 0)), (92, 1, .inl (.iload_n 1)), (93, 3, .inr (4, 147, 199, 504, 4088, 1)),
  (96, 1, .inl (.iload_n 1)), (97, 1, .inl (.iconst 1)), (98, 1, .inl .iadd), (99, 3, .inr (4, 153, 148, 103, 4089, 0)), (102, 3, .inl (.goto 99)), (105, 1, .inl (.iload_n 2)),
  (106, 2, .inl (.bipush 40)), (108, 3, .inl (.if_icmp .ne 44)), (111, 1, .inl (.aload_n 0)), (112, 3, .inr (1, 9, 1, 0, 1136, 0)), (115, 1, .inl (.aload_n 0)), (116, 3, .inr (0, 54, 1, 8, 1144, 0)),
  (119, 1, .inl (.iload_n 1)), (120, 3, .inr (4, 160, 20, 9903, 4112, 1)), (123, 1, .inl (.istore_n 3)), (124, 1, .inl (.aload_n 0)), (125, 1, .inl (.iload_n 3)), (126, 1, .inl (.iconst (-1))),
  (127, 3, .inl (.if_icmp .eq 7)), (130, 1, .inl (.iload_n 3)), (131, 3, .inl (.goto 12)), (134, 3, .inl (.sipush 1000)), (137, 1, .inl (.aload_n 0)), (138, 1, .inl (.iload_n 1)),
  (139, 3, .inr (4, 163, 150, 102, 4117, 1)), (142, 1, .inl .iadd), (143, 1, .inl (.iload_n 1)), (144, 1, .inl (.iconst 1)), (145, 1, .inl .iadd), (146, 3, .inr (4, 82, 151, 103, 4009, 0)),
  (149, 3, .inl (.goto 52)), (152, 1, .inl (.aload_n 0)), (153, 3, .inr (1, 18, 1, 2, 1138, 0)), (156, 1, .inl (.aload_n 0)), (157, 3, .inr (0, 54, 1, 8, 1144, 0)), (160, 1, .inl (.iload_n 1)),
  (161, 3, .inr (4, 166, 190, 303, 4122, 1)), (164, 3, .inl (.ifCond .eq 11)), (167, 1, .inl (.aload_n 0)), (168, 1, .inl (.iconst 1)), (169, 3, .inr (4, 98, 145, 102, 4064, 0)), (172, 3, .inl (.goto 29)),
  (175, 1, .inl (.aload_n 0)), (176, 3, .inr (1, 15, 1, 1, 1137, 0)), (179, 2, .inl (.bipush 6)), (181, 1, .inl (.aload_n 0)), (182, 1, .inl (.iload_n 1)), (183, 3, .inr (4, 163, 150, 102, 4117, 1)),
  (186, 3, .inr (4, 133, 23, 9902, 4022, 1)), (189, 3, .inr (4, 79, 171, 202, 4008, 0)), (192, 1, .inl (.aload_n 0)), (193, 1, .inl (.iload_n 1)), (194, 3, .inr (2, 54, 1, 8, 1144, 0)), (197, 1, .inl (.aload_n 0)),
  (198, 3, .inr (4, 127, 146, 101, 4044, 0)), (201, 1, .inl .return_)]
set_option maxRecDepth 100000 in
theorem okX2_readWord : ckM (mt mX2_readWord) kX2_readWord = true := by decide +kernel
def kX2_nameNumber : CD := [
  (0, 1, .inl (.aload_n 0)), (1, 3, .inr (1, 26, 1, 4, 1140, 0)), (4, 1, .inl (.aload_n 0)), (5, 3, .inr (1, 9, 1, 0, 1136, 0)), (8, 1, .inl (.aload_n 0)), (9, 3, .inr (0, 54, 1, 8, 1144, 0)),
  (12, 1, .inl (.iload_n 1)), (13, 3, .inr (4, 147, 199, 504, 4088, 1)), (16, 1, .inl (.istore_n 2)), (17, 1, .inl (.iload_n 2)), (18, 1, .inl (.iconst (-1))), (19, 3, .inl (.if_icmp .eq 7)),
  (22, 1, .inl (.iload_n 2)), (23, 3, .inl (.goto 19)), (26, 1, .inl (.aload_n 0)), (27, 3, .inr (1, 26, 1, 4, 1140, 0)), (30, 1, .inl (.aload_n 0)), (31, 3, .inr (1, 9, 1, 0, 1136, 0)),
  (34, 1, .inl (.aload_n 0)), (35, 3, .inr (0, 54, 1, 8, 1144, 0)), (38, 1, .inl (.iload_n 1)), (39, 3, .inr (4, 169, 200, 504, 4121, 1)), (42, 1, .inl .ireturn)]
set_option maxRecDepth 100000 in
theorem okX2_nameNumber : ckM (mt mX2_nameNumber) kX2_nameNumber = true := by decide +kernel
def kX2_open : CD := [
  (0, 1, .inl (.aload_n 0)), (1, 3, .inr (1, 37, 1, 6, 1142, 0)), (4, 3, .inr (4, 60, 168, 201, 3239, 1)), (7, 2, .inl (.bipush 60)), (9, 3, .inl (.if_icmp .lt 12)), (12, 1, .inl (.aload_n 0)),
  (13, 1, .inl (.aload_n 0)), (14, 3, .inr (0, 54, 1, 8, 1144, 0)), (17, 3, .inr (2, 46, 1, 9, 1145, 0)), (20, 1, .inl .return_), (21, 1, .inl (.aload_n 0)), (22, 3, .inr (1, 34, 1, 5, 1141, 0)),
  (25, 2, .inl (.bipush 15)), (27, 3, .inr (4, 79, 171, 202, 4008, 0)), (30, 1, .inl (.aload_n 0)), (31, 3, .inr (1, 37, 1, 6, 1142, 0)), (34, 1, .inl (.iload_n 1)), (35, 3, .inr (4, 79, 171, 202, 4008, 0)),
  (38, 1, .inl (.aload_n 0)), (39, 3, .inr (1, 40, 1, 7, 1143, 0)), (42, 1, .inl (.iconst 0)), (43, 3, .inr (4, 79, 171, 202, 4008, 0)), (46, 1, .inl (.aload_n 0)), (47, 1, .inl (.iload_n 2)),
  (48, 3, .inr (2, 54, 1, 8, 1144, 0)), (51, 1, .inl .return_)]
set_option maxRecDepth 100000 in
theorem okX2_open : ckM (mt mX2_open) kX2_open = true := by decide +kernel
def kX2_isInCall : CD := [
  (0, 1, .inl (.aload_n 0)), (1, 3, .inr (1, 37, 1, 6, 1142, 0)), (4, 3, .inr (4, 60, 168, 201, 3239, 1)), (7, 3, .inl (.ifCond .le 18)), (10, 1, .inl (.aload_n 0)), (11, 3, .inr (1, 37, 1, 6, 1142, 0)),
  (14, 3, .inr (4, 130, 170, 201, 4021, 1)), (17, 1, .inl (.iconst (-1))), (18, 3, .inl (.if_icmp .eq 7)), (21, 1, .inl (.iconst 1)), (22, 3, .inl (.goto 4)), (25, 1, .inl (.iconst 0)),
  (26, 1, .inr (11, 0, 0, 0, 0, 0))]
set_option maxRecDepth 100000 in
theorem okX2_isInCall : ckM (mt mX2_isInCall) kX2_isInCall = true := by decide +kernel
def kX2_leaveOut : CD := [
  (0, 1, .inl (.aload_n 0)), (1, 3, .inr (4, 171, 152, 101, 4017, 1)), (4, 3, .inl (.ifCond .eq 15)), (7, 1, .inl (.aload_n 0)), (8, 3, .inr (1, 34, 1, 5, 1141, 0)), (11, 3, .inr (4, 130, 170, 201, 4021, 1)),
  (14, 2, .inl (.bipush 15)), (16, 3, .inl (.if_icmp .eq 12)), (19, 1, .inl (.aload_n 0)), (20, 1, .inl (.aload_n 0)), (21, 3, .inr (0, 54, 1, 8, 1144, 0)), (24, 3, .inr (2, 46, 1, 9, 1145, 0)),
  (27, 1, .inl .return_), (28, 1, .inl (.iload_n 1)), (29, 2, .inl (.bipush 41)), (31, 3, .inl (.if_icmp .ne 17)), (34, 1, .inl (.aload_n 0)), (35, 3, .inr (1, 40, 1, 7, 1143, 0)),
  (38, 3, .inr (4, 130, 170, 201, 4021, 1)), (41, 3, .inl (.ifCond .ne 7)), (44, 1, .inl (.iconst 1)), (45, 3, .inl (.goto 4)), (48, 1, .inl (.iconst 0)), (49, 1, .inl (.istore_n 2)),
  (50, 1, .inl (.iload_n 2)), (51, 3, .inl (.ifCond .ne 16)), (54, 1, .inl (.aload_n 0)), (55, 3, .inr (1, 15, 1, 1, 1137, 0)), (58, 2, .inl (.bipush 7)), (60, 1, .inl (.iconst 0)),
  (61, 3, .inr (4, 133, 23, 9902, 4022, 1)), (64, 3, .inr (4, 79, 171, 202, 4008, 0)), (67, 1, .inl (.iload_n 1)), (68, 2, .inl (.bipush 44)), (70, 3, .inl (.if_icmp .ne 10)), (73, 1, .inl (.aload_n 0)),
  (74, 3, .inr (4, 175, 154, 101, 4025, 0)), (77, 3, .inl (.goto 24)), (80, 1, .inl (.aload_n 0)), (81, 1, .inl (.iload_n 2)), (82, 3, .inl (.ifCond .eq 7)), (85, 1, .inl (.iconst 0)),
  (86, 3, .inl (.goto 12)), (89, 1, .inl (.aload_n 0)), (90, 3, .inr (1, 40, 1, 7, 1143, 0)), (93, 3, .inr (4, 130, 170, 201, 4021, 1)), (96, 1, .inl (.iconst 1)), (97, 1, .inl .iadd),
  (98, 3, .inr (4, 178, 155, 102, 4030, 0)), (101, 1, .inl .return_)]
set_option maxRecDepth 100000 in
theorem okX2_leaveOut : ckM (mt mX2_leaveOut) kX2_leaveOut = true := by decide +kernel
def kX2_passComma : CD := [
  (0, 1, .inl (.aload_n 0)), (1, 3, .inr (1, 40, 1, 7, 1143, 0)), (4, 3, .inr (4, 130, 170, 201, 4021, 1)), (7, 1, .inl (.iconst 1)), (8, 1, .inl .iadd), (9, 1, .inl (.istore_n 1)),
  (10, 1, .inl (.iload_n 1)), (11, 2, .inl (.bipush 30)), (13, 3, .inl (.if_icmp .lt 12)), (16, 1, .inl (.aload_n 0)), (17, 1, .inl (.aload_n 0)), (18, 3, .inr (0, 54, 1, 8, 1144, 0)),
  (21, 3, .inr (2, 46, 1, 9, 1145, 0)), (24, 1, .inl .return_), (25, 1, .inl (.aload_n 0)), (26, 3, .inr (1, 40, 1, 7, 1143, 0)), (29, 1, .inl (.iload_n 1)), (30, 3, .inr (4, 181, 172, 202, 4029, 0)),
  (33, 1, .inl (.aload_n 0)), (34, 1, .inl .dup), (35, 3, .inr (0, 54, 1, 8, 1144, 0)), (38, 1, .inl (.iconst 1)), (39, 1, .inl .iadd), (40, 3, .inr (2, 54, 1, 8, 1144, 0)),
  (43, 1, .inl (.aload_n 0)), (44, 1, .inl (.iconst 0)), (45, 3, .inr (2, 57, 1, 10, 1146, 0)), (48, 1, .inl .return_)]
set_option maxRecDepth 100000 in
theorem okX2_passComma : ckM (mt mX2_passComma) kX2_passComma = true := by decide +kernel
def kX2_closeCall : CD := [
  (0, 1, .inl (.aload_n 0)), (1, 3, .inr (1, 37, 1, 6, 1142, 0)), (4, 3, .inr (4, 130, 170, 201, 4021, 1)), (7, 1, .inl (.istore_n 2)), (8, 1, .inl (.iload_n 2)), (9, 3, .inl (.sipush 1000)),
  (12, 3, .inl (.if_icmp .lt 31)), (15, 1, .inl (.aload_n 0)), (16, 3, .inr (1, 15, 1, 1, 1137, 0)), (19, 2, .inl (.bipush 11)), (21, 1, .inl (.iload_n 1)), (22, 3, .inr (4, 133, 23, 9902, 4022, 1)),
  (25, 3, .inr (4, 79, 171, 202, 4008, 0)), (28, 1, .inl (.aload_n 0)), (29, 3, .inr (1, 15, 1, 1, 1137, 0)), (32, 1, .inl (.iload_n 2)), (33, 3, .inl (.sipush 1000)), (36, 1, .inl .isub),
  (37, 3, .inr (4, 79, 171, 202, 4008, 0)), (40, 3, .inl (.goto 57)), (43, 1, .inl (.iload_n 2)), (44, 3, .inl (.ifCond .lt 44)), (47, 1, .inl (.iload_n 2)), (48, 3, .inr (8, 184, 0, 0, 4034, 0)),
  (51, 1, .inr (13, 0, 0, 0, 0, 0)), (52, 3, .inl (.if_icmp .ge 36)), (55, 3, .inr (8, 184, 0, 0, 4034, 0)), (58, 1, .inl (.iload_n 2)), (59, 1, .inl .aaload), (60, 1, .inl (.iload_n 1)),
  (61, 3, .inr (12, 188, 0, 0, 4035, 0)), (64, 3, .inl (.ifCond .eq 24)), (67, 1, .inl (.aload_n 0)), (68, 3, .inr (1, 15, 1, 1, 1137, 0)), (71, 2, .inl (.bipush 10)), (73, 1, .inl (.iload_n 1)),
  (74, 2, .inl (.bipush 64)), (76, 1, .inl (.iload_n 2)), (77, 1, .inl .imul), (78, 1, .inl .iadd), (79, 3, .inr (4, 133, 23, 9902, 4022, 1)), (82, 3, .inr (4, 79, 171, 202, 4008, 0)),
  (85, 3, .inl (.goto 12)), (88, 1, .inl (.aload_n 0)), (89, 1, .inl (.aload_n 0)), (90, 3, .inr (0, 54, 1, 8, 1144, 0)), (93, 3, .inr (2, 46, 1, 9, 1145, 0)), (96, 1, .inl .return_),
  (97, 1, .inl (.aload_n 0)), (98, 3, .inr (4, 193, 156, 101, 4039, 0)), (101, 1, .inl .return_)]
def kX2_leave : CD := [
  (0, 1, .inl (.aload_n 0)), (1, 3, .inr (1, 34, 1, 5, 1141, 0)), (4, 3, .inr (4, 137, 176, 201, 4043, 0)), (7, 1, .inl (.aload_n 0)), (8, 3, .inr (1, 37, 1, 6, 1142, 0)), (11, 3, .inr (4, 137, 176, 201, 4043, 0)),
  (14, 1, .inl (.aload_n 0)), (15, 3, .inr (1, 40, 1, 7, 1143, 0)), (18, 3, .inr (4, 137, 176, 201, 4043, 0)), (21, 1, .inl (.aload_n 0)), (22, 1, .inl .dup), (23, 3, .inr (0, 54, 1, 8, 1144, 0)),
  (26, 1, .inl (.iconst 1)), (27, 1, .inl .iadd), (28, 3, .inr (2, 54, 1, 8, 1144, 0)), (31, 1, .inl (.aload_n 0)), (32, 3, .inr (4, 127, 146, 101, 4044, 0)), (35, 1, .inl .return_)]
set_option maxRecDepth 100000 in
theorem okX2_leave : ckM (mt mX2_leave) kX2_leave = true := by decide +kernel
def kX2_readOperator : CD := [
  (0, 1, .inl (.aload_n 0)), (1, 3, .inr (1, 9, 1, 0, 1136, 0)), (4, 1, .inl (.aload_n 0)), (5, 3, .inr (0, 54, 1, 8, 1144, 0)), (8, 3, .inr (4, 50, 169, 202, 3238, 1)), (11, 1, .inl (.istore_n 1)),
  (12, 1, .inl (.aload_n 0)), (13, 3, .inr (0, 54, 1, 8, 1144, 0)), (16, 1, .inl (.aload_n 0)), (17, 3, .inr (1, 9, 1, 0, 1136, 0)), (20, 3, .inr (4, 60, 168, 201, 3239, 1)), (23, 3, .inl (.if_icmp .lt 10)),
  (26, 1, .inl (.aload_n 0)), (27, 3, .inr (4, 196, 158, 101, 4154, 0)), (30, 3, .inl (.goto 95)), (33, 1, .inl (.iload_n 1)), (34, 2, .inl (.bipush 37)), (36, 3, .inl (.if_icmp .ne 30)),
  (39, 1, .inl (.aload_n 0)), (40, 3, .inr (1, 15, 1, 1, 1137, 0)), (43, 2, .inl (.bipush 9)), (45, 2, .inl (.bipush 12)), (47, 3, .inr (4, 133, 23, 9902, 4022, 1)), (50, 3, .inr (4, 79, 171, 202, 4008, 0)),
  (53, 1, .inl (.aload_n 0)), (54, 1, .inl .dup), (55, 3, .inr (0, 54, 1, 8, 1144, 0)), (58, 1, .inl (.iconst 1)), (59, 1, .inl .iadd), (60, 3, .inr (2, 54, 1, 8, 1144, 0)),
  (63, 3, .inl (.goto 62)), (66, 1, .inl (.iload_n 1)), (67, 2, .inl (.bipush 41)), (69, 3, .inl (.if_icmp .ne 10)), (72, 1, .inl (.aload_n 0)), (73, 3, .inr (4, 199, 159, 101, 4165, 0)),
  (76, 3, .inl (.goto 49)), (79, 1, .inl (.iload_n 1)), (80, 2, .inl (.bipush 44)), (82, 3, .inl (.if_icmp .ne 22)), (85, 1, .inl (.aload_n 0)), (86, 3, .inr (4, 171, 152, 101, 4017, 1)),
  (89, 3, .inl (.ifCond .eq 15)), (92, 1, .inl (.aload_n 0)), (93, 1, .inl (.iconst 1)), (94, 3, .inr (4, 202, 161, 102, 4158, 0)), (97, 1, .inl (.aload_n 0)), (98, 3, .inr (4, 175, 154, 101, 4025, 0)),
  (101, 3, .inl (.goto 24)), (104, 1, .inl (.aload_n 0)), (105, 1, .inl (.iload_n 1)), (106, 1, .inl (.aload_n 0)), (107, 3, .inr (1, 9, 1, 0, 1136, 0)), (110, 1, .inl (.aload_n 0)),
  (111, 3, .inr (0, 54, 1, 8, 1144, 0)), (114, 1, .inl (.iconst 1)), (115, 1, .inl .iadd), (116, 3, .inr (4, 50, 169, 202, 3238, 1)), (119, 3, .inr (4, 205, 162, 9902, 4169, 1)), (122, 3, .inr (4, 208, 160, 102, 4172, 0)),
  (125, 1, .inl .return_)]
set_option maxRecDepth 100000 in
theorem okX2_readOperator : ckM (mt mX2_readOperator) kX2_readOperator = true := by decide +kernel
def kX2_endText : CD := [
  (0, 1, .inl (.aload_n 0)), (1, 3, .inr (1, 37, 1, 6, 1142, 0)), (4, 3, .inr (4, 60, 168, 201, 3239, 1)), (7, 3, .inl (.ifCond .le 12)), (10, 1, .inl (.aload_n 0)), (11, 1, .inl (.aload_n 0)),
  (12, 3, .inr (0, 54, 1, 8, 1144, 0)), (15, 3, .inr (2, 46, 1, 9, 1145, 0)), (18, 1, .inl .return_), (19, 1, .inl (.aload_n 0)), (20, 1, .inl (.iconst 1)), (21, 3, .inr (4, 202, 161, 102, 4158, 0)),
  (24, 1, .inl (.aload_n 0)), (25, 1, .inl (.iconst 4)), (26, 3, .inr (2, 57, 1, 10, 1146, 0)), (29, 1, .inl .return_)]
set_option maxRecDepth 100000 in
theorem okX2_endText : ckM (mt mX2_endText) kX2_endText = true := by decide +kernel
def kX2_closeBracket : CD := [
  (0, 1, .inl (.aload_n 0)), (1, 3, .inr (1, 37, 1, 6, 1142, 0)), (4, 3, .inr (4, 60, 168, 201, 3239, 1)), (7, 3, .inl (.ifCond .ne 12)), (10, 1, .inl (.aload_n 0)), (11, 1, .inl (.aload_n 0)),
  (12, 3, .inr (0, 54, 1, 8, 1144, 0)), (15, 3, .inr (2, 46, 1, 9, 1145, 0)), (18, 1, .inl .return_), (19, 1, .inl (.aload_n 0)), (20, 1, .inl (.iconst 1)), (21, 3, .inr (4, 202, 161, 102, 4158, 0)),
  (24, 1, .inl (.aload_n 0)), (25, 3, .inr (4, 171, 152, 101, 4017, 1)), (28, 3, .inl (.ifCond .eq 19)), (31, 1, .inl (.aload_n 0)), (32, 1, .inl (.aload_n 0)), (33, 3, .inr (1, 40, 1, 7, 1143, 0)),
  (36, 3, .inr (4, 130, 170, 201, 4021, 1)), (39, 1, .inl (.iconst 1)), (40, 1, .inl .iadd), (41, 3, .inr (4, 178, 155, 102, 4030, 0)), (44, 3, .inl (.goto 21)), (47, 1, .inl (.aload_n 0)),
  (48, 3, .inr (1, 15, 1, 1, 1137, 0)), (51, 2, .inl (.bipush 9)), (53, 2, .inl (.bipush 15)), (55, 3, .inr (4, 133, 23, 9902, 4022, 1)), (58, 3, .inr (4, 79, 171, 202, 4008, 0)), (61, 1, .inl (.aload_n 0)),
  (62, 3, .inr (4, 193, 156, 101, 4039, 0)), (65, 1, .inl .return_)]
set_option maxRecDepth 100000 in
theorem okX2_closeBracket : ckM (mt mX2_closeBracket) kX2_closeBracket = true := by decide +kernel
def kX2_joinOperands : CD := [
  (0, 1, .inl (.iload_n 1)), (1, 1, .inl (.iconst (-1))), (2, 3, .inl (.if_icmp .ne 12)), (5, 1, .inl (.aload_n 0)), (6, 1, .inl (.aload_n 0)), (7, 3, .inr (0, 54, 1, 8, 1144, 0)),
  (10, 3, .inr (2, 46, 1, 9, 1145, 0)), (13, 1, .inl .return_), (14, 1, .inl (.aload_n 0)), (15, 1, .inl (.iload_n 1)), (16, 3, .inr (4, 211, 163, 9901, 4162, 1)), (19, 3, .inr (4, 202, 161, 102, 4158, 0)),
  (22, 1, .inl (.aload_n 0)), (23, 3, .inr (1, 34, 1, 5, 1141, 0)), (26, 1, .inl (.iload_n 1)), (27, 3, .inr (4, 79, 171, 202, 4008, 0)), (30, 1, .inl (.aload_n 0)), (31, 1, .inl .dup),
  (32, 3, .inr (0, 54, 1, 8, 1144, 0)), (35, 1, .inl (.iload_n 1)), (36, 3, .inr (4, 214, 22, 9901, 4176, 3)), (39, 3, .inr (4, 218, 203, 801, 4177, 1)), (42, 1, .inl .iadd), (43, 3, .inr (2, 54, 1, 8, 1144, 0)),
  (46, 1, .inl (.aload_n 0)), (47, 1, .inl (.iconst 0)), (48, 3, .inr (2, 57, 1, 10, 1146, 0)), (51, 1, .inl .return_)]
set_option maxRecDepth 100000 in
theorem okX2_joinOperands : ckM (mt mX2_joinOperands) kX2_joinOperands = true := by decide +kernel
def kX2_writeWaiting : CD := [
  (0, 1, .inl (.aload_n 0)), (1, 3, .inr (1, 34, 1, 5, 1141, 0)), (4, 3, .inr (4, 60, 168, 201, 3239, 1)), (7, 1, .inl (.istore_n 2)), (8, 1, .inl (.iload_n 2)), (9, 3, .inl (.ifCond .le 49)),
  (12, 1, .inl (.aload_n 0)), (13, 3, .inr (1, 34, 1, 5, 1141, 0)), (16, 3, .inr (4, 130, 170, 201, 4021, 1)), (19, 3, .inr (4, 211, 163, 9901, 4162, 1)), (22, 1, .inl (.iload_n 1)), (23, 3, .inl (.if_icmp .lt 35)),
  (26, 1, .inl (.aload_n 0)), (27, 3, .inr (1, 15, 1, 1, 1137, 0)), (30, 2, .inl (.bipush 9)), (32, 1, .inl (.aload_n 0)), (33, 3, .inr (1, 34, 1, 5, 1141, 0)), (36, 3, .inr (4, 130, 170, 201, 4021, 1)),
  (39, 3, .inr (4, 133, 23, 9902, 4022, 1)), (42, 3, .inr (4, 79, 171, 202, 4008, 0)), (45, 1, .inl (.aload_n 0)), (46, 3, .inr (1, 34, 1, 5, 1141, 0)), (49, 3, .inr (4, 137, 176, 201, 4043, 0)), (52, 3, .inl (.iinc 2 (-1))),
  (55, 3, .inl (.goto (-47))), (58, 1, .inl .return_)]
set_option maxRecDepth 100000 in
theorem okX2_writeWaiting : ckM (mt mX2_writeWaiting) kX2_writeWaiting = true := by decide +kernel
def kX2_operationAt : CD := [
  (0, 1, .inl (.iload_n 0)), (1, 83, .inl (.lookupswitch 137 #[(38, 119), (42, 128), (43, 122), (45, 125), (47, 131), (60, 85), (61, 83), (62, 107), (94, 134)])), (84, 1, .inl (.iconst 0)), (85, 1, .inl .ireturn), (86, 1, .inl (.iload_n 1)), (87, 2, .inl (.bipush 62)),
  (89, 3, .inl (.if_icmp .ne 7)), (92, 1, .inl (.iconst 1)), (93, 3, .inl (.goto 14)), (96, 1, .inl (.iload_n 1)), (97, 2, .inl (.bipush 61)), (99, 3, .inl (.if_icmp .ne 7)),
  (102, 1, .inl (.iconst 3)), (103, 3, .inl (.goto 4)), (106, 1, .inl (.iconst 2)), (107, 1, .inl .ireturn), (108, 1, .inl (.iload_n 1)), (109, 2, .inl (.bipush 61)),
  (111, 3, .inl (.if_icmp .ne 7)), (114, 1, .inl (.iconst 5)), (115, 3, .inl (.goto 4)), (118, 1, .inl (.iconst 4)), (119, 1, .inl .ireturn), (120, 2, .inl (.bipush 6)),
  (122, 1, .inl .ireturn), (123, 2, .inl (.bipush 7)), (125, 1, .inl .ireturn), (126, 2, .inl (.bipush 8)), (128, 1, .inl .ireturn), (129, 2, .inl (.bipush 9)),
  (131, 1, .inl .ireturn), (132, 2, .inl (.bipush 10)), (134, 1, .inl .ireturn), (135, 2, .inl (.bipush 11)), (137, 1, .inl .ireturn), (138, 1, .inl (.iconst (-1))),
  (139, 1, .inl .ireturn)]
set_option maxRecDepth 100000 in
theorem okX2_operationAt : ckM (mt mX2_operationAt) kX2_operationAt = true := by decide +kernel
def kX2_tightness : CD := [
  (0, 1, .inl (.iload_n 0)), (1, 3, .inl (.ifCond .lt 9)), (4, 1, .inl (.iload_n 0)), (5, 2, .inl (.bipush 11)), (7, 3, .inl (.if_icmp .le 5)), (10, 1, .inl (.iconst 0)),
  (11, 1, .inl .ireturn), (12, 1, .inl (.iload_n 0)), (13, 1, .inl (.iconst 5)), (14, 3, .inl (.if_icmp .gt 7)), (17, 1, .inl (.iconst 1)), (18, 3, .inl (.goto 34)),
  (21, 1, .inl (.iload_n 0)), (22, 2, .inl (.bipush 6)), (24, 3, .inl (.if_icmp .ne 7)), (27, 1, .inl (.iconst 2)), (28, 3, .inl (.goto 24)), (31, 1, .inl (.iload_n 0)),
  (32, 2, .inl (.bipush 8)), (34, 3, .inl (.if_icmp .gt 7)), (37, 1, .inl (.iconst 3)), (38, 3, .inl (.goto 14)), (41, 1, .inl (.iload_n 0)), (42, 2, .inl (.bipush 10)),
  (44, 3, .inl (.if_icmp .gt 7)), (47, 1, .inl (.iconst 4)), (48, 3, .inl (.goto 4)), (51, 1, .inl (.iconst 5)), (52, 1, .inl .ireturn)]
set_option maxRecDepth 100000 in
theorem okX2_tightness : ckM (mt mX2_tightness) kX2_tightness = true := by decide +kernel
def kX2_openArray : CD := [
  (0, 1, .inl (.aload_n 0)), (1, 3, .inr (1, 37, 1, 6, 1142, 0)), (4, 3, .inr (4, 60, 168, 201, 3239, 1)), (7, 2, .inl (.bipush 60)), (9, 3, .inl (.if_icmp .lt 12)), (12, 1, .inl (.aload_n 0)),
  (13, 1, .inl (.aload_n 0)), (14, 3, .inr (0, 54, 1, 8, 1144, 0)), (17, 3, .inr (2, 46, 1, 9, 1145, 0)), (20, 1, .inl .return_), (21, 1, .inl (.aload_n 0)), (22, 1, .inl (.iconst 0)),
  (23, 3, .inr (2, 223, 1, 11, 1147, 0)), (26, 1, .inl (.aload_n 0)), (27, 1, .inl (.iconst 0)), (28, 3, .inr (2, 226, 1, 12, 1148, 0)), (31, 1, .inl (.aload_n 0)), (32, 1, .inl (.iconst 1)),
  (33, 3, .inr (2, 229, 1, 13, 1149, 0)), (36, 1, .inl (.aload_n 0)), (37, 1, .inl (.iconst (-1))), (38, 3, .inr (2, 232, 1, 14, 1150, 0)), (41, 1, .inl (.aload_n 0)), (42, 1, .inl .dup),
  (43, 3, .inr (0, 54, 1, 8, 1144, 0)), (46, 1, .inl (.iconst 1)), (47, 1, .inl .iadd), (48, 3, .inr (2, 54, 1, 8, 1144, 0)), (51, 1, .inl (.aload_n 0)), (52, 1, .inl (.iconst 2)),
  (53, 3, .inr (2, 57, 1, 10, 1146, 0)), (56, 1, .inl .return_)]
set_option maxRecDepth 100000 in
theorem okX2_openArray : ckM (mt mX2_openArray) kX2_openArray = true := by decide +kernel
def kX2_readElement : CD := [
  (0, 1, .inl (.aload_n 0)), (1, 3, .inr (1, 9, 1, 0, 1136, 0)), (4, 1, .inl (.aload_n 0)), (5, 3, .inr (0, 54, 1, 8, 1144, 0)), (8, 3, .inr (4, 50, 169, 202, 3238, 1)), (11, 2, .inl (.bipush 45)),
  (13, 3, .inl (.if_icmp .ne 7)), (16, 1, .inl (.iconst 1)), (17, 3, .inl (.goto 4)), (20, 1, .inl (.iconst 0)), (21, 1, .inl (.istore_n 1)), (22, 1, .inl (.aload_n 0)),
  (23, 1, .inl .dup), (24, 3, .inr (0, 54, 1, 8, 1144, 0)), (27, 1, .inl (.iload_n 1)), (28, 1, .inl .iadd), (29, 3, .inr (2, 54, 1, 8, 1144, 0)), (32, 1, .inl (.aload_n 0)),
  (33, 3, .inr (4, 64, 143, 101, 4000, 0)), (36, 1, .inl (.aload_n 0)), (37, 1, .inl (.aload_n 0)), (38, 3, .inr (1, 9, 1, 0, 1136, 0)), (41, 1, .inl (.aload_n 0)), (42, 3, .inr (0, 54, 1, 8, 1144, 0)),
  (45, 3, .inr (4, 50, 169, 202, 3238, 1)), (48, 1, .inl (.iload_n 1)), (49, 3, .inr (4, 235, 166, 103, 4182, 1)), (52, 3, .inl (.ifCond .ne 12)), (55, 1, .inl (.aload_n 0)), (56, 1, .inl (.aload_n 0)),
  (57, 3, .inr (0, 54, 1, 8, 1144, 0)), (60, 3, .inr (2, 46, 1, 9, 1145, 0)), (63, 1, .inl .return_), (64, 1, .inl (.aload_n 0)), (65, 1, .inl (.aload_n 0)), (66, 3, .inr (1, 18, 1, 2, 1138, 0)),
  (69, 3, .inr (4, 124, 179, 301, 4068, 1)), (72, 3, .inr (2, 54, 1, 8, 1144, 0)), (75, 1, .inl (.aload_n 0)), (76, 1, .inl .dup), (77, 3, .inr (0, 223, 1, 11, 1147, 0)), (80, 1, .inl (.iconst 1)),
  (81, 1, .inl .iadd), (82, 3, .inr (2, 223, 1, 11, 1147, 0)), (85, 1, .inl (.aload_n 0)), (86, 1, .inl .dup), (87, 3, .inr (0, 226, 1, 12, 1148, 0)), (90, 1, .inl (.iconst 1)),
  (91, 1, .inl .iadd), (92, 3, .inr (2, 226, 1, 12, 1148, 0)), (95, 1, .inl (.aload_n 0)), (96, 1, .inl (.iconst 3)), (97, 3, .inr (2, 57, 1, 10, 1146, 0)), (100, 1, .inl .return_)]
set_option maxRecDepth 100000 in
theorem okX2_readElement : ckM (mt mX2_readElement) kX2_readElement = true := by decide +kernel
def kX2_isElement : CD := [
  (0, 1, .inl (.iload_n 1)), (1, 3, .inr (4, 238, 13, 9901, 4186, 1)), (4, 3, .inl (.ifCond .ne 9)), (7, 1, .inl (.iload_n 1)), (8, 2, .inl (.bipush 46)), (10, 3, .inl (.if_icmp .ne 38)),
  (13, 1, .inl (.aload_n 0)), (14, 3, .inr (1, 18, 1, 2, 1138, 0)), (17, 1, .inl (.aload_n 0)), (18, 3, .inr (0, 54, 1, 8, 1144, 0)), (21, 3, .inr (4, 114, 191, 302, 4093, 1)), (24, 3, .inl (.ifCond .ne 22)),
  (27, 1, .inl (.aload_n 0)), (28, 3, .inr (1, 18, 1, 2, 1138, 0)), (31, 1, .inl (.aload_n 0)), (32, 3, .inr (0, 54, 1, 8, 1144, 0)), (35, 1, .inl (.iload_n 2)), (36, 3, .inr (4, 120, 183, 303, 4126, 1)),
  (39, 3, .inl (.ifCond .eq 7)), (42, 1, .inl (.iconst 1)), (43, 3, .inl (.goto 4)), (46, 1, .inl (.iconst 0)), (47, 1, .inr (11, 0, 0, 0, 0, 0)), (48, 1, .inl (.iload_n 2)),
  (49, 1, .inl (.iconst 1)), (50, 3, .inl (.if_icmp .ne 5)), (53, 1, .inl (.iconst 0)), (54, 1, .inr (11, 0, 0, 0, 0, 0)), (55, 1, .inl (.iload_n 1)), (56, 2, .inl (.bipush 34)),
  (58, 3, .inl (.if_icmp .ne 15)), (61, 1, .inl (.aload_n 0)), (62, 3, .inr (1, 18, 1, 2, 1138, 0)), (65, 1, .inl (.aload_n 0)), (66, 3, .inr (0, 54, 1, 8, 1144, 0)), (69, 3, .inr (4, 92, 188, 302, 4052, 1)),
  (72, 1, .inr (11, 0, 0, 0, 0, 0)), (73, 1, .inl (.iload_n 1)), (74, 2, .inl (.bipush 35)), (76, 3, .inl (.if_icmp .ne 15)), (79, 1, .inl (.aload_n 0)), (80, 3, .inr (1, 18, 1, 2, 1138, 0)),
  (83, 1, .inl (.aload_n 0)), (84, 3, .inr (0, 54, 1, 8, 1144, 0)), (87, 3, .inr (4, 102, 189, 302, 4072, 1)), (90, 1, .inr (11, 0, 0, 0, 0, 0)), (91, 1, .inl (.aload_n 0)), (92, 3, .inr (1, 9, 1, 0, 1136, 0)),
  (95, 1, .inl (.aload_n 0)), (96, 3, .inr (0, 54, 1, 8, 1144, 0)), (99, 3, .inr (4, 156, 17, 9902, 4111, 1)), (102, 1, .inl (.istore_n 3)), (103, 1, .inl (.aload_n 0)), (104, 3, .inr (1, 9, 1, 0, 1136, 0)),
  (107, 1, .inl (.iload_n 3)), (108, 3, .inr (4, 50, 169, 202, 3238, 1)), (111, 2, .inl (.istore 4)), (113, 2, .inl (.iload 4)), (115, 2, .inl (.bipush 40)), (117, 3, .inl (.if_icmp .eq 29)),
  (120, 2, .inl (.iload 4)), (122, 2, .inl (.bipush 33)), (124, 3, .inl (.if_icmp .eq 22)), (127, 1, .inl (.aload_n 0)), (128, 3, .inr (1, 18, 1, 2, 1138, 0)), (131, 1, .inl (.aload_n 0)),
  (132, 3, .inr (0, 54, 1, 8, 1144, 0)), (135, 1, .inl (.iload_n 3)), (136, 3, .inr (4, 166, 190, 303, 4122, 1)), (139, 3, .inl (.ifCond .eq 7)), (142, 1, .inl (.iconst 1)), (143, 3, .inl (.goto 4)),
  (146, 1, .inl (.iconst 0)), (147, 1, .inr (11, 0, 0, 0, 0, 0))]
set_option maxRecDepth 100000 in
theorem okX2_isElement : ckM (mt mX2_isElement) kX2_isElement = true := by decide +kernel
def kX2_readSeparator : CD := [
  (0, 1, .inl (.aload_n 0)), (1, 3, .inr (1, 9, 1, 0, 1136, 0)), (4, 1, .inl (.aload_n 0)), (5, 3, .inr (0, 54, 1, 8, 1144, 0)), (8, 3, .inr (4, 50, 169, 202, 3238, 1)), (11, 1, .inl (.istore_n 1)),
  (12, 1, .inl (.aload_n 0)), (13, 3, .inr (0, 232, 1, 14, 1150, 0)), (16, 1, .inl (.iconst (-1))), (17, 3, .inl (.if_icmp .eq 14)), (20, 1, .inl (.aload_n 0)), (21, 3, .inr (0, 226, 1, 12, 1148, 0)),
  (24, 1, .inl (.aload_n 0)), (25, 3, .inr (0, 232, 1, 14, 1150, 0)), (28, 3, .inl (.if_icmp .ne 7)), (31, 1, .inl (.iconst 1)), (32, 3, .inl (.goto 4)), (35, 1, .inl (.iconst 0)),
  (36, 1, .inl (.istore_n 2)), (37, 1, .inl (.aload_n 0)), (38, 3, .inr (0, 223, 1, 11, 1147, 0)), (41, 3, .inl (.sipush 256)), (44, 3, .inl (.if_icmp .ge 7)), (47, 1, .inl (.iconst 1)),
  (48, 3, .inl (.goto 4)), (51, 1, .inl (.iconst 0)), (52, 1, .inl (.istore_n 3)), (53, 1, .inl (.iload_n 1)), (54, 2, .inl (.bipush 44)), (56, 3, .inl (.if_icmp .ne 44)),
  (59, 1, .inl (.iload_n 3)), (60, 3, .inl (.ifCond .eq 40)), (63, 1, .inl (.aload_n 0)), (64, 3, .inr (0, 232, 1, 14, 1150, 0)), (67, 1, .inl (.iconst (-1))), (68, 3, .inl (.if_icmp .eq 14)),
  (71, 1, .inl (.aload_n 0)), (72, 3, .inr (0, 226, 1, 12, 1148, 0)), (75, 1, .inl (.aload_n 0)), (76, 3, .inr (0, 232, 1, 14, 1150, 0)), (79, 3, .inl (.if_icmp .ge 21)), (82, 1, .inl (.aload_n 0)),
  (83, 1, .inl (.iconst 2)), (84, 3, .inr (2, 57, 1, 10, 1146, 0)), (87, 1, .inl (.aload_n 0)), (88, 1, .inl .dup), (89, 3, .inr (0, 54, 1, 8, 1144, 0)), (92, 1, .inl (.iconst 1)),
  (93, 1, .inl .iadd), (94, 3, .inr (2, 54, 1, 8, 1144, 0)), (97, 3, .inl (.goto 120)), (100, 1, .inl (.iload_n 1)), (101, 2, .inl (.bipush 59)), (103, 3, .inl (.if_icmp .ne 52)),
  (106, 1, .inl (.iload_n 3)), (107, 3, .inl (.ifCond .eq 48)), (110, 1, .inl (.iload_n 2)), (111, 3, .inl (.ifCond .eq 44)), (114, 1, .inl (.aload_n 0)), (115, 1, .inl (.aload_n 0)),
  (116, 3, .inr (0, 226, 1, 12, 1148, 0)), (119, 3, .inr (2, 232, 1, 14, 1150, 0)), (122, 1, .inl (.aload_n 0)), (123, 1, .inl (.iconst 0)), (124, 3, .inr (2, 226, 1, 12, 1148, 0)), (127, 1, .inl (.aload_n 0)),
  (128, 1, .inl .dup), (129, 3, .inr (0, 229, 1, 13, 1149, 0)), (132, 1, .inl (.iconst 1)), (133, 1, .inl .iadd), (134, 3, .inr (2, 229, 1, 13, 1149, 0)), (137, 1, .inl (.aload_n 0)),
  (138, 1, .inl (.iconst 2)), (139, 3, .inr (2, 57, 1, 10, 1146, 0)), (142, 1, .inl (.aload_n 0)), (143, 1, .inl .dup), (144, 3, .inr (0, 54, 1, 8, 1144, 0)), (147, 1, .inl (.iconst 1)),
  (148, 1, .inl .iadd), (149, 3, .inr (2, 54, 1, 8, 1144, 0)), (152, 3, .inl (.goto 65)), (155, 1, .inl (.iload_n 1)), (156, 2, .inl (.bipush 125)), (158, 3, .inl (.if_icmp .ne 51)),
  (161, 1, .inl (.iload_n 2)), (162, 3, .inl (.ifCond .eq 47)), (165, 1, .inl (.aload_n 0)), (166, 3, .inr (1, 15, 1, 1, 1137, 0)), (169, 2, .inl (.bipush 8)), (171, 1, .inl (.aload_n 0)),
  (172, 3, .inr (0, 229, 1, 13, 1149, 0)), (175, 3, .inr (4, 133, 23, 9902, 4022, 1)), (178, 3, .inr (4, 79, 171, 202, 4008, 0)), (181, 1, .inl (.aload_n 0)), (182, 3, .inr (1, 15, 1, 1, 1137, 0)), (185, 1, .inl (.aload_n 0)),
  (186, 3, .inr (0, 226, 1, 12, 1148, 0)), (189, 3, .inr (4, 79, 171, 202, 4008, 0)), (192, 1, .inl (.aload_n 0)), (193, 1, .inl .dup), (194, 3, .inr (0, 54, 1, 8, 1144, 0)), (197, 1, .inl (.iconst 1)),
  (198, 1, .inl .iadd), (199, 3, .inr (2, 54, 1, 8, 1144, 0)), (202, 1, .inl (.aload_n 0)), (203, 3, .inr (4, 127, 146, 101, 4044, 0)), (206, 3, .inl (.goto 11)), (209, 1, .inl (.aload_n 0)),
  (210, 1, .inl (.aload_n 0)), (211, 3, .inr (0, 54, 1, 8, 1144, 0)), (214, 3, .inr (2, 46, 1, 9, 1145, 0)), (217, 1, .inl .return_)]
set_option maxRecDepth 100000 in
theorem okX2_readSeparator : ckM (mt mX2_readSeparator) kX2_readSeparator = true := by decide +kernel
def kX3_size : CD := [
  (0, 1, .inl (.aload_n 0)), (1, 3, .inr (0, 15, 2, 1, 1033, 0)), (4, 1, .inl .ireturn)]
set_option maxRecDepth 100000 in
theorem okX3_size : ckM (mt mX3_size) kX3_size = true := by decide +kernel
def kX3_get : CD := [
  (0, 1, .inl (.iload_n 1)), (1, 3, .inl (.ifCond .lt 29)), (4, 1, .inl (.iload_n 1)), (5, 1, .inl (.aload_n 0)), (6, 3, .inr (0, 15, 2, 1, 1033, 0)), (9, 3, .inl (.if_icmp .ge 21)),
  (12, 1, .inl (.iload_n 1)), (13, 1, .inl (.aload_n 0)), (14, 3, .inr (1, 9, 2, 0, 1032, 0)), (17, 1, .inl .arraylength), (18, 3, .inl (.if_icmp .ge 12)), (21, 1, .inl (.aload_n 0)),
  (22, 3, .inr (1, 9, 2, 0, 1032, 0)), (25, 1, .inl (.iload_n 1)), (26, 1, .inl .iaload), (27, 3, .inl (.goto 4)), (30, 1, .inl (.iconst 0)), (31, 1, .inl .ireturn)]
set_option maxRecDepth 100000 in
theorem okX3_get : ckM (mt mX3_get) kX3_get = true := by decide +kernel
def kX3_last : CD := [
  (0, 1, .inl (.aload_n 0)), (1, 3, .inr (0, 15, 2, 1, 1033, 0)), (4, 1, .inl (.iconst 1)), (5, 1, .inl .isub), (6, 1, .inl (.istore_n 1)), (7, 1, .inl (.iload_n 1)),
  (8, 3, .inl (.ifCond .lt 21)), (11, 1, .inl (.iload_n 1)), (12, 1, .inl (.aload_n 0)), (13, 3, .inr (1, 9, 2, 0, 1032, 0)), (16, 1, .inl .arraylength), (17, 3, .inl (.if_icmp .ge 12)),
  (20, 1, .inl (.aload_n 0)), (21, 3, .inr (1, 9, 2, 0, 1032, 0)), (24, 1, .inl (.iload_n 1)), (25, 1, .inl .iaload), (26, 3, .inl (.goto 4)), (29, 1, .inl (.iconst (-1))),
  (30, 1, .inl .ireturn)]
set_option maxRecDepth 100000 in
theorem okX3_last : ckM (mt mX3_last) kX3_last = true := by decide +kernel
def kX3_add : CD := [
  (0, 1, .inl (.aload_n 0)), (1, 3, .inr (0, 15, 2, 1, 1033, 0)), (4, 3, .inl (.ifCond .lt 35)), (7, 1, .inl (.aload_n 0)), (8, 3, .inr (0, 15, 2, 1, 1033, 0)), (11, 1, .inl (.aload_n 0)),
  (12, 3, .inr (1, 9, 2, 0, 1032, 0)), (15, 1, .inl .arraylength), (16, 3, .inl (.if_icmp .ge 23)), (19, 1, .inl (.aload_n 0)), (20, 3, .inr (1, 9, 2, 0, 1032, 0)), (23, 1, .inl (.aload_n 0)),
  (24, 3, .inr (0, 15, 2, 1, 1033, 0)), (27, 1, .inl (.iload_n 1)), (28, 1, .inl .iastore), (29, 1, .inl (.aload_n 0)), (30, 1, .inl .dup), (31, 3, .inr (0, 15, 2, 1, 1033, 0)),
  (34, 1, .inl (.iconst 1)), (35, 1, .inl .iadd), (36, 3, .inr (2, 15, 2, 1, 1033, 0)), (39, 1, .inl .return_)]
set_option maxRecDepth 100000 in
theorem okX3_add : ckM (mt mX3_add) kX3_add = true := by decide +kernel
def kX3_changeLast : CD := [
  (0, 1, .inl (.aload_n 0)), (1, 3, .inr (0, 15, 2, 1, 1033, 0)), (4, 1, .inl (.iconst 1)), (5, 1, .inl .isub), (6, 1, .inl (.istore_n 2)), (7, 1, .inl (.iload_n 2)),
  (8, 3, .inl (.ifCond .lt 19)), (11, 1, .inl (.iload_n 2)), (12, 1, .inl (.aload_n 0)), (13, 3, .inr (1, 9, 2, 0, 1032, 0)), (16, 1, .inl .arraylength), (17, 3, .inl (.if_icmp .ge 10)),
  (20, 1, .inl (.aload_n 0)), (21, 3, .inr (1, 9, 2, 0, 1032, 0)), (24, 1, .inl (.iload_n 2)), (25, 1, .inl (.iload_n 1)), (26, 1, .inl .iastore), (27, 1, .inl .return_)]
set_option maxRecDepth 100000 in
theorem okX3_changeLast : ckM (mt mX3_changeLast) kX3_changeLast = true := by decide +kernel
def kX3_addText : CD := [
  (0, 1, .inl (.iconst 0)), (1, 1, .inl (.istore_n 2)), (2, 1, .inl (.iload_n 2)), (3, 1, .inl (.aload_n 1)), (4, 3, .inr (4, 19, 203, 801, 2121, 1)), (7, 3, .inl (.if_icmp .ge 18)),
  (10, 1, .inl (.aload_n 0)), (11, 1, .inl (.aload_n 1)), (12, 1, .inl (.iload_n 2)), (13, 3, .inr (4, 25, 204, 802, 2131, 1)), (16, 3, .inr (4, 29, 171, 202, 2047, 0)), (19, 3, .inl (.iinc 2 1)),
  (22, 3, .inl (.goto (-20))), (25, 1, .inl .return_)]
set_option maxRecDepth 100000 in
theorem okX3_addText : ckM (mt mX3_addText) kX3_addText = true := by decide +kernel
def kX3_addDecimal : CD := [
  (0, 1, .inl (.iconst 1)), (1, 1, .inl (.istore_n 2)), (2, 1, .inl (.iload_n 2)), (3, 1, .inl (.iload_n 1)), (4, 2, .inl (.bipush 10)), (6, 1, .inl .idiv),
  (7, 3, .inl (.if_icmp .gt 17)), (10, 1, .inl (.iload_n 2)), (11, 2, .inr (6, 33, 0, 0, 2210, 1000000000)), (13, 3, .inl (.if_icmp .ge 11)), (16, 1, .inl (.iload_n 2)), (17, 2, .inl (.bipush 10)),
  (19, 1, .inl .imul), (20, 1, .inl (.istore_n 2)), (21, 3, .inl (.goto (-19))), (24, 1, .inl (.iload_n 2)), (25, 3, .inl (.ifCond .le 24)), (28, 1, .inl (.aload_n 0)),
  (29, 2, .inl (.bipush 48)), (31, 1, .inl (.iload_n 1)), (32, 1, .inl (.iload_n 2)), (33, 1, .inl .idiv), (34, 2, .inl (.bipush 10)), (36, 1, .inl .irem),
  (37, 1, .inl .iadd), (38, 3, .inr (4, 29, 171, 202, 2047, 0)), (41, 1, .inl (.iload_n 2)), (42, 2, .inl (.bipush 10)), (44, 1, .inl .idiv), (45, 1, .inl (.istore_n 2)),
  (46, 3, .inl (.goto (-22))), (49, 1, .inl .return_)]
set_option maxRecDepth 100000 in
theorem okX3_addDecimal : ckM (mt mX3_addDecimal) kX3_addDecimal = true := by decide +kernel
def kX3_cut : CD := [
  (0, 1, .inl (.iload_n 1)), (1, 3, .inl (.ifCond .lt 16)), (4, 1, .inl (.iload_n 1)), (5, 1, .inl (.aload_n 0)), (6, 3, .inr (0, 15, 2, 1, 1033, 0)), (9, 3, .inl (.if_icmp .ge 8)),
  (12, 1, .inl (.aload_n 0)), (13, 1, .inl (.iload_n 1)), (14, 3, .inr (2, 15, 2, 1, 1033, 0)), (17, 1, .inl .return_)]
set_option maxRecDepth 100000 in
theorem okX3_cut : ckM (mt mX3_cut) kX3_cut = true := by decide +kernel
def kX3_dropLast : CD := [
  (0, 1, .inl (.aload_n 0)), (1, 3, .inr (0, 15, 2, 1, 1033, 0)), (4, 3, .inl (.ifCond .le 13)), (7, 1, .inl (.aload_n 0)), (8, 1, .inl .dup), (9, 3, .inr (0, 15, 2, 1, 1033, 0)),
  (12, 1, .inl (.iconst 1)), (13, 1, .inl .isub), (14, 3, .inr (2, 15, 2, 1, 1033, 0)), (17, 1, .inl .return_)]
set_option maxRecDepth 100000 in
theorem okX3_dropLast : ckM (mt mX3_dropLast) kX3_dropLast = true := by decide +kernel
def kX3_clear : CD := [
  (0, 1, .inl (.aload_n 0)), (1, 1, .inl (.iconst 0)), (2, 3, .inr (2, 15, 2, 1, 1033, 0)), (5, 1, .inl .return_)]
set_option maxRecDepth 100000 in
theorem okX3_clear : ckM (mt mX3_clear) kX3_clear = true := by decide +kernel
def kX3_copy : CD := [
  (0, 1, .inl (.aload_n 0)), (1, 1, .inl (.iconst 0)), (2, 3, .inr (2, 15, 2, 1, 1033, 0)), (5, 1, .inl (.iconst 0)), (6, 1, .inl (.istore_n 2)), (7, 1, .inl (.iload_n 2)),
  (8, 1, .inl (.aload_n 1)), (9, 3, .inr (0, 15, 2, 1, 1033, 0)), (12, 3, .inl (.if_icmp .ge 18)), (15, 1, .inl (.aload_n 0)), (16, 1, .inl (.aload_n 1)), (17, 1, .inl (.iload_n 2)),
  (18, 3, .inr (4, 34, 169, 202, 2043, 1)), (21, 3, .inr (4, 29, 171, 202, 2047, 0)), (24, 3, .inl (.iinc 2 1)), (27, 3, .inl (.goto (-20))), (30, 1, .inl .return_)]
set_option maxRecDepth 100000 in
theorem okX3_copy : ckM (mt mX3_copy) kX3_copy = true := by decide +kernel
def kX4_behind : CD := [
  (0, 1, .inl (.aload_n 0)), (1, 3, .inr (0, 36, 3, 5, 1108, 0)), (4, 1, .inl .ireturn)]
set_option maxRecDepth 100000 in
theorem okX4_behind : ckM (mt mX4_behind) kX4_behind = true := by decide +kernel
def kX4_unfolded : CD := [
  (0, 1, .inl (.aload_n 0)), (1, 3, .inr (1, 23, 3, 2, 1105, 0)), (4, 1, .inl .areturn)]
set_option maxRecDepth 100000 in
theorem okX4_unfolded : ckM (mt mX4_unfolded) kX4_unfolded = true := by decide +kernel
def kX4_needsQuotes : CD := [
  (0, 1, .inl (.aload_n 0)), (1, 3, .inr (1, 9, 3, 0, 1103, 0)), (4, 3, .inr (4, 47, 168, 201, 3185, 1)), (7, 1, .inl (.istore_n 1)), (8, 1, .inl (.aload_n 0)), (9, 3, .inr (1, 9, 3, 0, 1103, 0)),
  (12, 1, .inl (.iconst 0)), (13, 3, .inr (4, 51, 17, 9902, 3186, 1)), (16, 1, .inl (.iload_n 1)), (17, 3, .inl (.if_icmp .ne 48)), (20, 1, .inl (.aload_n 0)), (21, 3, .inr (1, 9, 3, 0, 1103, 0)),
  (24, 1, .inl (.iconst 0)), (25, 1, .inl (.iload_n 1)), (26, 2, .inr (7, 55, 38, 0, 3195, 0)), (28, 3, .inr (4, 57, 19, 9904, 3196, 1)), (31, 3, .inl (.ifCond .ne 34)), (34, 1, .inl (.aload_n 0)),
  (35, 3, .inr (1, 9, 3, 0, 1103, 0)), (38, 1, .inl (.iconst 0)), (39, 1, .inl (.iload_n 1)), (40, 2, .inr (7, 61, 39, 0, 3205, 0)), (42, 3, .inr (4, 57, 19, 9904, 3196, 1)), (45, 3, .inl (.ifCond .ne 20)),
  (48, 1, .inl (.aload_n 0)), (49, 3, .inr (1, 29, 3, 3, 1106, 0)), (52, 1, .inl (.aload_n 0)), (53, 3, .inr (1, 9, 3, 0, 1103, 0)), (56, 1, .inl (.iconst 0)), (57, 1, .inl (.iconst 1)),
  (58, 1, .inl (.iconst 1)), (59, 3, .inr (4, 63, 194, 405, 3206, 1)), (62, 3, .inl (.ifCond .eq 7)), (65, 1, .inl (.iconst 1)), (66, 3, .inl (.goto 4)), (69, 1, .inl (.iconst 0)),
  (70, 1, .inr (11, 0, 0, 0, 0, 0))]
set_option maxRecDepth 100000 in
theorem okX4_needsQuotes : ckM (mt mX4_needsQuotes) kX4_needsQuotes = true := by decide +kernel
def kX4_digitsEnd : CD := [
  (0, 1, .inl (.iload_n 1)), (1, 1, .inl (.istore_n 2)), (2, 1, .inl (.iload_n 2)), (3, 1, .inl (.aload_n 0)), (4, 3, .inr (1, 9, 3, 0, 1103, 0)), (7, 3, .inr (4, 47, 168, 201, 3185, 1)),
  (10, 3, .inl (.if_icmp .ge 23)), (13, 1, .inl (.aload_n 0)), (14, 3, .inr (1, 9, 3, 0, 1103, 0)), (17, 1, .inl (.iload_n 2)), (18, 3, .inr (4, 67, 169, 202, 4060, 1)), (21, 3, .inr (4, 71, 13, 9901, 4134, 1)),
  (24, 3, .inl (.ifCond .eq 9)), (27, 3, .inl (.iinc 2 1)), (30, 3, .inl (.goto (-28))), (33, 1, .inl (.iload_n 2)), (34, 1, .inl .ireturn)]
set_option maxRecDepth 100000 in
theorem okX4_digitsEnd : ckM (mt mX4_digitsEnd) kX4_digitsEnd = true := by decide +kernel
def kX4_readNumber : CD := [
  (0, 1, .inl (.aload_n 0)), (1, 1, .inl (.iload_n 1)), (2, 3, .inr (4, 75, 182, 302, 4130, 1)), (5, 1, .inl (.istore_n 3)), (6, 1, .inl (.iload_n 3)), (7, 2, .inl (.istore 4)),
  (9, 1, .inl (.aload_n 0)), (10, 3, .inr (1, 9, 3, 0, 1103, 0)), (13, 1, .inl (.iload_n 3)), (14, 3, .inr (4, 67, 169, 202, 4060, 1)), (17, 2, .inl (.bipush 46)), (19, 3, .inl (.if_icmp .ne 28)),
  (22, 1, .inl (.aload_n 0)), (23, 3, .inr (1, 9, 3, 0, 1103, 0)), (26, 1, .inl (.iload_n 3)), (27, 1, .inl (.iconst 1)), (28, 1, .inl .iadd), (29, 3, .inr (4, 67, 169, 202, 4060, 1)),
  (32, 3, .inr (4, 71, 13, 9901, 4134, 1)), (35, 3, .inl (.ifCond .eq 12)), (38, 1, .inl (.aload_n 0)), (39, 1, .inl (.iload_n 3)), (40, 1, .inl (.iconst 1)), (41, 1, .inl .iadd),
  (42, 3, .inr (4, 75, 182, 302, 4130, 1)), (45, 2, .inl (.istore 4)), (47, 2, .inl (.iload 4)), (49, 1, .inl (.iload_n 1)), (50, 3, .inl (.if_icmp .le 25)), (53, 1, .inl (.aload_n 0)),
  (54, 1, .inl (.iload_n 1)), (55, 1, .inl (.iload_n 3)), (56, 2, .inl (.iload 4)), (58, 1, .inl (.aload_n 0)), (59, 2, .inl (.iload 4)), (61, 3, .inr (4, 78, 184, 302, 4135, 1)),
  (64, 1, .inl (.iload_n 2)), (65, 3, .inr (4, 81, 185, 306, 4140, 1)), (68, 3, .inl (.ifCond .eq 7)), (71, 1, .inl (.iconst 1)), (72, 3, .inl (.goto 4)), (75, 1, .inl (.iconst 0)),
  (76, 1, .inr (11, 0, 0, 0, 0, 0))]
set_option maxRecDepth 100000 in
theorem okX4_readNumber : ckM (mt mX4_readNumber) kX4_readNumber = true := by decide +kernel
def kX4_readExponent : CD := [
  (0, 1, .inl (.aload_n 0)), (1, 1, .inl (.iload_n 1)), (2, 3, .inr (2, 36, 3, 5, 1108, 0)), (5, 1, .inl (.aload_n 0)), (6, 3, .inr (1, 9, 3, 0, 1103, 0)), (9, 1, .inl (.iload_n 1)),
  (10, 3, .inr (4, 67, 169, 202, 4060, 1)), (13, 3, .inr (4, 85, 16, 9901, 4139, 1)), (16, 2, .inl (.bipush 69)), (18, 3, .inl (.if_icmp .eq 5)), (21, 1, .inl (.iconst 0)), (22, 1, .inl .ireturn),
  (23, 1, .inl (.aload_n 0)), (24, 3, .inr (1, 9, 3, 0, 1103, 0)), (27, 1, .inl (.iload_n 1)), (28, 1, .inl (.iconst 1)), (29, 1, .inl .iadd), (30, 3, .inr (4, 67, 169, 202, 4060, 1)),
  (33, 1, .inl (.istore_n 2)), (34, 1, .inl (.iload_n 2)), (35, 2, .inl (.bipush 43)), (37, 3, .inl (.if_icmp .eq 9)), (40, 1, .inl (.iload_n 2)), (41, 2, .inl (.bipush 45)),
  (43, 3, .inl (.if_icmp .ne 9)), (46, 1, .inl (.iload_n 1)), (47, 1, .inl (.iconst 2)), (48, 1, .inl .iadd), (49, 3, .inl (.goto 6)), (52, 1, .inl (.iload_n 1)),
  (53, 1, .inl (.iconst 1)), (54, 1, .inl .iadd), (55, 1, .inl (.istore_n 3)), (56, 1, .inl (.iconst 0)), (57, 2, .inl (.istore 4)), (59, 1, .inl (.iload_n 3)),
  (60, 2, .inl (.istore 5)), (62, 2, .inl (.iload 5)), (64, 1, .inl (.iload_n 3)), (65, 1, .inl (.iconst 3)), (66, 1, .inl .iadd), (67, 3, .inl (.if_icmp .ge 52)),
  (70, 1, .inl (.aload_n 0)), (71, 3, .inr (1, 9, 3, 0, 1103, 0)), (74, 2, .inl (.iload 5)), (76, 3, .inr (4, 67, 169, 202, 4060, 1)), (79, 3, .inr (4, 71, 13, 9901, 4134, 1)), (82, 3, .inl (.ifCond .eq 37)),
  (85, 2, .inl (.iload 4)), (87, 2, .inl (.bipush 10)), (89, 1, .inl .imul), (90, 1, .inl (.aload_n 0)), (91, 3, .inr (1, 9, 3, 0, 1103, 0)), (94, 2, .inl (.iload 5)),
  (96, 3, .inr (4, 67, 169, 202, 4060, 1)), (99, 1, .inl .iadd), (100, 2, .inl (.bipush 48)), (102, 1, .inl .isub), (103, 2, .inl (.istore 4)), (105, 1, .inl (.aload_n 0)),
  (106, 2, .inl (.iload 5)), (108, 1, .inl (.iconst 1)), (109, 1, .inl .iadd), (110, 3, .inr (2, 36, 3, 5, 1108, 0)), (113, 3, .inl (.iinc 5 1)), (116, 3, .inl (.goto (-54))),
  (119, 1, .inl (.iload_n 2)), (120, 2, .inl (.bipush 45)), (122, 3, .inl (.if_icmp .ne 9)), (125, 2, .inl (.iload 4)), (127, 1, .inl .ineg), (128, 3, .inl (.goto 5)),
  (131, 2, .inl (.iload 4)), (133, 1, .inl .ireturn)]
set_option maxRecDepth 100000 in
theorem okX4_readExponent : ckM (mt mX4_readExponent) kX4_readExponent = true := by decide +kernel
def kX4_writeNumber : CD := [
  (0, 1, .inl (.iload_n 1)), (1, 2, .inl (.istore 6)), (3, 2, .inl (.iload 6)), (5, 1, .inl (.iload_n 3)), (6, 3, .inl (.if_icmp .ge 37)), (9, 1, .inl (.aload_n 0)),
  (10, 3, .inr (1, 9, 3, 0, 1103, 0)), (13, 2, .inl (.iload 6)), (15, 3, .inr (4, 67, 169, 202, 4060, 1)), (18, 2, .inl (.bipush 48)), (20, 3, .inl (.if_icmp .eq 17)), (23, 1, .inl (.aload_n 0)),
  (24, 3, .inr (1, 9, 3, 0, 1103, 0)), (27, 2, .inl (.iload 6)), (29, 3, .inr (4, 67, 169, 202, 4060, 1)), (32, 2, .inl (.bipush 46)), (34, 3, .inl (.if_icmp .ne 9)), (37, 3, .inl (.iinc 6 1)),
  (40, 3, .inl (.goto (-37))), (43, 1, .inl (.iload_n 3)), (44, 1, .inl (.iconst 1)), (45, 1, .inl .isub), (46, 2, .inl (.istore 7)), (48, 2, .inl (.iload 7)),
  (50, 2, .inl (.iload 6)), (52, 3, .inl (.if_icmp .le 37)), (55, 1, .inl (.aload_n 0)), (56, 3, .inr (1, 9, 3, 0, 1103, 0)), (59, 2, .inl (.iload 7)), (61, 3, .inr (4, 67, 169, 202, 4060, 1)),
  (64, 2, .inl (.bipush 48)), (66, 3, .inl (.if_icmp .eq 17)), (69, 1, .inl (.aload_n 0)), (70, 3, .inr (1, 9, 3, 0, 1103, 0)), (73, 2, .inl (.iload 7)), (75, 3, .inr (4, 67, 169, 202, 4060, 1)),
  (78, 2, .inl (.bipush 46)), (80, 3, .inl (.if_icmp .ne 9)), (83, 3, .inl (.iinc 7 (-1))), (86, 3, .inl (.goto (-38))), (89, 2, .inl (.iload 6)), (91, 1, .inl (.iload_n 3)),
  (92, 3, .inl (.if_icmp .ne 7)), (95, 1, .inl (.iconst 1)), (96, 3, .inl (.goto 4)), (99, 1, .inl (.iconst 0)), (100, 2, .inl (.istore 8)), (102, 2, .inl (.iload 6)),
  (104, 1, .inl (.iload_n 2)), (105, 3, .inr (4, 88, 186, 9902, 4144, 1)), (108, 2, .inl (.iload 4)), (110, 1, .inl .iadd), (111, 2, .inl (.istore 9)), (113, 2, .inl (.iload 7)),
  (115, 1, .inl (.iload_n 2)), (116, 3, .inr (4, 88, 186, 9902, 4144, 1)), (119, 2, .inl (.iload 4)), (121, 1, .inl .iadd), (122, 2, .inl (.istore 10)), (124, 2, .inl (.iload 8)),
  (126, 3, .inl (.ifCond .ne 31)), (129, 2, .inl (.iload 9)), (131, 2, .inl (.iload 10)), (133, 1, .inl .isub), (134, 2, .inl (.bipush 15)), (136, 3, .inl (.if_icmp .ge 19)),
  (139, 2, .inl (.iload 9)), (141, 3, .inl (.sipush (-999))), (144, 3, .inl (.if_icmp .lt 11)), (147, 2, .inl (.iload 9)), (149, 3, .inl (.sipush 999)), (152, 3, .inl (.if_icmp .le 5)),
  (155, 1, .inl (.iconst 0)), (156, 1, .inr (11, 0, 0, 0, 0, 0)), (157, 1, .inl (.lconst 0)), (158, 2, .inl (.lstore 11)), (160, 2, .inl (.iload 6)), (162, 2, .inl (.istore 13)),
  (164, 2, .inl (.iload 13)), (166, 2, .inl (.iload 7)), (168, 3, .inl (.if_icmp .gt 38)), (171, 2, .inl (.iload 13)), (173, 1, .inl (.iload_n 2)), (174, 3, .inl (.if_icmp .eq 26)),
  (177, 2, .inl (.lload 11)), (179, 3, .inr (5, 92, 0, 0, 4147, 10)), (182, 1, .inl .lmul), (183, 1, .inl (.aload_n 0)), (184, 3, .inr (1, 9, 3, 0, 1103, 0)), (187, 2, .inl (.iload 13)),
  (189, 3, .inr (4, 67, 169, 202, 4060, 1)), (192, 1, .inl .i2l), (193, 1, .inl .ladd), (194, 3, .inr (5, 94, 0, 0, 4148, 48)), (197, 1, .inl .lsub), (198, 2, .inl (.lstore 11)),
  (200, 3, .inl (.iinc 13 1)), (203, 3, .inl (.goto (-39))), (206, 1, .inl (.aload_n 0)), (207, 3, .inr (1, 15, 3, 1, 1104, 0)), (210, 1, .inl (.iconst 0)), (211, 2, .inl (.iload 5)),
  (213, 3, .inr (4, 96, 23, 9902, 4063, 1)), (216, 3, .inr (4, 99, 171, 202, 4062, 0)), (219, 1, .inl (.aload_n 0)), (220, 3, .inr (1, 15, 3, 1, 1104, 0)), (223, 2, .inl (.lload 11)), (225, 2, .inl (.bipush 30)),
  (227, 1, .inl .lshr), (228, 1, .inl .l2i), (229, 3, .inr (4, 99, 171, 202, 4062, 0)), (232, 1, .inl (.aload_n 0)), (233, 3, .inr (1, 15, 3, 1, 1104, 0)), (236, 2, .inl (.lload 11)),
  (238, 3, .inr (5, 102, 0, 0, 4149, 1073741823)), (241, 1, .inl .land), (242, 1, .inl .l2i), (243, 3, .inr (4, 99, 171, 202, 4062, 0)), (246, 1, .inl (.aload_n 0)), (247, 3, .inr (1, 15, 3, 1, 1104, 0)),
  (250, 2, .inl (.iload 8)), (252, 3, .inl (.ifCond .eq 7)), (255, 1, .inl (.iconst 0)), (256, 3, .inl (.goto 5)), (259, 2, .inl (.iload 10)), (261, 3, .inr (4, 99, 171, 202, 4062, 0)),
  (264, 1, .inl (.iconst 1)), (265, 1, .inr (11, 0, 0, 0, 0, 0))]
set_option maxRecDepth 100000 in
theorem okX4_writeNumber : ckM (mt mX4_writeNumber) kX4_writeNumber = true := by decide +kernel
def kX4_powerAt : CD := [
  (0, 1, .inl (.iload_n 0)), (1, 1, .inl (.iload_n 1)), (2, 3, .inl (.if_icmp .ge 11)), (5, 1, .inl (.iload_n 1)), (6, 1, .inl (.iconst 1)), (7, 1, .inl .isub),
  (8, 1, .inl (.iload_n 0)), (9, 1, .inl .isub), (10, 3, .inl (.goto 6)), (13, 1, .inl (.iload_n 1)), (14, 1, .inl (.iload_n 0)), (15, 1, .inl .isub),
  (16, 1, .inl .ireturn)]
set_option maxRecDepth 100000 in
theorem okX4_powerAt : ckM (mt mX4_powerAt) kX4_powerAt = true := by decide +kernel
def kX4_readQuoted : CD := [
  (0, 1, .inl (.aload_n 0)), (1, 3, .inr (1, 9, 3, 0, 1103, 0)), (4, 1, .inl (.iload_n 1)), (5, 3, .inr (4, 67, 169, 202, 4060, 1)), (8, 1, .inl (.istore_n 2)), (9, 1, .inl (.aload_n 0)),
  (10, 3, .inr (1, 23, 3, 2, 1105, 0)), (13, 3, .inr (4, 104, 177, 201, 4061, 0)), (16, 1, .inl (.iconst 0)), (17, 1, .inl (.istore_n 3)), (18, 1, .inl (.iload_n 1)), (19, 1, .inl (.iconst 1)),
  (20, 1, .inl .iadd), (21, 2, .inl (.istore 4)), (23, 2, .inl (.iload 4)), (25, 1, .inl (.aload_n 0)), (26, 3, .inr (1, 9, 3, 0, 1103, 0)), (29, 3, .inr (4, 47, 168, 201, 3185, 1)),
  (32, 3, .inl (.if_icmp .ge 89)), (35, 1, .inl (.aload_n 0)), (36, 3, .inr (1, 9, 3, 0, 1103, 0)), (39, 2, .inl (.iload 4)), (41, 3, .inr (4, 67, 169, 202, 4060, 1)), (44, 2, .inl (.istore 5)),
  (46, 2, .inl (.iload 5)), (48, 1, .inl (.iload_n 2)), (49, 3, .inl (.if_icmp .ne 38)), (52, 3, .inl (.iinc 4 1)), (55, 1, .inl (.aload_n 0)), (56, 3, .inr (1, 9, 3, 0, 1103, 0)),
  (59, 2, .inl (.iload 4)), (61, 3, .inr (4, 67, 169, 202, 4060, 1)), (64, 1, .inl (.iload_n 2)), (65, 3, .inl (.if_icmp .eq 22)), (68, 1, .inl (.aload_n 0)), (69, 2, .inl (.iload 4)),
  (71, 3, .inr (2, 36, 3, 5, 1108, 0)), (74, 1, .inl (.iload_n 3)), (75, 3, .inl (.sipush 255)), (78, 3, .inl (.if_icmp .gt 7)), (81, 1, .inl (.iconst 1)), (82, 3, .inl (.goto 4)),
  (85, 1, .inl (.iconst 0)), (86, 1, .inr (11, 0, 0, 0, 0, 0)), (87, 2, .inl (.iload 5)), (89, 2, .inl (.bipush 32)), (91, 3, .inl (.if_icmp .lt 10)), (94, 2, .inl (.iload 5)),
  (96, 2, .inl (.bipush 126)), (98, 3, .inl (.if_icmp .le 5)), (101, 1, .inl (.iconst 0)), (102, 1, .inr (11, 0, 0, 0, 0, 0)), (103, 1, .inl (.aload_n 0)), (104, 3, .inr (1, 23, 3, 2, 1105, 0)),
  (107, 2, .inl (.iload 5)), (109, 3, .inr (4, 99, 171, 202, 4062, 0)), (112, 3, .inl (.iinc 3 1)), (115, 3, .inl (.iinc 4 1)), (118, 3, .inl (.goto (-95))), (121, 1, .inl (.iconst 0)),
  (122, 1, .inr (11, 0, 0, 0, 0, 0))]
set_option maxRecDepth 100000 in
theorem okX4_readQuoted : ckM (mt mX4_readQuoted) kX4_readQuoted = true := by decide +kernel
def kX4_readString : CD := [
  (0, 1, .inl (.aload_n 0)), (1, 1, .inl (.iload_n 1)), (2, 3, .inr (4, 107, 187, 302, 4056, 1)), (5, 3, .inl (.ifCond .ne 5)), (8, 1, .inl (.iconst 0)), (9, 1, .inr (11, 0, 0, 0, 0, 0)),
  (10, 1, .inl (.aload_n 0)), (11, 3, .inr (1, 15, 3, 1, 1104, 0)), (14, 1, .inl (.iconst 1)), (15, 1, .inl (.aload_n 0)), (16, 3, .inr (1, 23, 3, 2, 1105, 0)), (19, 3, .inr (4, 47, 168, 201, 3185, 1)),
  (22, 3, .inr (4, 96, 23, 9902, 4063, 1)), (25, 3, .inr (4, 99, 171, 202, 4062, 0)), (28, 1, .inl (.iconst 0)), (29, 1, .inl (.istore_n 2)), (30, 1, .inl (.iload_n 2)), (31, 1, .inl (.aload_n 0)),
  (32, 3, .inr (1, 23, 3, 2, 1105, 0)), (35, 3, .inr (4, 47, 168, 201, 3185, 1)), (38, 3, .inl (.if_icmp .ge 68)), (41, 1, .inl (.aload_n 0)), (42, 3, .inr (1, 23, 3, 2, 1105, 0)), (45, 1, .inl (.iload_n 2)),
  (46, 3, .inr (4, 67, 169, 202, 4060, 1)), (49, 2, .inl (.bipush 24)), (51, 1, .inl .ishl), (52, 1, .inl (.aload_n 0)), (53, 3, .inr (1, 23, 3, 2, 1105, 0)), (56, 1, .inl (.iload_n 2)),
  (57, 1, .inl (.iconst 1)), (58, 1, .inl .iadd), (59, 3, .inr (4, 67, 169, 202, 4060, 1)), (62, 2, .inl (.bipush 16)), (64, 1, .inl .ishl), (65, 1, .inl .ior),
  (66, 1, .inl (.aload_n 0)), (67, 3, .inr (1, 23, 3, 2, 1105, 0)), (70, 1, .inl (.iload_n 2)), (71, 1, .inl (.iconst 2)), (72, 1, .inl .iadd), (73, 3, .inr (4, 67, 169, 202, 4060, 1)),
  (76, 2, .inl (.bipush 8)), (78, 1, .inl .ishl), (79, 1, .inl .ior), (80, 1, .inl (.istore_n 3)), (81, 1, .inl (.aload_n 0)), (82, 3, .inr (1, 15, 3, 1, 1104, 0)),
  (85, 1, .inl (.iload_n 3)), (86, 1, .inl (.aload_n 0)), (87, 3, .inr (1, 23, 3, 2, 1105, 0)), (90, 1, .inl (.iload_n 2)), (91, 1, .inl (.iconst 3)), (92, 1, .inl .iadd),
  (93, 3, .inr (4, 67, 169, 202, 4060, 1)), (96, 1, .inl .ior), (97, 3, .inr (4, 99, 171, 202, 4062, 0)), (100, 3, .inl (.iinc 2 4)), (103, 3, .inl (.goto (-73))), (106, 1, .inl (.iconst 1)),
  (107, 1, .inr (11, 0, 0, 0, 0, 0))]
set_option maxRecDepth 100000 in
theorem okX4_readString : ckM (mt mX4_readString) kX4_readString = true := by decide +kernel
def kX4_readError : CD := [
  (0, 1, .inl (.iconst 1)), (1, 1, .inl (.istore_n 2)), (2, 1, .inl (.iload_n 2)), (3, 2, .inl (.bipush 7)), (5, 3, .inl (.if_icmp .gt 51)), (8, 1, .inl (.aload_n 0)),
  (9, 3, .inr (1, 9, 3, 0, 1103, 0)), (12, 1, .inl (.iload_n 1)), (13, 1, .inl (.iload_n 2)), (14, 3, .inr (4, 110, 21, 9901, 4076, 3)), (17, 3, .inr (4, 114, 18, 9903, 4077, 1)), (20, 3, .inl (.ifCond .eq 30)),
  (23, 1, .inl (.aload_n 0)), (24, 3, .inr (1, 15, 3, 1, 1104, 0)), (27, 1, .inl (.iconst 3)), (28, 1, .inl (.iload_n 2)), (29, 3, .inr (4, 96, 23, 9902, 4063, 1)), (32, 3, .inr (4, 99, 171, 202, 4062, 0)),
  (35, 1, .inl (.aload_n 0)), (36, 1, .inl (.iload_n 1)), (37, 1, .inl (.iload_n 2)), (38, 3, .inr (4, 110, 21, 9901, 4076, 3)), (41, 3, .inr (4, 118, 203, 801, 4078, 1)), (44, 1, .inl .iadd),
  (45, 3, .inr (2, 36, 3, 5, 1108, 0)), (48, 1, .inl (.iconst 1)), (49, 1, .inr (11, 0, 0, 0, 0, 0)), (50, 3, .inl (.iinc 2 1)), (53, 3, .inl (.goto (-51))), (56, 1, .inl (.iconst 0)),
  (57, 1, .inr (11, 0, 0, 0, 0, 0))]
set_option maxRecDepth 100000 in
theorem okX4_readError : ckM (mt mX4_readError) kX4_readError = true := by decide +kernel
def kX4_readLogical : CD := [
  (0, 1, .inl (.aload_n 0)), (1, 3, .inr (1, 9, 3, 0, 1103, 0)), (4, 1, .inl (.iload_n 1)), (5, 1, .inl (.iload_n 2)), (6, 2, .inr (7, 55, 38, 0, 3195, 0)), (8, 3, .inr (4, 57, 19, 9904, 3196, 1)),
  (11, 1, .inl (.istore_n 3)), (12, 1, .inl (.iload_n 3)), (13, 3, .inl (.ifCond .ne 19)), (16, 1, .inl (.aload_n 0)), (17, 3, .inr (1, 9, 3, 0, 1103, 0)), (20, 1, .inl (.iload_n 1)),
  (21, 1, .inl (.iload_n 2)), (22, 2, .inr (7, 61, 39, 0, 3205, 0)), (24, 3, .inr (4, 57, 19, 9904, 3196, 1)), (27, 3, .inl (.ifCond .ne 5)), (30, 1, .inl (.iconst 0)), (31, 1, .inr (11, 0, 0, 0, 0, 0)),
  (32, 1, .inl (.aload_n 0)), (33, 3, .inr (1, 15, 3, 1, 1104, 0)), (36, 1, .inl (.iconst 2)), (37, 1, .inl (.iload_n 3)), (38, 3, .inl (.ifCond .eq 7)), (41, 1, .inl (.iconst 1)),
  (42, 3, .inl (.goto 4)), (45, 1, .inl (.iconst 0)), (46, 3, .inr (4, 96, 23, 9902, 4063, 1)), (49, 3, .inr (4, 99, 171, 202, 4062, 0)), (52, 1, .inl (.aload_n 0)), (53, 1, .inl (.iload_n 2)),
  (54, 3, .inr (2, 36, 3, 5, 1108, 0)), (57, 1, .inl (.iconst 1)), (58, 1, .inr (11, 0, 0, 0, 0, 0))]
set_option maxRecDepth 100000 in
theorem okX4_readLogical : ckM (mt mX4_readLogical) kX4_readLogical = true := by decide +kernel
def kX4_findReference : CD := [
  (0, 1, .inl (.iconst 0)), (1, 1, .inl (.istore_n 2)), (2, 1, .inl (.iload_n 2)), (3, 2, .inl (.bipush 32)), (5, 3, .inl (.if_icmp .gt 146)), (8, 1, .inl (.iload_n 2)),
  (9, 2, .inl (.bipush 32)), (11, 3, .inl (.if_icmp .eq 7)), (14, 1, .inl (.iconst 1)), (15, 3, .inl (.goto 4)), (18, 1, .inl (.iconst 0)), (19, 1, .inl (.istore_n 3)),
  (20, 1, .inl (.iload_n 2)), (21, 2, .inl (.bipush 16)), (23, 3, .inl (.if_icmp .eq 7)), (26, 1, .inl (.iconst 1)), (27, 3, .inl (.goto 4)), (30, 1, .inl (.iconst 0)),
  (31, 2, .inl (.istore 4)), (33, 1, .inl (.aload_n 0)), (34, 3, .inr (1, 29, 3, 3, 1106, 0)), (37, 1, .inl (.aload_n 0)), (38, 3, .inr (1, 9, 3, 0, 1103, 0)), (41, 1, .inl (.iload_n 1)),
  (42, 1, .inl (.iload_n 3)), (43, 2, .inl (.iload 4)), (45, 3, .inr (4, 63, 194, 405, 3206, 1)), (48, 3, .inl (.ifCond .eq 97)), (51, 1, .inl (.aload_n 0)), (52, 3, .inr (1, 29, 3, 3, 1106, 0)),
  (55, 3, .inr (0, 123, 4, 4, 1091, 0)), (58, 2, .inl (.istore 5)), (60, 1, .inl (.aload_n 0)), (61, 1, .inl (.aload_n 0)), (62, 3, .inr (1, 9, 3, 0, 1103, 0)), (65, 2, .inl (.iload 5)),
  (67, 3, .inr (4, 67, 169, 202, 4060, 1)), (70, 2, .inl (.bipush 58)), (72, 3, .inl (.if_icmp .ne 28)), (75, 1, .inl (.aload_n 0)), (76, 3, .inr (1, 33, 3, 4, 1107, 0)), (79, 1, .inl (.aload_n 0)),
  (80, 3, .inr (1, 9, 3, 0, 1103, 0)), (83, 2, .inl (.iload 5)), (85, 1, .inl (.iconst 1)), (86, 1, .inl .iadd), (87, 1, .inl (.iload_n 3)), (88, 2, .inl (.iload 4)),
  (90, 3, .inr (4, 63, 194, 405, 3206, 1)), (93, 3, .inl (.ifCond .eq 7)), (96, 1, .inl (.iconst 1)), (97, 3, .inl (.goto 4)), (100, 1, .inl (.iconst 0)), (101, 3, .inr (3, 43, 3, 7, 1110, 0)),
  (104, 1, .inl (.aload_n 0)), (105, 3, .inr (0, 43, 3, 7, 1110, 0)), (108, 3, .inl (.ifCond .ne 7)), (111, 1, .inl (.iload_n 2)), (112, 3, .inl (.ifCond .ne 33)), (115, 1, .inl (.aload_n 0)),
  (116, 1, .inl (.iload_n 2)), (117, 3, .inr (2, 40, 3, 6, 1109, 0)), (120, 1, .inl (.aload_n 0)), (121, 1, .inl (.aload_n 0)), (122, 3, .inr (0, 43, 3, 7, 1110, 0)), (125, 3, .inl (.ifCond .eq 13)),
  (128, 1, .inl (.aload_n 0)), (129, 3, .inr (1, 33, 3, 4, 1107, 0)), (132, 3, .inr (0, 123, 4, 4, 1091, 0)), (135, 3, .inl (.goto 5)), (138, 2, .inl (.iload 5)), (140, 3, .inr (2, 36, 3, 5, 1108, 0)),
  (143, 1, .inl (.iconst 1)), (144, 1, .inr (11, 0, 0, 0, 0, 0)), (145, 3, .inl (.iinc 2 16)), (148, 3, .inl (.goto (-146))), (151, 1, .inl (.iconst 0)), (152, 1, .inr (11, 0, 0, 0, 0, 0))]
set_option maxRecDepth 100000 in
theorem okX4_findReference : ckM (mt mX4_findReference) kX4_findReference = true := by decide +kernel
def kX4_writeReference : CD := [
  (0, 1, .inl (.aload_n 0)), (1, 3, .inr (0, 43, 3, 7, 1110, 0)), (4, 3, .inl (.ifCond .eq 9)), (7, 1, .inl (.aload_n 0)), (8, 1, .inl (.iload_n 1)), (9, 3, .inr (4, 124, 193, 302, 4101, 0)),
  (12, 1, .inl .return_), (13, 1, .inl (.aload_n 0)), (14, 3, .inr (1, 15, 3, 1, 1104, 0)), (17, 1, .inl (.iconst 4)), (18, 1, .inl (.aload_n 0)), (19, 3, .inr (1, 29, 3, 3, 1106, 0)),
  (22, 3, .inr (0, 127, 4, 2, 1087, 0)), (25, 1, .inl (.iconst 2)), (26, 1, .inl (.aload_n 0)), (27, 3, .inr (1, 29, 3, 3, 1106, 0)), (30, 3, .inr (0, 130, 4, 3, 1089, 0)), (33, 1, .inl .imul),
  (34, 1, .inl .iadd), (35, 3, .inr (4, 96, 23, 9902, 4063, 1)), (38, 3, .inr (4, 99, 171, 202, 4062, 0)), (41, 1, .inl (.aload_n 0)), (42, 3, .inr (1, 15, 3, 1, 1104, 0)), (45, 1, .inl (.iload_n 1)),
  (46, 3, .inr (4, 99, 171, 202, 4062, 0)), (49, 1, .inl (.aload_n 0)), (50, 3, .inr (1, 15, 3, 1, 1104, 0)), (53, 1, .inl (.aload_n 0)), (54, 3, .inr (1, 29, 3, 3, 1106, 0)), (57, 3, .inr (0, 133, 4, 1, 1085, 0)),
  (60, 3, .inr (4, 99, 171, 202, 4062, 0)), (63, 1, .inl (.aload_n 0)), (64, 3, .inr (1, 15, 3, 1, 1104, 0)), (67, 1, .inl (.aload_n 0)), (68, 3, .inr (1, 29, 3, 3, 1106, 0)), (71, 3, .inr (0, 136, 4, 0, 1083, 0)),
  (74, 3, .inr (4, 99, 171, 202, 4062, 0)), (77, 1, .inl .return_)]
set_option maxRecDepth 100000 in
theorem okX4_writeReference : ckM (mt mX4_writeReference) kX4_writeReference = true := by decide +kernel
def kX4_writeRange : CD := [
  (0, 1, .inl (.aload_n 0)), (1, 3, .inr (0, 40, 3, 6, 1109, 0)), (4, 2, .inl (.bipush 16)), (6, 3, .inl (.if_icmp .ne 20)), (9, 1, .inl (.aload_n 0)), (10, 3, .inr (1, 29, 3, 3, 1106, 0)),
  (13, 1, .inl (.iconst 1)), (14, 3, .inr (2, 133, 4, 1, 1085, 0)), (17, 1, .inl (.aload_n 0)), (18, 3, .inr (1, 33, 3, 4, 1107, 0)), (21, 2, .inr (6, 139, 0, 0, 4105, 1048576)), (23, 3, .inr (2, 133, 4, 1, 1085, 0)),
  (26, 1, .inl (.aload_n 0)), (27, 3, .inr (0, 40, 3, 6, 1109, 0)), (30, 2, .inl (.bipush 32)), (32, 3, .inl (.if_icmp .ne 21)), (35, 1, .inl (.aload_n 0)), (36, 3, .inr (1, 29, 3, 3, 1106, 0)),
  (39, 1, .inl (.iconst 1)), (40, 3, .inr (2, 136, 4, 0, 1083, 0)), (43, 1, .inl (.aload_n 0)), (44, 3, .inr (1, 33, 3, 4, 1107, 0)), (47, 3, .inl (.sipush 16384)), (50, 3, .inr (2, 136, 4, 0, 1083, 0)),
  (53, 1, .inl (.aload_n 0)), (54, 3, .inr (1, 33, 3, 4, 1107, 0)), (57, 3, .inr (0, 136, 4, 0, 1083, 0)), (60, 1, .inl (.aload_n 0)), (61, 3, .inr (1, 29, 3, 3, 1106, 0)), (64, 3, .inr (0, 136, 4, 0, 1083, 0)),
  (67, 3, .inl (.if_icmp .ge 7)), (70, 1, .inl (.iconst 1)), (71, 3, .inl (.goto 4)), (74, 1, .inl (.iconst 0)), (75, 1, .inl (.istore_n 2)), (76, 1, .inl (.aload_n 0)),
  (77, 3, .inr (1, 33, 3, 4, 1107, 0)), (80, 3, .inr (0, 133, 4, 1, 1085, 0)), (83, 1, .inl (.aload_n 0)), (84, 3, .inr (1, 29, 3, 3, 1106, 0)), (87, 3, .inr (0, 133, 4, 1, 1085, 0)), (90, 3, .inl (.if_icmp .ge 7)),
  (93, 1, .inl (.iconst 1)), (94, 3, .inl (.goto 4)), (97, 1, .inl (.iconst 0)), (98, 1, .inl (.istore_n 3)), (99, 1, .inl (.iload_n 2)), (100, 3, .inl (.ifCond .eq 10)),
  (103, 1, .inl (.aload_n 0)), (104, 3, .inr (1, 33, 3, 4, 1107, 0)), (107, 3, .inl (.goto 7)), (110, 1, .inl (.aload_n 0)), (111, 3, .inr (1, 29, 3, 3, 1106, 0)), (114, 2, .inl (.astore 4)),
  (116, 1, .inl (.iload_n 2)), (117, 3, .inl (.ifCond .eq 10)), (120, 1, .inl (.aload_n 0)), (121, 3, .inr (1, 29, 3, 3, 1106, 0)), (124, 3, .inl (.goto 7)), (127, 1, .inl (.aload_n 0)),
  (128, 3, .inr (1, 33, 3, 4, 1107, 0)), (131, 2, .inl (.astore 5)), (133, 1, .inl (.iload_n 3)), (134, 3, .inl (.ifCond .eq 10)), (137, 1, .inl (.aload_n 0)), (138, 3, .inr (1, 33, 3, 4, 1107, 0)),
  (141, 3, .inl (.goto 7)), (144, 1, .inl (.aload_n 0)), (145, 3, .inr (1, 29, 3, 3, 1106, 0)), (148, 2, .inl (.astore 6)), (150, 1, .inl (.iload_n 3)), (151, 3, .inl (.ifCond .eq 10)),
  (154, 1, .inl (.aload_n 0)), (155, 3, .inr (1, 29, 3, 3, 1106, 0)), (158, 3, .inl (.goto 7)), (161, 1, .inl (.aload_n 0)), (162, 3, .inr (1, 33, 3, 4, 1107, 0)), (165, 2, .inl (.astore 7)),
  (167, 2, .inl (.aload 4)), (169, 3, .inr (0, 127, 4, 2, 1087, 0)), (172, 1, .inl (.iconst 2)), (173, 2, .inl (.aload 6)), (175, 3, .inr (0, 130, 4, 3, 1089, 0)), (178, 1, .inl .imul),
  (179, 1, .inl .iadd), (180, 1, .inl (.iconst 4)), (181, 2, .inl (.aload 5)), (183, 3, .inr (0, 127, 4, 2, 1087, 0)), (186, 1, .inl .imul), (187, 1, .inl .iadd),
  (188, 2, .inl (.bipush 8)), (190, 2, .inl (.aload 7)), (192, 3, .inr (0, 130, 4, 3, 1089, 0)), (195, 1, .inl .imul), (196, 1, .inl .iadd), (197, 2, .inl (.istore 8)),
  (199, 1, .inl (.aload_n 0)), (200, 3, .inr (1, 15, 3, 1, 1104, 0)), (203, 1, .inl (.iconst 5)), (204, 1, .inl (.aload_n 0)), (205, 3, .inr (0, 40, 3, 6, 1109, 0)), (208, 2, .inl (.iload 8)),
  (210, 1, .inl .iadd), (211, 3, .inr (4, 96, 23, 9902, 4063, 1)), (214, 3, .inr (4, 99, 171, 202, 4062, 0)), (217, 1, .inl (.aload_n 0)), (218, 3, .inr (1, 15, 3, 1, 1104, 0)), (221, 1, .inl (.iload_n 1)),
  (222, 3, .inr (4, 99, 171, 202, 4062, 0)), (225, 1, .inl (.aload_n 0)), (226, 3, .inr (1, 15, 3, 1, 1104, 0)), (229, 2, .inl (.aload 6)), (231, 3, .inr (0, 133, 4, 1, 1085, 0)), (234, 3, .inr (4, 99, 171, 202, 4062, 0)),
  (237, 1, .inl (.aload_n 0)), (238, 3, .inr (1, 15, 3, 1, 1104, 0)), (241, 2, .inl (.aload 4)), (243, 3, .inr (0, 136, 4, 0, 1083, 0)), (246, 3, .inr (4, 99, 171, 202, 4062, 0)), (249, 1, .inl (.aload_n 0)),
  (250, 3, .inr (1, 15, 3, 1, 1104, 0)), (253, 2, .inl (.aload 7)), (255, 3, .inr (0, 133, 4, 1, 1085, 0)), (258, 3, .inr (4, 99, 171, 202, 4062, 0)), (261, 1, .inl (.aload_n 0)), (262, 3, .inr (1, 15, 3, 1, 1104, 0)),
  (265, 2, .inl (.aload 5)), (267, 3, .inr (0, 136, 4, 0, 1083, 0)), (270, 3, .inr (4, 99, 171, 202, 4062, 0)), (273, 1, .inl .return_)]
set_option maxRecDepth 100000 in
theorem okX4_writeRange : ckM (mt mX4_writeRange) kX4_writeRange = true := by decide +kernel
def kX5_isAt : CD := [
  (0, 1, .inl (.aload_n 0)), (1, 1, .inl (.iload_n 2)), (2, 3, .inr (2, 9, 4, 4, 1090, 0)), (5, 1, .inl (.aload_n 0)), (6, 1, .inl (.iconst 0)), (7, 3, .inr (2, 15, 4, 0, 1082, 0)),
  (10, 1, .inl (.aload_n 0)), (11, 1, .inl (.iconst 0)), (12, 3, .inr (2, 18, 4, 1, 1084, 0)), (15, 1, .inl (.aload_n 0)), (16, 1, .inl (.iload_n 3)), (17, 3, .inl (.ifCond .eq 20)),
  (20, 1, .inl (.aload_n 1)), (21, 1, .inl (.aload_n 0)), (22, 3, .inr (0, 9, 4, 4, 1090, 0)), (25, 3, .inr (4, 21, 169, 202, 3210, 1)), (28, 2, .inl (.bipush 36)), (30, 3, .inl (.if_icmp .ne 7)),
  (33, 1, .inl (.iconst 1)), (34, 3, .inl (.goto 4)), (37, 1, .inl (.iconst 0)), (38, 3, .inr (2, 27, 4, 2, 1086, 0)), (41, 1, .inl (.aload_n 0)), (42, 1, .inl .dup),
  (43, 3, .inr (0, 9, 4, 4, 1090, 0)), (46, 1, .inl (.aload_n 0)), (47, 3, .inr (0, 27, 4, 2, 1086, 0)), (50, 1, .inl .iadd), (51, 3, .inr (2, 9, 4, 4, 1090, 0)), (54, 1, .inl (.iconst 0)),
  (55, 2, .inl (.istore 5)), (57, 1, .inl (.iload_n 3)), (58, 3, .inl (.ifCond .eq 67)), (61, 2, .inl (.iload 5)), (63, 1, .inl (.iconst 3)), (64, 3, .inl (.if_icmp .ge 61)),
  (67, 1, .inl (.aload_n 1)), (68, 1, .inl (.aload_n 0)), (69, 3, .inr (0, 9, 4, 4, 1090, 0)), (72, 3, .inr (4, 21, 169, 202, 3210, 1)), (75, 3, .inr (4, 30, 14, 9901, 3211, 1)), (78, 3, .inl (.ifCond .eq 47)),
  (81, 1, .inl (.aload_n 0)), (82, 1, .inl (.aload_n 0)), (83, 3, .inr (0, 15, 4, 0, 1082, 0)), (86, 2, .inl (.bipush 26)), (88, 1, .inl .imul), (89, 1, .inl (.aload_n 1)),
  (90, 1, .inl (.aload_n 0)), (91, 3, .inr (0, 9, 4, 4, 1090, 0)), (94, 3, .inr (4, 21, 169, 202, 3210, 1)), (97, 3, .inr (4, 34, 16, 9901, 3212, 1)), (100, 1, .inl .iadd), (101, 2, .inl (.bipush 65)),
  (103, 1, .inl .isub), (104, 1, .inl (.iconst 1)), (105, 1, .inl .iadd), (106, 3, .inr (2, 15, 4, 0, 1082, 0)), (109, 1, .inl (.aload_n 0)), (110, 1, .inl .dup),
  (111, 3, .inr (0, 9, 4, 4, 1090, 0)), (114, 1, .inl (.iconst 1)), (115, 1, .inl .iadd), (116, 3, .inr (2, 9, 4, 4, 1090, 0)), (119, 3, .inl (.iinc 5 1)), (122, 3, .inl (.goto (-65))),
  (125, 1, .inl (.aload_n 0)), (126, 2, .inl (.iload 4)), (128, 3, .inl (.ifCond .eq 20)), (131, 1, .inl (.aload_n 1)), (132, 1, .inl (.aload_n 0)), (133, 3, .inr (0, 9, 4, 4, 1090, 0)),
  (136, 3, .inr (4, 21, 169, 202, 3210, 1)), (139, 2, .inl (.bipush 36)), (141, 3, .inl (.if_icmp .ne 7)), (144, 1, .inl (.iconst 1)), (145, 3, .inl (.goto 4)), (148, 1, .inl (.iconst 0)),
  (149, 3, .inr (2, 37, 4, 3, 1088, 0)), (152, 1, .inl (.aload_n 0)), (153, 1, .inl .dup), (154, 3, .inr (0, 9, 4, 4, 1090, 0)), (157, 1, .inl (.aload_n 0)), (158, 3, .inr (0, 37, 4, 3, 1088, 0)),
  (161, 1, .inl .iadd), (162, 3, .inr (2, 9, 4, 4, 1090, 0)), (165, 1, .inl (.aload_n 1)), (166, 1, .inl (.aload_n 0)), (167, 3, .inr (0, 9, 4, 4, 1090, 0)), (170, 3, .inr (4, 21, 169, 202, 3210, 1)),
  (173, 2, .inl (.bipush 48)), (175, 3, .inl (.if_icmp .eq 7)), (178, 1, .inl (.iconst 1)), (179, 3, .inl (.goto 4)), (182, 1, .inl (.iconst 0)), (183, 2, .inl (.istore 5)),
  (185, 1, .inl (.iconst 0)), (186, 2, .inl (.istore 6)), (188, 2, .inl (.iload 4)), (190, 3, .inl (.ifCond .eq 63)), (193, 2, .inl (.iload 6)), (195, 2, .inl (.bipush 7)),
  (197, 3, .inl (.if_icmp .ge 56)), (200, 1, .inl (.aload_n 1)), (201, 1, .inl (.aload_n 0)), (202, 3, .inr (0, 9, 4, 4, 1090, 0)), (205, 3, .inr (4, 21, 169, 202, 3210, 1)), (208, 3, .inr (4, 40, 13, 9901, 3213, 1)),
  (211, 3, .inl (.ifCond .eq 42)), (214, 1, .inl (.aload_n 0)), (215, 1, .inl (.aload_n 0)), (216, 3, .inr (0, 18, 4, 1, 1084, 0)), (219, 2, .inl (.bipush 10)), (221, 1, .inl .imul),
  (222, 1, .inl (.aload_n 1)), (223, 1, .inl (.aload_n 0)), (224, 3, .inr (0, 9, 4, 4, 1090, 0)), (227, 3, .inr (4, 21, 169, 202, 3210, 1)), (230, 1, .inl .iadd), (231, 2, .inl (.bipush 48)),
  (233, 1, .inl .isub), (234, 3, .inr (2, 18, 4, 1, 1084, 0)), (237, 1, .inl (.aload_n 0)), (238, 1, .inl .dup), (239, 3, .inr (0, 9, 4, 4, 1090, 0)), (242, 1, .inl (.iconst 1)),
  (243, 1, .inl .iadd), (244, 3, .inr (2, 9, 4, 4, 1090, 0)), (247, 3, .inl (.iinc 6 1)), (250, 3, .inl (.goto (-62))), (253, 1, .inl (.aload_n 1)), (254, 1, .inl (.aload_n 0)),
  (255, 3, .inr (0, 9, 4, 4, 1090, 0)), (258, 3, .inr (4, 21, 169, 202, 3210, 1)), (261, 2, .inl (.istore 6)), (263, 1, .inl (.iload_n 3)), (264, 3, .inl (.ifCond .eq 21)), (267, 1, .inl (.aload_n 0)),
  (268, 3, .inr (0, 15, 4, 0, 1082, 0)), (271, 1, .inl (.iconst 1)), (272, 3, .inl (.if_icmp .lt 66)), (275, 1, .inl (.aload_n 0)), (276, 3, .inr (0, 15, 4, 0, 1082, 0)), (279, 3, .inl (.sipush 16384)),
  (282, 3, .inl (.if_icmp .gt 56)), (285, 2, .inl (.iload 4)), (287, 3, .inl (.ifCond .eq 25)), (290, 2, .inl (.iload 5)), (292, 3, .inl (.ifCond .eq 46)), (295, 1, .inl (.aload_n 0)),
  (296, 3, .inr (0, 18, 4, 1, 1084, 0)), (299, 1, .inl (.iconst 1)), (300, 3, .inl (.if_icmp .lt 38)), (303, 1, .inl (.aload_n 0)), (304, 3, .inr (0, 18, 4, 1, 1084, 0)), (307, 2, .inr (6, 43, 0, 0, 3216, 1048576)),
  (309, 3, .inl (.if_icmp .gt 29)), (312, 2, .inl (.iload 6)), (314, 3, .inr (4, 44, 15, 9901, 3217, 1)), (317, 3, .inl (.ifCond .ne 21)), (320, 2, .inl (.iload 6)), (322, 2, .inl (.bipush 40)),
  (324, 3, .inl (.if_icmp .eq 14)), (327, 2, .inl (.iload 6)), (329, 2, .inl (.bipush 33)), (331, 3, .inl (.if_icmp .eq 7)), (334, 1, .inl (.iconst 1)), (335, 3, .inl (.goto 4)),
  (338, 1, .inl (.iconst 0)), (339, 1, .inr (11, 0, 0, 0, 0, 0))]
set_option maxRecDepth 100000 in
theorem okX5_isAt : ckM (mt mX5_isAt) kX5_isAt = true := by decide +kernel
def kX6_count : CD := [
  (0, 1, .inl (.aload_n 0)), (1, 3, .inr (0, 30, 5, 3, 1055, 0)), (4, 1, .inl .ireturn)]
set_option maxRecDepth 100000 in
theorem okX6_count : ckM (mt mX6_count) kX6_count = true := by decide +kernel
def kX6_isOverfull : CD := [
  (0, 1, .inl (.aload_n 0)), (1, 3, .inr (0, 33, 5, 4, 1056, 0)), (4, 1, .inr (11, 0, 0, 0, 0, 0))]
set_option maxRecDepth 100000 in
theorem okX6_isOverfull : ckM (mt mX6_isOverfull) kX6_isOverfull = true := by decide +kernel
def kX6_length : CD := [
  (0, 1, .inl (.iload_n 1)), (1, 3, .inl (.ifCond .lt 33)), (4, 1, .inl (.iload_n 1)), (5, 1, .inl (.aload_n 0)), (6, 3, .inr (0, 30, 5, 3, 1055, 0)), (9, 3, .inl (.if_icmp .ge 25)),
  (12, 1, .inl (.aload_n 0)), (13, 3, .inr (1, 24, 5, 2, 1054, 0)), (16, 1, .inl (.iload_n 1)), (17, 1, .inl (.iconst 1)), (18, 1, .inl .iadd), (19, 3, .inr (4, 37, 169, 202, 2077, 1)),
  (22, 1, .inl (.aload_n 0)), (23, 3, .inr (1, 24, 5, 2, 1054, 0)), (26, 1, .inl (.iload_n 1)), (27, 3, .inr (4, 37, 169, 202, 2077, 1)), (30, 1, .inl .isub), (31, 3, .inl (.goto 4)),
  (34, 1, .inl (.iconst 0)), (35, 1, .inl .ireturn)]
set_option maxRecDepth 100000 in
theorem okX6_length : ckM (mt mX6_length) kX6_length = true := by decide +kernel
def kX6_letter : CD := [
  (0, 1, .inl (.iload_n 1)), (1, 3, .inl (.ifCond .lt 15)), (4, 1, .inl (.iload_n 1)), (5, 1, .inl (.aload_n 0)), (6, 3, .inr (0, 30, 5, 3, 1055, 0)), (9, 3, .inl (.if_icmp .ge 7)),
  (12, 1, .inl (.iload_n 2)), (13, 3, .inl (.ifCond .ge 5)), (16, 1, .inl (.iconst 0)), (17, 1, .inl .ireturn), (18, 1, .inl (.aload_n 0)), (19, 3, .inr (1, 24, 5, 2, 1054, 0)),
  (22, 1, .inl (.iload_n 1)), (23, 3, .inr (4, 37, 169, 202, 2077, 1)), (26, 1, .inl (.istore_n 3)), (27, 1, .inl (.iload_n 2)), (28, 1, .inl (.aload_n 0)), (29, 3, .inr (1, 24, 5, 2, 1054, 0)),
  (32, 1, .inl (.iload_n 1)), (33, 1, .inl (.iconst 1)), (34, 1, .inl .iadd), (35, 3, .inr (4, 37, 169, 202, 2077, 1)), (38, 1, .inl (.iload_n 3)), (39, 1, .inl .isub),
  (40, 3, .inl (.if_icmp .ge 16)), (43, 1, .inl (.aload_n 0)), (44, 3, .inr (1, 20, 5, 1, 1053, 0)), (47, 1, .inl (.iload_n 3)), (48, 1, .inl (.iload_n 2)), (49, 1, .inl .iadd),
  (50, 3, .inr (4, 37, 169, 202, 2077, 1)), (53, 3, .inl (.goto 4)), (56, 1, .inl (.iconst 0)), (57, 1, .inl .ireturn)]
set_option maxRecDepth 100000 in
theorem okX6_letter : ckM (mt mX6_letter) kX6_letter = true := by decide +kernel
def kX6_find : CD := [
  (0, 1, .inl (.iload_n 3)), (1, 1, .inl (.iload_n 2)), (2, 1, .inl .isub), (3, 2, .inl (.istore 4)), (5, 1, .inl (.iconst 0)), (6, 2, .inl (.istore 5)),
  (8, 2, .inl (.iload 5)), (10, 1, .inl (.aload_n 0)), (11, 3, .inr (1, 24, 5, 2, 1054, 0)), (14, 3, .inr (4, 41, 168, 201, 3161, 1)), (17, 1, .inl (.iconst 1)), (18, 1, .inl .isub),
  (19, 3, .inl (.if_icmp .ge 103)), (22, 1, .inl (.aload_n 0)), (23, 3, .inr (1, 24, 5, 2, 1054, 0)), (26, 2, .inl (.iload 5)), (28, 3, .inr (4, 37, 169, 202, 2077, 1)), (31, 2, .inl (.istore 6)),
  (33, 1, .inl (.aload_n 0)), (34, 3, .inr (1, 24, 5, 2, 1054, 0)), (37, 2, .inl (.iload 5)), (39, 1, .inl (.iconst 1)), (40, 1, .inl .iadd), (41, 3, .inr (4, 37, 169, 202, 2077, 1)),
  (44, 2, .inl (.iload 6)), (46, 1, .inl .isub), (47, 2, .inl (.iload 4)), (49, 3, .inl (.if_icmp .ne 7)), (52, 1, .inl (.iconst 0)), (53, 3, .inl (.goto 4)),
  (56, 1, .inl (.iconst (-1))), (57, 2, .inl (.istore 7)), (59, 2, .inl (.iload 7)), (61, 3, .inl (.ifCond .lt 45)), (64, 2, .inl (.iload 7)), (66, 2, .inl (.iload 4)),
  (68, 3, .inl (.if_icmp .ge 38)), (71, 1, .inl (.aload_n 0)), (72, 3, .inr (1, 20, 5, 1, 1053, 0)), (75, 2, .inl (.iload 6)), (77, 2, .inl (.iload 7)), (79, 1, .inl .iadd),
  (80, 3, .inr (4, 37, 169, 202, 2077, 1)), (83, 3, .inr (4, 45, 16, 9901, 3162, 1)), (86, 1, .inl (.aload_n 1)), (87, 1, .inl (.iload_n 2)), (88, 2, .inl (.iload 7)), (90, 1, .inl .iadd),
  (91, 3, .inr (4, 37, 169, 202, 2077, 1)), (94, 3, .inr (4, 45, 16, 9901, 3162, 1)), (97, 3, .inl (.if_icmp .ne 9)), (100, 3, .inl (.iinc 7 1)), (103, 3, .inl (.goto (-44))), (106, 2, .inl (.iload 7)),
  (108, 2, .inl (.iload 4)), (110, 3, .inl (.if_icmp .ne 6)), (113, 2, .inl (.iload 5)), (115, 1, .inl .ireturn), (116, 3, .inl (.iinc 5 1)), (119, 3, .inl (.goto (-111))),
  (122, 1, .inl (.iconst (-1))), (123, 1, .inl .ireturn)]
set_option maxRecDepth 100000 in
theorem okX6_find : ckM (mt mX6_find) kX6_find = true := by decide +kernel
def kX6_add : CD := [
  (0, 1, .inl (.aload_n 0)), (1, 3, .inr (1, 24, 5, 2, 1054, 0)), (4, 3, .inr (4, 41, 168, 201, 3161, 1)), (7, 1, .inl (.iconst 1)), (8, 1, .inl .isub), (9, 2, .inl (.istore 4)),
  (11, 2, .inl (.iload 4)), (13, 1, .inl (.aload_n 0)), (14, 3, .inr (0, 9, 5, 0, 1052, 0)), (17, 3, .inl (.if_icmp .lt 10)), (20, 1, .inl (.aload_n 0)), (21, 1, .inl (.iconst 1)),
  (22, 3, .inr (3, 33, 5, 4, 1056, 0)), (25, 1, .inl (.iconst 0)), (26, 1, .inl .ireturn), (27, 1, .inl (.iload_n 2)), (28, 2, .inl (.istore 5)), (30, 2, .inl (.iload 5)),
  (32, 1, .inl (.iload_n 3)), (33, 3, .inl (.if_icmp .ge 22)), (36, 1, .inl (.aload_n 0)), (37, 3, .inr (1, 20, 5, 1, 1053, 0)), (40, 1, .inl (.aload_n 1)), (41, 2, .inl (.iload 5)),
  (43, 3, .inr (4, 37, 169, 202, 2077, 1)), (46, 3, .inr (4, 27, 171, 202, 1048, 0)), (49, 3, .inl (.iinc 5 1)), (52, 3, .inl (.goto (-22))), (55, 1, .inl (.aload_n 0)), (56, 3, .inr (1, 24, 5, 2, 1054, 0)),
  (59, 1, .inl (.aload_n 0)), (60, 3, .inr (1, 20, 5, 1, 1053, 0)), (63, 3, .inr (4, 41, 168, 201, 3161, 1)), (66, 3, .inr (4, 27, 171, 202, 1048, 0)), (69, 2, .inl (.iload 4)), (71, 1, .inl .ireturn)]
set_option maxRecDepth 100000 in
theorem okX6_add : ckM (mt mX6_add) kX6_add = true := by decide +kernel
def kX6_keep : CD := [
  (0, 1, .inl (.aload_n 0)), (1, 1, .inl (.aload_n 0)), (2, 3, .inr (1, 24, 5, 2, 1054, 0)), (5, 3, .inr (4, 41, 168, 201, 3161, 1)), (8, 1, .inl (.iconst 1)), (9, 1, .inl .isub),
  (10, 3, .inr (2, 30, 5, 3, 1055, 0)), (13, 1, .inl .return_)]
set_option maxRecDepth 100000 in
theorem okX6_keep : ckM (mt mX6_keep) kX6_keep = true := by decide +kernel
def kX6_forget : CD := [
  (0, 1, .inl (.aload_n 0)), (1, 3, .inr (1, 24, 5, 2, 1054, 0)), (4, 1, .inl (.aload_n 0)), (5, 3, .inr (0, 30, 5, 3, 1055, 0)), (8, 1, .inl (.iconst 1)), (9, 1, .inl .iadd),
  (10, 3, .inr (4, 48, 175, 202, 4195, 0)), (13, 1, .inl (.aload_n 0)), (14, 3, .inr (1, 20, 5, 1, 1053, 0)), (17, 1, .inl (.aload_n 0)), (18, 3, .inr (1, 24, 5, 2, 1054, 0)), (21, 3, .inr (4, 51, 170, 201, 4196, 1)),
  (24, 3, .inr (4, 48, 175, 202, 4195, 0)), (27, 1, .inl (.aload_n 0)), (28, 1, .inl (.iconst 0)), (29, 3, .inr (3, 33, 5, 4, 1056, 0)), (32, 1, .inl .return_)]
set_option maxRecDepth 100000 in
theorem okX6_forget : ckM (mt mX6_forget) kX6_forget = true := by decide +kernel
