/-! the words of what throws java.util.NoSuchElementException: printed names with one place and code changed -/
def wzX11_toldMethod : List Cond := .code yX11_toldMethod cX11_toldMethod 2 (some (.object "BellTower$Method")) :: ([.classLink RX11 147 "java/util/NoSuchElementException", .initialized "java/util/NoSuchElementException", .fieldLink RX11 29 "BellTower" "book" "LBellTower$Book;", .methodLink RX11 258 yX0_has, .instanceMethod yX0_has, .selects RX0 yX0_has yX0_has, .initialized RX0, .code yX0_has cX0_has 2 (some .boolean), .methodLink RX0 22 yX0_at, .instanceMethod yX0_at, .selects RX0 yX0_at yX0_at, .code yX0_at cX0_at 3 (some (.object "BellTower$Method")), .fieldLink RX0 11 "BellTower$Book" "methods" "[LBellTower$Method;", .fieldLink RX0 18 "BellTower$Book" "nothing" "LBellTower$Method;", .methodLink RX0 26 yX2_size, .instanceMethod yX2_size, .selects RX2 yX2_size yX2_size, .initialized RX2, .code yX2_size cX2_size 1 (some .int), .fieldLink RX2 15 "BellTower$Method" "size" "I", .methodLink RX11 107 yX0_at] ++ wsX110 ++ wsX00 ++ wsX20 ++ (hn_at RX11 151 "java/util/NoSuchElementException" 13 prog_24_method_4_code ["java/lang/RuntimeException", "java/lang/Exception"]).filter goodWord)
def wzX11_lead : List Cond := .code yX11_lead cX11_lead 4 (some .int) :: ((wsX11_lead_r1 ++ wsX11_lead_r2) ++ wsX110 ++ wsX00 ++ wsX20 ++ (hn_at RX11 151 "java/util/NoSuchElementException" 13 prog_24_method_4_code ["java/lang/RuntimeException", "java/lang/Exception"]).filter goodWord)
def wzX11_head : List Cond := .code yX11_head cX11_head 4 (some .int) :: ((wsX11_head_r1 ++ wsX11_head_r2) ++ wsX110 ++ wsX00 ++ wsX20 ++ (hn_at RX11 151 "java/util/NoSuchElementException" 13 prog_24_method_4_code ["java/lang/RuntimeException", "java/lang/Exception"]).filter goodWord)
def wzX11_course : List Cond := .code yX11_course cX11_course 2 (some .int) :: ((wsX11_course_r1 ++ wsX11_course_r2) ++ wsX110 ++ wsX00 ++ wsX20 ++ (hn_at RX11 151 "java/util/NoSuchElementException" 13 prog_24_method_4_code ["java/lang/RuntimeException", "java/lang/Exception"]).filter goodWord)
def wzX11_line : List Cond := .code yX11_line cX11_line 5 (some .int) :: ((wsX11_line_r1 ++ (wsX11_line_r2 ++ wsX11_line_r3)) ++ wsX110 ++ wsX00 ++ wsX20 ++ (hn_at RX11 151 "java/util/NoSuchElementException" 13 prog_24_method_4_code ["java/lang/RuntimeException", "java/lang/Exception"]).filter goodWord)
def wzX11_falseHeads : List Cond := .code yX11_falseHeads cX11_falseHeads 3 (some .int) :: ((wsX11_falseHeads_r1 ++ (wsX11_falseHeads_r2 ++ (wsX11_falseHeads_r3 ++ wsX11_falseHeads_r4))) ++ wsX110 ++ wsX00 ++ wsX20 ++ wsX80 ++ (hn_at RX11 151 "java/util/NoSuchElementException" 13 prog_24_method_4_code ["java/lang/RuntimeException", "java/lang/Exception"]).filter goodWord)
def wzX11_falseHead : List Cond := .code yX11_falseHead cX11_falseHead 5 (some .int) :: ((wsX11_falseHead_r1 ++ (wsX11_falseHead_r2 ++ (wsX11_falseHead_r3 ++ (wsX11_falseHead_r4 ++ wsX11_falseHead_r5)))) ++ wsX110 ++ wsX00 ++ wsX20 ++ wsX80 ++ (hn_at RX11 151 "java/util/NoSuchElementException" 13 prog_24_method_4_code ["java/lang/RuntimeException", "java/lang/Exception"]).filter goodWord)
def wzX11_called : List Cond := .code yX11_called cX11_called 3 (some .int) :: ((wsX11_called_r1 ++ wsX11_called_r2) ++ wsX110 ++ wsX50 ++ (hn_at RX11 151 "java/util/NoSuchElementException" 13 prog_24_method_4_code ["java/lang/RuntimeException", "java/lang/Exception"]).filter goodWord)
def wzX11_row : List Cond := .code yX11_row cX11_row 2 (some .int) :: ((wsX11_row_r1 ++ (wsX11_row_r2 ++ wsX11_row_r3)) ++ wsX110 ++ wsX50 ++ wsX00 ++ wsX20 ++ (hn_at RX11 151 "java/util/NoSuchElementException" 13 prog_24_method_4_code ["java/lang/RuntimeException", "java/lang/Exception"]).filter goodWord)
def wzX11_find : List Cond := .code yX11_find cX11_find 6 (some .int) :: ((wsX11_find_r1 ++ (wsX11_find_r2 ++ (wsX11_find_r3 ++ (wsX11_find_r4 ++ (wsX11_find_r5 ++ (wsX11_find_r6 ++ wsX11_find_r7)))))) ++ wsX110 ++ wsX00 ++ wsX20 ++ wsX70 ++ wsX80 ++ wsX50 ++ (vx_atS RX11 248 "java/lang/IllegalArgumentException" ["java/lang/RuntimeException", "java/lang/Exception"]).filter goodWord ++ (hn_at RX11 151 "java/util/NoSuchElementException" 13 prog_24_method_4_code ["java/lang/RuntimeException", "java/lang/Exception"]).filter goodWord)
def wzL_lead : List Cond := .codeWith yL_lead cL_lead 5 (some .int) [(0, 10, 13, 19)] :: ((wsL_lead_r1 ++ (wsL_lead_r2 ++ wsL_lead_r3)) ++ wsX110 ++ wsX00 ++ wsX20 ++ (hn_at RX11 151 "java/util/NoSuchElementException" 13 prog_24_method_4_code ["java/lang/RuntimeException", "java/lang/Exception"]).filter goodWord)
def wzL_head : List Cond := .codeWith yL_head cL_head 5 (some .int) [(0, 10, 13, 19)] :: ((wsL_head_r1 ++ (wsL_head_r2 ++ wsL_head_r3)) ++ wsX110 ++ wsX00 ++ wsX20 ++ (hn_at RX11 151 "java/util/NoSuchElementException" 13 prog_24_method_4_code ["java/lang/RuntimeException", "java/lang/Exception"]).filter goodWord)
def wzL_course : List Cond := .codeWith yL_course cL_course 4 (some .int) [(0, 9, 12, 19)] :: ((wsL_course_r1 ++ (wsL_course_r2 ++ wsL_course_r3)) ++ wsX110 ++ wsX00 ++ wsX20 ++ (hn_at RX11 151 "java/util/NoSuchElementException" 13 prog_24_method_4_code ["java/lang/RuntimeException", "java/lang/Exception"]).filter goodWord)
def wzL_line : List Cond := .codeWith yL_line cL_line 6 (some .int) [(0, 12, 15, 19)] :: ((wsL_line_r1 ++ (wsL_line_r2 ++ (wsL_line_r3 ++ wsL_line_r4))) ++ wsX110 ++ wsX00 ++ wsX20 ++ (hn_at RX11 151 "java/util/NoSuchElementException" 13 prog_24_method_4_code ["java/lang/RuntimeException", "java/lang/Exception"]).filter goodWord)
def wzL_falseHeads : List Cond := .codeWith yL_falseHeads cL_falseHeads 5 (some .int) [(0, 10, 13, 19)] :: ((wsL_falseHeads_r1 ++ (wsL_falseHeads_r2 ++ (wsL_falseHeads_r3 ++ wsL_falseHeads_r4))) ++ wsX110 ++ wsX00 ++ wsX20 ++ wsX80 ++ (hn_at RX11 151 "java/util/NoSuchElementException" 13 prog_24_method_4_code ["java/lang/RuntimeException", "java/lang/Exception"]).filter goodWord)
def wzL_falseHead : List Cond := .codeWith yL_falseHead cL_falseHead 6 (some .int) [(0, 12, 15, 19)] :: ((wsL_falseHead_r1 ++ (wsL_falseHead_r2 ++ (wsL_falseHead_r3 ++ (wsL_falseHead_r4 ++ wsL_falseHead_r5)))) ++ wsX110 ++ wsX00 ++ wsX20 ++ wsX80 ++ (hn_at RX11 151 "java/util/NoSuchElementException" 13 prog_24_method_4_code ["java/lang/RuntimeException", "java/lang/Exception"]).filter goodWord)
def wzL_called : List Cond := .codeWith yL_called cL_called 5 (some .int) [(0, 10, 13, 19)] :: ((wsL_called_r1 ++ wsL_called_r2) ++ wsX110 ++ wsX50 ++ (hn_at RX11 151 "java/util/NoSuchElementException" 13 prog_24_method_4_code ["java/lang/RuntimeException", "java/lang/Exception"]).filter goodWord)
def wzL_row : List Cond := .codeWith yL_row cL_row 4 (some .int) [(0, 9, 12, 19)] :: ((wsL_row_r1 ++ (wsL_row_r2 ++ wsL_row_r3)) ++ wsX110 ++ wsX50 ++ wsX00 ++ wsX20 ++ (hn_at RX11 151 "java/util/NoSuchElementException" 13 prog_24_method_4_code ["java/lang/RuntimeException", "java/lang/Exception"]).filter goodWord)
def wzL_find : List Cond := .codeWith yL_find cL_find 6 (some .int) [(0, 12, 15, 46), (0, 12, 19, 19)] :: ((wsL_find_r1 ++ (wsL_find_r2 ++ (wsL_find_r3 ++ (wsL_find_r4 ++ (wsL_find_r5 ++ (wsL_find_r6 ++ wsL_find_r7)))))) ++ wsX110 ++ wsX00 ++ wsX20 ++ wsX70 ++ wsX80 ++ wsX50 ++ (vx_atS RX11 248 "java/lang/IllegalArgumentException" ["java/lang/RuntimeException", "java/lang/Exception"]).filter goodWord ++ (hn_at RX11 151 "java/util/NoSuchElementException" 13 prog_24_method_4_code ["java/lang/RuntimeException", "java/lang/Exception"]).filter goodWord)
def wzL_law : List Cond := wsL_law0 ++ (vx_atS RX11 91 "java/lang/IndexOutOfBoundsException" ["java/lang/RuntimeException", "java/lang/Exception"]).filter goodWord ++ (hn_at RX11 151 "java/util/NoSuchElementException" 13 prog_24_method_4_code ["java/lang/RuntimeException", "java/lang/Exception"]).filter goodWord ++ (vx_atS RX11 248 "java/lang/IllegalArgumentException" ["java/lang/RuntimeException", "java/lang/Exception"]).filter goodWord
set_option maxRecDepth 20000 in
theorem ggzX11_lead_X11_toldMethod : GoodIn wzX11_lead wzX11_toldMethod := goodIn_ca (goodIn_r _ [8, 1, 2, 9, 10, 11, 12, 13, 14, 15, 16, 17, 18, 19, 20, 21, 22, 23, 24, 25, 26, 27, 49, 50, 51, 52, 53, 54, 55, 56, 57, 58, 59, 60, 61, 62, 63, 64, 65, 66, 67] (by decide +kernel) (by decide +kernel)) (goodIn_sub (fun _ h => List.mem_cons_of_mem _ (List.mem_append_right _ h)) (by decide +kernel))
set_option maxRecDepth 20000 in
theorem gzX11_lead_X11_toldMethod : GoodIn wzX11_lead (wsV RX11 144 RX11 yX11_toldMethod wzX11_toldMethod) := goodIn_app (goodIn_of _ (by decide +kernel)) ggzX11_lead_X11_toldMethod
set_option maxRecDepth 20000 in
theorem ggzX11_lead_X2_size : GoodIn wzX11_lead wsX2_size := goodIn_r _ [25, 26, 60, 61, 62, 63, 64, 65, 66, 67] (by decide +kernel) (by decide +kernel)
set_option maxRecDepth 20000 in
theorem gzX11_lead_X2_size : GoodIn wzX11_lead (wsV RX11 121 RX2 yX2_size wsX2_size) := goodIn_app (goodIn_of _ (by decide +kernel)) ggzX11_lead_X2_size
set_option maxRecDepth 20000 in
theorem ggzX11_lead_X6_rounds : GoodIn wzX11_lead wsX6_rounds := goodIn_r _ [32] (by decide +kernel) (by decide +kernel)
set_option maxRecDepth 20000 in
theorem gzX11_lead_X6_rounds : GoodIn wzX11_lead (va_wsS RX11 152 yX6_rounds wsX6_rounds) := goodIn_app (goodIn_of _ (by decide +kernel)) ggzX11_lead_X6_rounds
set_option maxRecDepth 20000 in
theorem ggzX11_lead_X2_rowFrom : GoodIn wzX11_lead wsX2_rowFrom := goodIn_r _ [36, 26, 37, 38, 7, 39, 40, 41, 31, 42, 60, 61, 62, 63, 64, 65, 66, 67] (by decide +kernel) (by decide +kernel)
set_option maxRecDepth 20000 in
theorem gzX11_lead_X2_rowFrom : GoodIn wzX11_lead (wsV RX11 157 RX2 yX2_rowFrom wsX2_rowFrom) := goodIn_app (goodIn_of _ (by decide +kernel)) ggzX11_lead_X2_rowFrom
set_option maxRecDepth 20000 in
theorem ggzX11_lead_X6_told : GoodIn wzX11_lead wsX6_told := goodIn_r _ [45, 46, 47, 31, 48] (by decide +kernel) (by decide +kernel)
set_option maxRecDepth 20000 in
theorem gzX11_lead_X6_told : GoodIn wzX11_lead (va_wsS RX11 161 yX6_told wsX6_told) := goodIn_app (goodIn_of _ (by decide +kernel)) ggzX11_lead_X6_told
set_option maxRecDepth 20000 in
theorem ggzX11_head_X11_toldMethod : GoodIn wzX11_head wzX11_toldMethod := goodIn_ca (goodIn_r _ [8, 1, 2, 9, 10, 11, 12, 13, 14, 15, 16, 17, 18, 19, 20, 21, 22, 23, 24, 25, 26, 27, 49, 50, 51, 52, 53, 54, 55, 56, 57, 58, 59, 60, 61, 62, 63, 64, 65, 66, 67] (by decide +kernel) (by decide +kernel)) (goodIn_sub (fun _ h => List.mem_cons_of_mem _ (List.mem_append_right _ h)) (by decide +kernel))
set_option maxRecDepth 20000 in
theorem gzX11_head_X11_toldMethod : GoodIn wzX11_head (wsV RX11 144 RX11 yX11_toldMethod wzX11_toldMethod) := goodIn_app (goodIn_of _ (by decide +kernel)) ggzX11_head_X11_toldMethod
set_option maxRecDepth 20000 in
theorem ggzX11_head_X6_rounds : GoodIn wzX11_head wsX6_rounds := goodIn_r _ [31] (by decide +kernel) (by decide +kernel)
set_option maxRecDepth 20000 in
theorem gzX11_head_X6_rounds : GoodIn wzX11_head (va_wsS RX11 152 yX6_rounds wsX6_rounds) := goodIn_app (goodIn_of _ (by decide +kernel)) ggzX11_head_X6_rounds
set_option maxRecDepth 20000 in
theorem ggzX11_head_X2_following : GoodIn wzX11_head wsX2_following := goodIn_r _ [35, 36, 37, 38, 39, 40, 41, 30, 42, 43, 44, 45, 60, 61, 62, 63, 64, 65, 66, 67] (by decide +kernel) (by decide +kernel)
set_option maxRecDepth 20000 in
theorem gzX11_head_X2_following : GoodIn wzX11_head (wsV RX11 166 RX2 yX2_following wsX2_following) := goodIn_app (goodIn_of _ (by decide +kernel)) ggzX11_head_X2_following
set_option maxRecDepth 20000 in
theorem ggzX11_head_X6_told : GoodIn wzX11_head wsX6_told := goodIn_r _ [48, 43, 44, 30, 45] (by decide +kernel) (by decide +kernel)
set_option maxRecDepth 20000 in
theorem gzX11_head_X6_told : GoodIn wzX11_head (va_wsS RX11 161 yX6_told wsX6_told) := goodIn_app (goodIn_of _ (by decide +kernel)) ggzX11_head_X6_told
set_option maxRecDepth 20000 in
theorem ggzX11_course_X11_toldMethod : GoodIn wzX11_course wzX11_toldMethod := goodIn_ca (goodIn_r _ [5, 6, 7, 8, 9, 10, 11, 12, 13, 14, 15, 16, 17, 18, 19, 20, 21, 22, 23, 24, 25, 26, 47, 48, 49, 50, 51, 52, 53, 54, 55, 56, 57, 58, 59, 60, 61, 62, 63, 64, 65] (by decide +kernel) (by decide +kernel)) (goodIn_sub (fun _ h => List.mem_cons_of_mem _ (List.mem_append_right _ h)) (by decide +kernel))
set_option maxRecDepth 20000 in
theorem gzX11_course_X11_toldMethod : GoodIn wzX11_course (wsV RX11 144 RX11 yX11_toldMethod wzX11_toldMethod) := goodIn_app (goodIn_of _ (by decide +kernel)) ggzX11_course_X11_toldMethod
set_option maxRecDepth 20000 in
theorem ggzX11_course_X2_courseLeads : GoodIn wzX11_course wsX2_courseLeads := goodIn_r _ [30, 31, 32, 33, 34, 35, 36, 37, 38, 39, 40, 41, 42, 43, 44, 45, 46, 58, 59, 60, 61, 62, 63, 64, 65] (by decide +kernel) (by decide +kernel)
set_option maxRecDepth 20000 in
theorem gzX11_course_X2_courseLeads : GoodIn wzX11_course (wsV RX11 169 RX2 yX2_courseLeads wsX2_courseLeads) := goodIn_app (goodIn_of _ (by decide +kernel)) ggzX11_course_X2_courseLeads
set_option maxRecDepth 20000 in
theorem ggzX11_line_X11_toldMethod : GoodIn wzX11_line wzX11_toldMethod := goodIn_ca (goodIn_r _ [8, 1, 2, 9, 10, 11, 12, 13, 14, 15, 16, 17, 18, 19, 20, 21, 22, 23, 24, 25, 26, 27, 73, 74, 75, 76, 77, 78, 79, 80, 81, 82, 83, 84, 85, 86, 87, 88, 89, 90, 91] (by decide +kernel) (by decide +kernel)) (goodIn_sub (fun _ h => List.mem_cons_of_mem _ (List.mem_append_right _ h)) (by decide +kernel))
set_option maxRecDepth 20000 in
theorem gzX11_line_X11_toldMethod : GoodIn wzX11_line (wsV RX11 144 RX11 yX11_toldMethod wzX11_toldMethod) := goodIn_app (goodIn_of _ (by decide +kernel)) ggzX11_line_X11_toldMethod
set_option maxRecDepth 20000 in
theorem ggzX11_line_X2_courseRow : GoodIn wzX11_line wsX2_courseRow := goodIn_r _ [31, 32, 26, 33, 34, 35, 24, 36, 37, 38, 39, 40, 41, 42, 43, 44, 45, 46, 47, 48, 49, 50, 51, 52, 53, 54, 55, 56, 57, 58, 59, 60, 61, 62, 63, 64, 65, 7, 66, 67, 68, 69, 84, 85, 86, 87, 88, 89, 90, 91] (by decide +kernel) (by decide +kernel)
set_option maxRecDepth 20000 in
theorem gzX11_line_X2_courseRow : GoodIn wzX11_line (wsV RX11 174 RX2 yX2_courseRow wsX2_courseRow) := goodIn_app (goodIn_of _ (by decide +kernel)) ggzX11_line_X2_courseRow
set_option maxRecDepth 20000 in
theorem ggzX11_line_X6_placeOf : GoodIn wzX11_line wsX6_placeOf := goodIn_r _ [72, 49, 50, 40, 51] (by decide +kernel) (by decide +kernel)
set_option maxRecDepth 20000 in
theorem gzX11_line_X6_placeOf : GoodIn wzX11_line (va_wsS RX11 177 yX6_placeOf wsX6_placeOf) := goodIn_app (goodIn_of _ (by decide +kernel)) ggzX11_line_X6_placeOf
set_option maxRecDepth 20000 in
theorem ggzX11_falseHeads_X11_toldMethod : GoodIn wzX11_falseHeads wzX11_toldMethod := goodIn_ca (goodIn_r _ [5, 6, 7, 8, 9, 10, 11, 12, 13, 14, 15, 16, 17, 18, 19, 20, 21, 22, 23, 24, 25, 26, 83, 84, 85, 86, 87, 88, 89, 90, 91, 92, 93, 94, 95, 96, 97, 98, 99, 100, 101] (by decide +kernel) (by decide +kernel)) (goodIn_sub (fun _ h => List.mem_cons_of_mem _ (List.mem_append_right _ h)) (by decide +kernel))
set_option maxRecDepth 20000 in
theorem gzX11_falseHeads_X11_toldMethod : GoodIn wzX11_falseHeads (wsV RX11 144 RX11 yX11_toldMethod wzX11_toldMethod) := goodIn_app (goodIn_of _ (by decide +kernel)) ggzX11_falseHeads_X11_toldMethod
set_option maxRecDepth 20000 in
theorem ggzX11_falseHeads_X11_noteFalseHeads : GoodIn wzX11_falseHeads wsX11_noteFalseHeads := goodIn_r _ [30, 31, 32, 33, 34, 35, 36, 37, 38, 39, 40, 41, 42, 43, 44, 45, 21, 22, 23, 24, 25, 46, 47, 48, 49, 50, 51, 52, 53, 54, 55, 56, 57, 58, 59, 60, 61, 62, 63, 64, 65, 66, 67, 68, 69, 70, 71, 4, 72, 73, 74, 75, 76, 77, 78, 79, 80, 81, 82, 83, 84, 85, 86, 87, 88, 89, 90, 91, 102, 103, 104, 105, 94, 95, 96, 97, 98, 99, 100, 101] (by decide +kernel) (by decide +kernel)
set_option maxRecDepth 20000 in
theorem gzX11_falseHeads_X11_noteFalseHeads : GoodIn wzX11_falseHeads (wsV RX11 181 RX11 yX11_noteFalseHeads wsX11_noteFalseHeads) := goodIn_app (goodIn_of _ (by decide +kernel)) ggzX11_falseHeads_X11_noteFalseHeads
set_option maxRecDepth 20000 in
theorem ggzX11_falseHead_X11_toldMethod : GoodIn wzX11_falseHead wzX11_toldMethod := goodIn_ca (goodIn_r _ [7, 8, 9, 10, 11, 12, 13, 14, 15, 16, 17, 18, 19, 20, 21, 22, 23, 24, 25, 26, 27, 28, 100, 101, 102, 103, 104, 105, 106, 107, 108, 109, 110, 111, 112, 113, 114, 115, 116, 117, 118] (by decide +kernel) (by decide +kernel)) (goodIn_sub (fun _ h => List.mem_cons_of_mem _ (List.mem_append_right _ h)) (by decide +kernel))
set_option maxRecDepth 20000 in
theorem gzX11_falseHead_X11_toldMethod : GoodIn wzX11_falseHead (wsV RX11 144 RX11 yX11_toldMethod wzX11_toldMethod) := goodIn_app (goodIn_of _ (by decide +kernel)) ggzX11_falseHead_X11_toldMethod
set_option maxRecDepth 20000 in
theorem ggzX11_falseHead_X11_noteFalseHeads : GoodIn wzX11_falseHead wsX11_noteFalseHeads := goodIn_r _ [32, 1, 2, 33, 34, 35, 36, 37, 38, 39, 40, 41, 42, 43, 44, 45, 23, 24, 25, 26, 27, 46, 47, 48, 49, 50, 51, 52, 53, 54, 55, 56, 57, 58, 59, 60, 61, 62, 63, 64, 65, 66, 67, 68, 69, 70, 71, 6, 72, 73, 74, 75, 76, 77, 78, 79, 80, 81, 82, 100, 101, 102, 103, 104, 105, 106, 107, 108, 119, 120, 121, 122, 111, 112, 113, 114, 115, 116, 117, 118] (by decide +kernel) (by decide +kernel)
set_option maxRecDepth 20000 in
theorem gzX11_falseHead_X11_noteFalseHeads : GoodIn wzX11_falseHead (wsV RX11 181 RX11 yX11_noteFalseHeads wsX11_noteFalseHeads) := goodIn_app (goodIn_of _ (by decide +kernel)) ggzX11_falseHead_X11_noteFalseHeads
set_option maxRecDepth 20000 in
theorem ggzX11_falseHead_X8_risingRow : GoodIn wzX11_falseHead wsX8_risingRow := goodIn_r _ [86, 38, 56, 40, 87, 88, 43, 89, 71, 6, 72, 90, 91, 92, 93, 94, 95, 96, 119, 120, 121, 122] (by decide +kernel) (by decide +kernel)
set_option maxRecDepth 20000 in
theorem gzX11_falseHead_X8_risingRow : GoodIn wzX11_falseHead (wsV RX11 185 RX8 yX8_risingRow wsX8_risingRow) := goodIn_app (goodIn_of _ (by decide +kernel)) ggzX11_falseHead_X8_risingRow
set_option maxRecDepth 20000 in
theorem ggzX11_falseHead_X6_told : GoodIn wzX11_falseHead wsX6_told := goodIn_r _ [99, 49, 50, 43, 51] (by decide +kernel) (by decide +kernel)
set_option maxRecDepth 20000 in
theorem gzX11_falseHead_X6_told : GoodIn wzX11_falseHead (va_wsS RX11 161 yX6_told wsX6_told) := goodIn_app (goodIn_of _ (by decide +kernel)) ggzX11_falseHead_X6_told
set_option maxRecDepth 20000 in
theorem ggzX11_called_X5_size : GoodIn wzX11_called wsX5_size := goodIn_r _ [9, 10, 49, 50, 51, 52, 53, 54, 55, 56, 57, 58, 59, 60] (by decide +kernel) (by decide +kernel)
set_option maxRecDepth 20000 in
theorem gzX11_called_X5_size : GoodIn wzX11_called (wsV RX11 143 RX5 yX5_size wsX5_size) := goodIn_app (goodIn_of _ (by decide +kernel)) ggzX11_called_X5_size
set_option maxRecDepth 20000 in
theorem ggzX11_called_X5_headOf : GoodIn wzX11_called wsX5_headOf := goodIn_r _ [14, 15, 16, 17, 18, 49, 50, 51, 52, 53, 54, 55, 56, 57, 58, 59, 60] (by decide +kernel) (by decide +kernel)
set_option maxRecDepth 20000 in
theorem gzX11_called_X5_headOf : GoodIn wzX11_called (wsV RX11 215 RX5 yX5_headOf wsX5_headOf) := goodIn_app (goodIn_of _ (by decide +kernel)) ggzX11_called_X5_headOf
set_option maxRecDepth 20000 in
theorem ggzX11_called_X6_told : GoodIn wzX11_called wsX6_told := goodIn_r _ [22, 23, 24, 21, 25] (by decide +kernel) (by decide +kernel)
set_option maxRecDepth 20000 in
theorem gzX11_called_X6_told : GoodIn wzX11_called (va_wsS RX11 161 yX6_told wsX6_told) := goodIn_app (goodIn_of _ (by decide +kernel)) ggzX11_called_X6_told
set_option maxRecDepth 20000 in
theorem ggzX11_called_X5_letterOf : GoodIn wzX11_called wsX5_letterOf := goodIn_r _ [29, 30, 16, 17, 18, 49, 50, 51, 52, 53, 54, 55, 56, 57, 58, 59, 60] (by decide +kernel) (by decide +kernel)
set_option maxRecDepth 20000 in
theorem gzX11_called_X5_letterOf : GoodIn wzX11_called (wsV RX11 218 RX5 yX5_letterOf wsX5_letterOf) := goodIn_app (goodIn_of _ (by decide +kernel)) ggzX11_called_X5_letterOf
set_option maxRecDepth 20000 in
theorem ggzX11_called_X5_callOf : GoodIn wzX11_called wsX5_callOf := goodIn_r _ [34, 30, 16, 17, 18, 49, 50, 51, 52, 53, 54, 55, 56, 57, 58, 59, 60] (by decide +kernel) (by decide +kernel)
set_option maxRecDepth 20000 in
theorem gzX11_called_X5_callOf : GoodIn wzX11_called (wsV RX11 219 RX5 yX5_callOf wsX5_callOf) := goodIn_app (goodIn_of _ (by decide +kernel)) ggzX11_called_X5_callOf
set_option maxRecDepth 20000 in
theorem ggzX11_called_X5_firstOf : GoodIn wzX11_called wsX5_firstOf := goodIn_r _ [38, 39, 16, 17, 18, 49, 50, 51, 52, 53, 54, 55, 56, 57, 58, 59, 60] (by decide +kernel) (by decide +kernel)
set_option maxRecDepth 20000 in
theorem gzX11_called_X5_firstOf : GoodIn wzX11_called (wsV RX11 220 RX5 yX5_firstOf wsX5_firstOf) := goodIn_app (goodIn_of _ (by decide +kernel)) ggzX11_called_X5_firstOf
set_option maxRecDepth 20000 in
theorem ggzX11_row_X5_rows : GoodIn wzX11_row wsX5_rows := goodIn_r _ [9, 10, 69, 70, 71, 72, 73, 74, 75, 76, 77, 78, 79, 80] (by decide +kernel) (by decide +kernel)
set_option maxRecDepth 20000 in
theorem gzX11_row_X5_rows : GoodIn wzX11_row (wsV RX11 188 RX5 yX5_rows wsX5_rows) := goodIn_app (goodIn_of _ (by decide +kernel)) ggzX11_row_X5_rows
set_option maxRecDepth 20000 in
theorem ggzX11_row_X5_rowNumbered : GoodIn wzX11_row wsX5_rowNumbered := goodIn_r _ [14, 15, 16, 17, 18, 19, 20, 8, 21, 22, 23, 24, 25, 26, 27, 28, 29, 30, 31, 32, 33, 34, 35, 36, 37, 38, 39, 40, 41, 42, 43, 44, 45, 46, 47, 48, 49, 50, 51, 52, 53, 69, 70, 71, 72, 73, 74, 75, 76, 77, 78, 79, 80, 81, 82, 83, 84, 85, 86, 87, 88, 89, 90] (by decide +kernel) (by decide +kernel)
set_option maxRecDepth 20000 in
theorem gzX11_row_X5_rowNumbered : GoodIn wzX11_row (wsV RX11 227 RX5 yX5_rowNumbered wsX5_rowNumbered) := goodIn_app (goodIn_of _ (by decide +kernel)) ggzX11_row_X5_rowNumbered
set_option maxRecDepth 20000 in
theorem ggzX11_row_X6_told : GoodIn wzX11_row wsX6_told := goodIn_r _ [56, 57, 58, 52, 59] (by decide +kernel) (by decide +kernel)
set_option maxRecDepth 20000 in
theorem gzX11_row_X6_told : GoodIn wzX11_row (va_wsS RX11 161 yX6_told wsX6_told) := goodIn_app (goodIn_of _ (by decide +kernel)) ggzX11_row_X6_told
set_option maxRecDepth 20000 in
theorem ggzX11_find_X11_toldMethod : GoodIn wzX11_find wzX11_toldMethod := goodIn_ca (goodIn_r _ [10, 11, 12, 13, 14, 15, 16, 17, 18, 19, 20, 21, 22, 23, 24, 25, 26, 27, 28, 29, 30, 31, 151, 152, 153, 154, 155, 156, 157, 158, 159, 160, 161, 162, 163, 164, 165, 166, 167, 168, 169] (by decide +kernel) (by decide +kernel)) (goodIn_sub (fun _ h => List.mem_cons_of_mem _ (List.mem_append_right _ h)) (by decide +kernel))
set_option maxRecDepth 20000 in
theorem gzX11_find_X11_toldMethod : GoodIn wzX11_find (wsV RX11 144 RX11 yX11_toldMethod wzX11_toldMethod) := goodIn_app (goodIn_of _ (by decide +kernel)) ggzX11_find_X11_toldMethod
set_option maxRecDepth 20000 in
theorem ggzX11_find_X7_seek : GoodIn wzX11_find wsX7_seek := goodIn_r _ [36, 37, 38, 39, 40, 41, 42, 43, 44, 28, 45, 46, 47, 48, 49, 50, 51, 52, 53, 54, 55, 56, 57, 58, 59, 60, 61, 35, 62, 63, 26, 27, 29, 30, 64, 65, 66, 67, 68, 69, 70, 71, 72, 73, 74, 75, 76, 77, 78, 79, 80, 81, 82, 83, 84, 85, 86, 9, 87, 88, 89, 90, 91, 92, 93, 94, 95, 96, 97, 98, 99, 100, 101, 102, 103, 104, 105, 106, 107, 108, 109, 110, 111, 112, 113, 114, 115, 116, 117, 118, 119, 120, 121, 122, 123, 124, 125, 126, 127, 170, 171, 172, 173, 174, 162, 163, 164, 165, 166, 167, 168, 169, 175, 176, 177, 178] (by decide +kernel) (by decide +kernel)
set_option maxRecDepth 20000 in
theorem gzX11_find_X7_seek : GoodIn wzX11_find (wsV RX11 249 RX7 yX7_seek wsX7_seek) := goodIn_app (goodIn_of _ (by decide +kernel)) ggzX11_find_X7_seek
set_option maxRecDepth 20000 in
theorem ggzX11_find_X5_clear : GoodIn wzX11_find wsX5_clear := goodIn_r _ [132, 133, 134, 135, 136, 137, 138, 56, 57, 58, 179, 180, 181, 182, 183, 184, 185, 186, 187, 188, 189, 190] (by decide +kernel) (by decide +kernel)
set_option maxRecDepth 20000 in
theorem gzX11_find_X5_clear : GoodIn wzX11_find (wsV RX11 85 RX5 yX5_clear wsX5_clear) := goodIn_app (goodIn_of _ (by decide +kernel)) ggzX11_find_X5_clear
set_option maxRecDepth 20000 in
theorem ggzX11_find_X7_callOf : GoodIn wzX11_find wsX7_callOf := goodIn_r _ [127, 41, 86, 9, 87, 170, 171, 172, 173, 174] (by decide +kernel) (by decide +kernel)
set_option maxRecDepth 20000 in
theorem gzX11_find_X7_callOf : GoodIn wzX11_find (wsV RX11 253 RX7 yX7_callOf wsX7_callOf) := goodIn_app (goodIn_of _ (by decide +kernel)) ggzX11_find_X7_callOf
set_option maxRecDepth 20000 in
theorem ggzX11_find_X5_add : GoodIn wzX11_find wsX5_add := goodIn_r _ [143, 134, 144, 145, 136, 146, 135, 147, 88, 9, 89, 148, 20, 21, 17, 22, 23, 24, 149, 26, 27, 28, 29, 30, 150, 111, 112, 113, 114, 46, 115, 116, 117, 118, 57, 119, 76, 77, 78, 179, 180, 181, 182, 183, 184, 185, 186, 187, 188, 189, 190, 160, 161, 162, 163, 164, 165, 166, 167, 168, 169] (by decide +kernel) (by decide +kernel)
set_option maxRecDepth 20000 in
theorem gzX11_find_X5_add : GoodIn wzX11_find (wsV RX11 139 RX5 yX5_add wsX5_add) := goodIn_app (goodIn_of _ (by decide +kernel)) ggzX11_find_X5_add
set_option maxRecDepth 20000 in
theorem ggzX11_toldMethod_X0_has : GoodIn wzX11_toldMethod wsX0_has := goodIn_r _ [8, 9, 10, 11, 7, 12, 13, 14, 15, 16, 17, 18, 19, 20, 31, 32, 33, 34, 35, 36, 37, 38, 39, 40] (by decide +kernel) (by decide +kernel)
set_option maxRecDepth 20000 in
theorem gzX11_toldMethod_X0_has : GoodIn wzX11_toldMethod (wsV RX11 258 RX0 yX0_has wsX0_has) := goodIn_app (goodIn_of _ (by decide +kernel)) ggzX11_toldMethod_X0_has
set_option maxRecDepth 20000 in
theorem ggzX11_toldMethod_X0_at : GoodIn wzX11_toldMethod wsX0_at := goodIn_r _ [12, 13, 14, 31, 32] (by decide +kernel) (by decide +kernel)
set_option maxRecDepth 20000 in
theorem gzX11_toldMethod_X0_at : GoodIn wzX11_toldMethod (wsV RX11 107 RX0 yX0_at wsX0_at) := goodIn_app (goodIn_of _ (by decide +kernel)) ggzX11_toldMethod_X0_at
set_option maxRecDepth 20000 in
theorem ggzL_lead_X11_lead : GoodIn wzL_lead wzX11_lead := goodIn_ca (goodIn_r _ [6, 7, 8, 9, 10, 11, 12, 5, 13, 14, 15, 16, 17, 18, 19, 20, 21, 22, 23, 24, 25, 26, 27, 28, 29, 30, 31, 32, 33, 34, 35, 36, 37, 38, 39, 40, 41, 42, 43, 44, 45, 46, 47, 48, 49, 50, 51, 52, 53, 54, 55, 56, 57, 58, 59, 60, 61, 62, 63, 64, 65, 66, 67, 68, 69, 70, 71, 72] (by decide +kernel) (by decide +kernel)) (goodIn_sub (fun _ h => List.mem_cons_of_mem _ (List.mem_append_right _ h)) (by decide +kernel))
set_option maxRecDepth 20000 in
theorem gzL_lead_X11_lead : GoodIn wzL_lead (wsV RL 15 RX11 yX11_lead wzX11_lead) := goodIn_app (goodIn_of _ (by decide +kernel)) ggzL_lead_X11_lead
set_option maxRecDepth 20000 in
theorem ggzL_head_X11_head : GoodIn wzL_head wzX11_head := goodIn_ca (goodIn_r _ [6, 7, 8, 9, 10, 11, 12, 5, 13, 14, 15, 16, 17, 18, 19, 20, 21, 22, 23, 24, 25, 26, 27, 28, 29, 30, 31, 32, 33, 34, 35, 36, 37, 38, 39, 40, 41, 42, 43, 44, 45, 46, 47, 48, 49, 50, 51, 52, 53, 54, 55, 56, 57, 58, 59, 60, 61, 62, 63, 64, 65, 66, 67, 68, 69, 70, 71, 72] (by decide +kernel) (by decide +kernel)) (goodIn_sub (fun _ h => List.mem_cons_of_mem _ (List.mem_append_right _ h)) (by decide +kernel))
set_option maxRecDepth 20000 in
theorem gzL_head_X11_head : GoodIn wzL_head (wsV RL 21 RX11 yX11_head wzX11_head) := goodIn_app (goodIn_of _ (by decide +kernel)) ggzL_head_X11_head
set_option maxRecDepth 20000 in
theorem ggzL_course_X11_course : GoodIn wzL_course wzX11_course := goodIn_ca (goodIn_r _ [6, 7, 8, 9, 5, 10, 11, 12, 13, 14, 15, 16, 17, 18, 19, 20, 21, 22, 23, 24, 25, 26, 27, 28, 29, 30, 31, 32, 33, 34, 35, 36, 37, 38, 39, 40, 41, 42, 43, 44, 45, 46, 47, 48, 49, 50, 51, 52, 53, 54, 55, 56, 57, 58, 59, 60, 61, 62, 63, 64, 65, 66, 67, 68, 69, 70] (by decide +kernel) (by decide +kernel)) (goodIn_sub (fun _ h => List.mem_cons_of_mem _ (List.mem_append_right _ h)) (by decide +kernel))
set_option maxRecDepth 20000 in
theorem gzL_course_X11_course : GoodIn wzL_course (wsV RL 24 RX11 yX11_course wzX11_course) := goodIn_app (goodIn_of _ (by decide +kernel)) ggzL_course_X11_course
set_option maxRecDepth 20000 in
theorem ggzL_line_X11_line : GoodIn wzL_line wzX11_line := goodIn_ca (goodIn_r _ [6, 7, 8, 9, 10, 11, 12, 5, 13, 14, 15, 16, 17, 18, 19, 20, 21, 22, 23, 24, 25, 26, 27, 28, 29, 30, 31, 32, 33, 34, 35, 36, 37, 38, 39, 40, 41, 42, 43, 44, 45, 46, 47, 48, 49, 50, 51, 52, 53, 54, 55, 56, 57, 58, 59, 60, 61, 62, 63, 64, 65, 66, 67, 68, 69, 70, 71, 72, 73, 74, 75, 76, 77, 78, 79, 80, 81, 82, 83, 84, 85, 86, 87, 88, 89, 90, 91, 92, 93, 94, 95, 96] (by decide +kernel) (by decide +kernel)) (goodIn_sub (fun _ h => List.mem_cons_of_mem _ (List.mem_append_right _ h)) (by decide +kernel))
set_option maxRecDepth 20000 in
theorem gzL_line_X11_line : GoodIn wzL_line (wsV RL 27 RX11 yX11_line wzX11_line) := goodIn_app (goodIn_of _ (by decide +kernel)) ggzL_line_X11_line
set_option maxRecDepth 20000 in
theorem ggzL_falseHeads_X11_falseHeads : GoodIn wzL_falseHeads wzX11_falseHeads := goodIn_ca (goodIn_r _ [6, 7, 8, 9, 5, 10, 11, 12, 13, 14, 15, 16, 17, 18, 19, 20, 21, 22, 23, 24, 25, 26, 27, 28, 29, 30, 31, 32, 33, 34, 35, 36, 37, 38, 39, 40, 41, 42, 43, 44, 45, 46, 47, 48, 49, 50, 51, 52, 53, 54, 55, 56, 57, 58, 59, 60, 61, 62, 63, 64, 65, 66, 67, 68, 69, 70, 71, 72, 73, 74, 75, 76, 77, 78, 79, 80, 81, 82, 83, 84, 85, 86, 87, 88, 89, 90, 91, 92, 93, 94, 95, 96, 97, 98, 99, 100, 101, 102, 103, 104, 105, 106, 107, 108, 109, 110] (by decide +kernel) (by decide +kernel)) (goodIn_sub (fun _ h => List.mem_cons_of_mem _ (List.mem_append_right _ h)) (by decide +kernel))
set_option maxRecDepth 20000 in
theorem gzL_falseHeads_X11_falseHeads : GoodIn wzL_falseHeads (wsV RL 31 RX11 yX11_falseHeads wzX11_falseHeads) := goodIn_app (goodIn_of _ (by decide +kernel)) ggzL_falseHeads_X11_falseHeads
set_option maxRecDepth 20000 in
theorem ggzL_falseHead_X11_falseHead : GoodIn wzL_falseHead wzX11_falseHead := goodIn_ca (goodIn_r _ [6, 7, 8, 9, 10, 11, 5, 12, 13, 14, 15, 16, 17, 18, 19, 20, 21, 22, 23, 24, 25, 26, 27, 28, 29, 30, 31, 32, 33, 34, 35, 36, 37, 38, 39, 40, 41, 42, 43, 44, 45, 46, 47, 48, 49, 50, 51, 52, 53, 54, 55, 56, 57, 58, 59, 60, 61, 62, 63, 64, 65, 66, 67, 68, 69, 70, 71, 72, 73, 74, 75, 76, 77, 78, 79, 80, 81, 82, 83, 84, 85, 86, 87, 88, 89, 90, 91, 92, 93, 94, 95, 96, 97, 98, 99, 100, 101, 102, 103, 104, 105, 106, 107, 108, 109, 110, 111, 112, 113, 114, 115, 116, 117, 118, 119, 120, 121, 122, 123, 124, 125, 126, 127] (by decide +kernel) (by decide +kernel)) (goodIn_sub (fun _ h => List.mem_cons_of_mem _ (List.mem_append_right _ h)) (by decide +kernel))
set_option maxRecDepth 20000 in
theorem gzL_falseHead_X11_falseHead : GoodIn wzL_falseHead (wsV RL 34 RX11 yX11_falseHead wzX11_falseHead) := goodIn_app (goodIn_of _ (by decide +kernel)) ggzL_falseHead_X11_falseHead
set_option maxRecDepth 20000 in
theorem ggzL_called_X11_called : GoodIn wzL_called wzX11_called := goodIn_ca (goodIn_r _ [6, 7, 8, 9, 10, 11, 12, 13, 14, 15, 16, 17, 18, 19, 20, 21, 22, 5, 23, 24, 25, 26, 27, 28, 29, 30, 31, 32, 33, 34, 35, 36, 37, 38, 39, 40, 41, 42, 43, 44, 45, 46, 47, 48, 49, 50, 51, 52, 53, 54, 55, 56, 57, 58, 59, 60, 61, 62, 63, 64, 65] (by decide +kernel) (by decide +kernel)) (goodIn_sub (fun _ h => List.mem_cons_of_mem _ (List.mem_append_right _ h)) (by decide +kernel))
set_option maxRecDepth 20000 in
theorem gzL_called_X11_called : GoodIn wzL_called (wsV RL 37 RX11 yX11_called wzX11_called) := goodIn_app (goodIn_of _ (by decide +kernel)) ggzL_called_X11_called
set_option maxRecDepth 20000 in
theorem ggzL_row_X11_row : GoodIn wzL_row wzX11_row := goodIn_ca (goodIn_r _ [6, 7, 8, 9, 10, 11, 12, 13, 14, 15, 16, 17, 18, 19, 20, 21, 22, 23, 24, 25, 26, 27, 28, 29, 5, 30, 31, 32, 33, 34, 35, 36, 37, 38, 39, 40, 41, 42, 43, 44, 45, 46, 47, 48, 49, 50, 51, 52, 53, 54, 55, 56, 57, 58, 59, 60, 61, 62, 63, 64, 65, 66, 67, 68, 69, 70, 71, 72, 73, 74, 75, 76, 77, 78, 79, 80, 81, 82, 83, 84, 85, 86, 87, 88, 89, 90, 91, 92, 93, 94, 95] (by decide +kernel) (by decide +kernel)) (goodIn_sub (fun _ h => List.mem_cons_of_mem _ (List.mem_append_right _ h)) (by decide +kernel))
set_option maxRecDepth 20000 in
theorem gzL_row_X11_row : GoodIn wzL_row (wsV RL 40 RX11 yX11_row wzX11_row) := goodIn_app (goodIn_of _ (by decide +kernel)) ggzL_row_X11_row
set_option maxRecDepth 20000 in
theorem ggzL_find_X11_find : GoodIn wzL_find wzX11_find := goodIn_ca (goodIn_ca (goodIn_r _ [7, 8, 9, 10, 11, 12, 13, 14, 15, 6, 16, 17, 18, 19, 20, 21, 22, 23, 24, 25, 26, 27, 28, 29, 30, 31, 32, 33, 34, 35, 36, 37, 38, 39, 40, 41, 42, 43, 44, 45, 46, 47, 48, 49, 50, 51, 52, 53, 54, 55, 56, 57, 58, 59, 60, 61, 62, 63, 64, 65, 66, 67, 68, 69, 70, 71, 72, 73, 74, 75, 76, 77, 78, 79, 80, 81, 82, 83, 84, 85, 86, 87, 88, 89, 90, 91, 92, 93, 94, 95, 96, 97, 98, 99, 100, 101, 102, 103, 104, 105, 106, 107, 108, 109, 110, 111, 112, 113, 114, 115, 116, 117, 118, 119, 120, 121, 122, 123, 124, 125, 126, 127, 128, 129, 130, 131, 132, 133, 134, 135, 136, 137, 138, 139, 140, 141, 142, 143, 144, 145, 146, 147, 148, 149, 150, 151, 152, 153, 154, 155, 156, 157, 158, 159, 160, 161, 162, 163, 164, 165, 166, 167, 168, 169, 170, 171, 172, 173, 174, 175, 176, 177, 178, 179, 180, 181, 182, 183, 184, 185, 186, 187, 188, 189, 190, 191, 192, 193, 194, 195, 196] (by decide +kernel) (by decide +kernel)) (goodIn_sub (fun _ h => List.mem_cons_of_mem _ (List.mem_append_left _ (List.mem_append_right _ h))) (by decide +kernel))) (goodIn_sub (fun _ h => List.mem_cons_of_mem _ (List.mem_append_right _ h)) (by decide +kernel))
set_option maxRecDepth 20000 in
theorem gzL_find_X11_find : GoodIn wzL_find (wsV RL 43 RX11 yX11_find wzX11_find) := goodIn_app (goodIn_of _ (by decide +kernel)) ggzL_find_X11_find
