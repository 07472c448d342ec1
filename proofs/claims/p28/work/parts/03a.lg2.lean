set_option maxRecDepth 20000 in
theorem ggL_holds_X4_count : GoodIn wsL_holds wsX4_count := goodIn_r _ [5, 6, 7, 8, 9, 10, 11, 12, 13, 14, 15, 16, 17, 18, 19, 20, 21, 22, 23, 24, 4, 25, 26, 27, 28, 29, 30, 31, 32, 33, 34, 35, 36, 37, 38, 39, 40, 41, 42, 43, 44, 45, 46, 47, 48, 49, 50, 51, 52, 53, 54, 55, 56, 57, 58, 59, 60, 61, 62, 63, 64, 65, 66, 67, 68, 69, 70, 71, 72, 73, 74, 75, 76, 77, 78, 79, 80, 81, 82, 83, 84, 85, 86, 87, 88, 89, 90, 91, 92, 93, 94, 95, 96, 97, 98, 99, 100, 101, 102, 103, 104, 105, 106, 107, 108, 109, 110, 111, 112, 113, 209, 210, 211, 212, 213, 214, 215, 216, 217, 218, 219, 220, 221, 222, 223, 224, 225, 226, 227, 228, 229, 230, 231, 232] (by decide +kernel) (by decide +kernel)
set_option maxRecDepth 20000 in
theorem gL_holds_X4_count : GoodIn wsL_holds (wsV RL 9 RX4 yX4_count wsX4_count) := goodIn_app (goodIn_of _ (by decide +kernel)) ggL_holds_X4_count
set_option maxRecDepth 20000 in
theorem ggL_holds_X4_rule : GoodIn wsL_holds wsX4_rule := goodIn_r _ [117, 6, 7, 118, 119, 120, 121, 122, 123, 124, 86, 87, 18, 88, 20, 26, 27, 28, 29, 30, 31, 32, 33, 21, 34, 35, 36, 37, 38, 39, 40, 41, 42, 43, 44, 45, 46, 47, 48, 49, 50, 51, 52, 53, 54, 55, 56, 57, 58, 4, 59, 60, 61, 62, 63, 64, 65, 66, 67, 68, 69, 70, 71, 72, 73, 74, 75, 76, 77, 78, 79, 80, 81, 82, 83, 84, 85, 89, 90, 91, 92, 93, 125, 99, 100, 101, 102, 103, 104, 105, 126, 209, 210, 211, 212, 213, 214, 215, 216, 217, 218, 219, 220, 221, 222, 223] (by decide +kernel) (by decide +kernel)
set_option maxRecDepth 20000 in
theorem gL_holds_X4_rule : GoodIn wsL_holds (wsV RL 25 RX4 yX4_rule wsX4_rule) := goodIn_app (goodIn_of _ (by decide +kernel)) ggL_holds_X4_rule
set_option maxRecDepth 20000 in
theorem ggL_holds_X4_allowed : GoodIn wsL_holds wsX4_allowed := goodIn_r _ [130, 6, 7, 131, 132, 4, 133, 134, 112, 113, 135, 136, 137, 138, 139, 140, 141, 142, 143, 144, 145, 146, 18, 147, 148, 92, 75, 93, 30, 31, 32, 33, 20, 21, 34, 149, 150, 151, 152, 55, 46, 153, 154, 155, 156, 47, 48, 49, 50, 51, 52, 53, 54, 209, 210, 211, 212, 213, 214, 215, 216, 217, 218, 219, 220, 221, 222, 223] (by decide +kernel) (by decide +kernel)
set_option maxRecDepth 20000 in
theorem gL_holds_X4_allowed : GoodIn wsL_holds (wsV RL 72 RX4 yX4_allowed wsX4_allowed) := goodIn_app (goodIn_of _ (by decide +kernel)) ggL_holds_X4_allowed
set_option maxRecDepth 20000 in
theorem ggL_holds_X4_leastRank : GoodIn wsL_holds wsX4_leastRank := goodIn_r _ [160, 6, 7, 131, 132, 4, 133, 134, 112, 113, 135, 136, 137, 141, 142, 143, 161, 162, 163, 18, 164, 30, 31, 32, 33, 20, 21, 34, 42, 43, 44, 45, 46, 47, 48, 49, 50, 51, 52, 53, 54, 55, 209, 210, 211, 212, 213, 214, 215, 216, 217, 218, 219, 220, 221, 222, 223] (by decide +kernel) (by decide +kernel)
set_option maxRecDepth 20000 in
theorem gL_holds_X4_leastRank : GoodIn wsL_holds (wsV RL 76 RX4 yX4_leastRank wsX4_leastRank) := goodIn_app (goodIn_of _ (by decide +kernel)) ggL_holds_X4_leastRank
set_option maxRecDepth 20000 in
theorem ggL_holds_L_low : GoodIn wsL_holds wsL_low := goodIn_r _ [168, 169] (by decide +kernel) (by decide +kernel)
set_option maxRecDepth 20000 in
theorem gL_holds_L_low : GoodIn wsL_holds (va_wsS RL 15 yL_low wsL_low) := goodIn_app (goodIn_of _ (by decide +kernel)) ggL_holds_L_low
set_option maxRecDepth 20000 in
theorem ggL_holds_X4_why : GoodIn wsL_holds wsX4_why := goodIn_r _ [173, 6, 7, 131, 132, 4, 133, 134, 112, 113, 135, 136, 137, 138, 139, 140, 141, 142, 143, 153, 154, 155, 18, 156, 20, 21, 46, 55, 30, 31, 32, 33, 34, 47, 48, 49, 50, 51, 52, 53, 54, 209, 210, 211, 212, 213, 214, 215, 216, 217, 218, 219, 220, 221, 222, 223] (by decide +kernel) (by decide +kernel)
set_option maxRecDepth 20000 in
theorem gL_holds_X4_why : GoodIn wsL_holds (wsV RL 60 RX4 yX4_why wsX4_why) := goodIn_app (goodIn_of _ (by decide +kernel)) ggL_holds_X4_why
set_option maxRecDepth 20000 in
theorem ggL_holds_L_why : GoodIn wsL_holds wsL_why := goodIn_r _ [176, 177, 1, 2, 3, 4, 5, 6, 7, 8, 9, 10, 11, 12, 13, 14, 15, 16, 17, 18, 19, 20, 21, 22, 23, 24, 25, 26, 27, 28, 29, 30, 31, 32, 33, 34, 35, 36, 37, 38, 39, 40, 41, 42, 43, 44, 45, 46, 47, 48, 49, 50, 51, 52, 53, 54, 55, 56, 57, 58, 59, 60, 61, 62, 63, 64, 65, 66, 67, 68, 69, 70, 71, 72, 73, 74, 75, 76, 77, 78, 79, 80, 81, 82, 83, 84, 85, 86, 87, 88, 89, 90, 91, 92, 93, 94, 95, 96, 97, 98, 99, 100, 101, 102, 103, 104, 105, 106, 107, 108, 109, 110, 111, 112, 113, 178, 179, 167, 180, 114, 115, 116, 117, 118, 119, 120, 121, 122, 123, 124, 125, 126, 181, 182, 183, 209, 210, 211, 212, 213, 214, 215, 216, 217, 218, 219, 220, 221, 222, 223, 224, 225, 226, 227, 228, 229, 230, 231, 232] (by decide +kernel) (by decide +kernel)
set_option maxRecDepth 20000 in
theorem gL_holds_L_why : GoodIn wsL_holds (va_wsS RL 79 yL_why wsL_why) := goodIn_app (goodIn_of _ (by decide +kernel)) ggL_holds_L_why
set_option maxRecDepth 20000 in
theorem ggL_holds_X4_ifStruck : GoodIn wsL_holds wsX4_ifStruck := goodIn_r _ [187, 6, 7, 124, 86, 87, 18, 88, 20, 60, 61, 62, 4, 63, 64, 65, 66, 67, 68, 55, 21, 69, 70, 46, 34, 71, 72, 73, 74, 75, 76, 77, 78, 79, 80, 81, 82, 83, 84, 85, 89, 90, 91, 92, 93, 26, 27, 28, 29, 30, 31, 32, 33, 35, 36, 37, 38, 39, 40, 41, 42, 43, 44, 45, 47, 48, 49, 50, 51, 52, 53, 54, 209, 210, 211, 212, 213, 214, 215, 216, 217, 218, 219, 220, 221, 222, 223] (by decide +kernel) (by decide +kernel)
set_option maxRecDepth 20000 in
theorem gL_holds_X4_ifStruck : GoodIn wsL_holds (wsV RL 82 RX4 yX4_ifStruck wsX4_ifStruck) := goodIn_app (goodIn_of _ (by decide +kernel)) ggL_holds_X4_ifStruck
set_option maxRecDepth 20000 in
theorem ggL_holds_X4_member : GoodIn wsL_holds wsX4_member := goodIn_r _ [191, 6, 9, 192, 193, 194, 195, 196, 197, 198, 109, 199, 200, 201, 202, 203, 4, 204, 7, 205, 206, 207, 18, 208, 30, 31, 32, 33, 20, 21, 34, 42, 43, 44, 45, 46, 47, 48, 49, 50, 51, 52, 53, 54, 55, 209, 210, 211, 212, 213, 214, 215, 216, 224, 225, 226, 227, 228, 229, 230, 217, 218, 219, 220, 221, 222, 223] (by decide +kernel) (by decide +kernel)
set_option maxRecDepth 20000 in
theorem gL_holds_X4_member : GoodIn wsL_holds (wsV RL 44 RX4 yX4_member wsX4_member) := goodIn_app (goodIn_of _ (by decide +kernel)) ggL_holds_X4_member
set_option maxRecDepth 20000 in
theorem ggL_tries_X4_count : GoodIn wsL_tries wsX4_count := goodIn_r _ [5, 6, 7, 8, 9, 10, 11, 12, 13, 14, 15, 16, 17, 18, 19, 20, 21, 22, 23, 24, 4, 25, 26, 27, 28, 29, 30, 31, 32, 33, 34, 35, 36, 37, 38, 39, 40, 41, 42, 43, 44, 45, 46, 47, 48, 49, 50, 51, 52, 53, 54, 55, 56, 57, 58, 59, 60, 61, 62, 63, 64, 65, 66, 67, 68, 69, 70, 71, 72, 73, 74, 75, 76, 77, 78, 79, 80, 81, 82, 83, 84, 85, 86, 87, 88, 89, 90, 91, 92, 93, 94, 95, 96, 97, 98, 99, 100, 101, 102, 103, 104, 105, 106, 107, 108, 109, 110, 111, 112, 113, 222, 223, 224, 225, 226, 227, 228, 229, 230, 231, 232, 233, 234, 235, 236, 237, 238, 239, 240, 241, 242, 243, 244, 245] (by decide +kernel) (by decide +kernel)
set_option maxRecDepth 20000 in
theorem gL_tries_X4_count : GoodIn wsL_tries (wsV RL 9 RX4 yX4_count wsX4_count) := goodIn_app (goodIn_of _ (by decide +kernel)) ggL_tries_X4_count
set_option maxRecDepth 20000 in
theorem ggL_tries_L_low : GoodIn wsL_tries wsL_low := goodIn_r _ [117, 118] (by decide +kernel) (by decide +kernel)
set_option maxRecDepth 20000 in
theorem gL_tries_L_low : GoodIn wsL_tries (va_wsS RL 15 yL_low wsL_low) := goodIn_app (goodIn_of _ (by decide +kernel)) ggL_tries_L_low
set_option maxRecDepth 20000 in
theorem ggL_tries_X4_ifStruck : GoodIn wsL_tries wsX4_ifStruck := goodIn_r _ [122, 6, 7, 123, 86, 87, 18, 88, 20, 60, 61, 62, 4, 63, 64, 65, 66, 67, 68, 55, 21, 69, 70, 46, 34, 71, 72, 73, 74, 75, 76, 77, 78, 79, 80, 81, 82, 83, 84, 85, 89, 90, 91, 92, 93, 26, 27, 28, 29, 30, 31, 32, 33, 35, 36, 37, 38, 39, 40, 41, 42, 43, 44, 45, 47, 48, 49, 50, 51, 52, 53, 54, 222, 223, 224, 225, 226, 227, 228, 229, 230, 231, 232, 233, 234, 235, 236] (by decide +kernel) (by decide +kernel)
set_option maxRecDepth 20000 in
theorem gL_tries_X4_ifStruck : GoodIn wsL_tries (wsV RL 82 RX4 yX4_ifStruck wsX4_ifStruck) := goodIn_app (goodIn_of _ (by decide +kernel)) ggL_tries_X4_ifStruck
set_option maxRecDepth 20000 in
theorem ggL_tries_X4_rule : GoodIn wsL_tries wsX4_rule := goodIn_r _ [127, 6, 7, 128, 129, 130, 131, 132, 133, 123, 86, 87, 18, 88, 20, 26, 27, 28, 29, 30, 31, 32, 33, 21, 34, 35, 36, 37, 38, 39, 40, 41, 42, 43, 44, 45, 46, 47, 48, 49, 50, 51, 52, 53, 54, 55, 56, 57, 58, 4, 59, 60, 61, 62, 63, 64, 65, 66, 67, 68, 69, 70, 71, 72, 73, 74, 75, 76, 77, 78, 79, 80, 81, 82, 83, 84, 85, 89, 90, 91, 92, 93, 134, 99, 100, 101, 102, 103, 104, 105, 135, 222, 223, 224, 225, 226, 227, 228, 229, 230, 231, 232, 233, 234, 235, 236] (by decide +kernel) (by decide +kernel)
set_option maxRecDepth 20000 in
theorem gL_tries_X4_rule : GoodIn wsL_tries (wsV RL 25 RX4 yX4_rule wsX4_rule) := goodIn_app (goodIn_of _ (by decide +kernel)) ggL_tries_X4_rule
set_option maxRecDepth 20000 in
theorem ggL_tries_X4_strike : GoodIn wsL_tries wsX4_strike := goodIn_r _ [139, 6, 7, 8, 123, 86, 87, 18, 88, 20, 140, 141, 142, 4, 143, 14, 144, 145, 146, 147, 148, 149, 150, 151, 152, 153, 154, 155, 156, 157, 158, 159, 160, 161, 162, 163, 164, 165, 109, 166, 167, 168, 169, 170, 55, 21, 69, 70, 46, 34, 171, 172, 173, 174, 175, 176, 177, 111, 178, 179, 180, 181, 182, 183, 184, 66, 67, 68, 71, 72, 73, 74, 75, 76, 77, 78, 79, 80, 185, 186, 187, 188, 81, 82, 83, 84, 85, 89, 90, 91, 92, 93, 222, 223, 224, 225, 226, 227, 228, 229, 230, 231, 232, 233, 234, 235, 236, 237, 238, 239, 240, 241, 242, 243] (by decide +kernel) (by decide +kernel)
set_option maxRecDepth 20000 in
theorem gL_tries_X4_strike : GoodIn wsL_tries (wsV RL 28 RX4 yX4_strike wsX4_strike) := goodIn_app (goodIn_of _ (by decide +kernel)) ggL_tries_X4_strike
set_option maxRecDepth 20000 in
theorem ggL_tries_X4_undo : GoodIn wsL_tries wsX4_undo := goodIn_r _ [192, 14, 144, 6, 193, 112, 4, 113, 180, 181, 182, 155, 183, 163, 166, 184, 66, 67, 18, 68, 55, 21, 69, 70, 46, 34, 20, 71, 72, 73, 74, 75, 76, 77, 78, 79, 80, 185, 186, 187, 109, 188, 174, 175, 176, 177, 111, 178, 179, 222, 223, 224, 225, 226, 227, 228, 229, 230, 231, 232, 233, 234, 235, 236, 237, 238, 239, 240, 241, 242, 243] (by decide +kernel) (by decide +kernel)
set_option maxRecDepth 20000 in
theorem gL_tries_X4_undo : GoodIn wsL_tries (wsV RL 85 RX4 yX4_undo wsX4_undo) := goodIn_app (goodIn_of _ (by decide +kernel)) ggL_tries_X4_undo
set_option maxRecDepth 20000 in
theorem ggL_tries_X4_worstBan : GoodIn wsL_tries wsX4_worstBan := goodIn_r _ [197, 6, 7, 8, 129, 60, 61, 62, 4, 63, 64, 65, 66, 67, 18, 68, 55, 21, 69, 70, 46, 34, 20, 71, 72, 73, 74, 75, 76, 77, 78, 79, 80, 81, 82, 83, 84, 85, 86, 87, 88, 89, 90, 91, 92, 93, 26, 27, 28, 29, 30, 31, 32, 33, 35, 36, 37, 38, 39, 40, 41, 42, 43, 44, 45, 47, 48, 49, 50, 51, 52, 53, 54, 222, 223, 224, 225, 226, 227, 228, 229, 230, 231, 232, 233, 234, 235, 236] (by decide +kernel) (by decide +kernel)
set_option maxRecDepth 20000 in
theorem gL_tries_X4_worstBan : GoodIn wsL_tries (wsV RL 88 RX4 yX4_worstBan wsX4_worstBan) := goodIn_app (goodIn_of _ (by decide +kernel)) ggL_tries_X4_worstBan
set_option maxRecDepth 20000 in
theorem ggL_tries_X4_bestWaiver : GoodIn wsL_tries wsX4_bestWaiver := goodIn_r _ [201, 202, 203, 4, 204, 193, 112, 113, 205, 206, 207, 208, 64, 6, 7, 65, 66, 67, 18, 68, 55, 21, 69, 70, 46, 34, 20, 71, 72, 73, 74, 75, 76, 77, 78, 79, 80, 209, 210, 211, 212, 213, 214, 26, 27, 28, 29, 30, 31, 32, 33, 35, 36, 37, 38, 39, 40, 41, 42, 43, 44, 45, 47, 48, 49, 50, 51, 52, 53, 54, 222, 223, 224, 225, 226, 227, 228, 229, 230, 231, 232, 233, 234, 235, 236] (by decide +kernel) (by decide +kernel)
set_option maxRecDepth 20000 in
theorem gL_tries_X4_bestWaiver : GoodIn wsL_tries (wsV RL 91 RX4 yX4_bestWaiver wsX4_bestWaiver) := goodIn_app (goodIn_of _ (by decide +kernel)) ggL_tries_X4_bestWaiver
set_option maxRecDepth 20000 in
theorem ggL_tries_X4_add : GoodIn wsL_tries wsX4_add := goodIn_r _ [218, 6, 7, 8, 219, 220, 4, 221, 193, 112, 113, 202, 203, 204, 140, 141, 142, 143, 14, 144, 145, 146, 147, 148, 149, 150, 151, 152, 153, 154, 155, 156, 157, 158, 159, 160, 161, 162, 18, 163, 164, 165, 109, 166, 167, 168, 169, 170, 55, 21, 69, 70, 46, 34, 20, 171, 172, 173, 174, 175, 176, 177, 111, 178, 179, 180, 181, 182, 183, 184, 66, 67, 68, 71, 72, 73, 74, 75, 76, 77, 78, 79, 80, 185, 186, 187, 188, 209, 210, 211, 212, 213, 214, 222, 223, 224, 225, 226, 227, 228, 229, 230, 231, 232, 233, 234, 235, 236, 237, 238, 239, 240, 241, 242, 243] (by decide +kernel) (by decide +kernel)
set_option maxRecDepth 20000 in
theorem gL_tries_X4_add : GoodIn wsL_tries (wsV RL 21 RX4 yX4_add wsX4_add) := goodIn_app (goodIn_of _ (by decide +kernel)) ggL_tries_X4_add
