/-! the words that every method may take; nest words; text constants; the cells as the constructors lay them -/
def mm_ws : List Cond := lw_tbl.filter goodWord
def mm_nest : List Cond := [.fieldLinkNest "LastServed$Laws" 130 "LastServed$Crowd" "size" "I" "LastServed", .fieldLinkNest "LastServed" 72 "LastServed$Text" "length" "I" "LastServed", .fieldLinkNest "LastServed$Town" 107 "LastServed$Text" "at" "I" "LastServed", .fieldLinkNest "LastServed$Town" 110 "LastServed$Text" "start" "I" "LastServed", .fieldLinkNest "LastServed$Laws" 78 "LastServed$Text" "kind" "I" "LastServed", .fieldLinkNest "LastServed$Town" 104 "LastServed$Text" "kind" "I" "LastServed", .fieldLinkNest "LastServed$Laws" 92 "LastServed$Text" "number" "I" "LastServed", .fieldLinkNest "LastServed$Laws" 48 "LastServed$Text" "fault" "I" "LastServed", .fieldLinkNest "LastServed$Town" 56 "LastServed$Text" "fault" "I" "LastServed", .fieldLinkNest "LastServed" 97 "LastServed$Town" "counters" "I" "LastServed", .fieldLinkNest "LastServed$Shop" 217 "LastServed$Town" "sorts" "I" "LastServed", .fieldLinkNest "LastServed" 275 "LastServed$Town" "sorts" "I" "LastServed", .fieldLinkNest "LastServed" 103 "LastServed$Laws" "lines" "I" "LastServed", .fieldLinkNest "LastServed$Shop" 55 "LastServed$Book" "size" "I" "LastServed", .fieldLinkNest "LastServed" 227 "LastServed$Book" "size" "I" "LastServed", .fieldLinkNest "LastServed$Shop" 64 "LastServed$Person" "state" "I" "LastServed", .fieldLinkNest "LastServed" 160 "LastServed$Person" "state" "I" "LastServed", .fieldLinkNest "LastServed$Shop" 140 "LastServed$Person" "sort" "I" "LastServed", .fieldLinkNest "LastServed$Shop" 101 "LastServed$Person" "counter" "I" "LastServed", .fieldLinkNest "LastServed$Shop" 188 "LastServed$Person" "cameFirst" "I" "LastServed", .fieldLinkNest "LastServed$Shop" 146 "LastServed$Person" "cameLast" "I" "LastServed", .fieldLinkNest "LastServed$Shop" 161 "LastServed$Person" "turns" "I" "LastServed", .fieldLinkNest "LastServed$Shop" 149 "LastServed$Person" "bowsTill" "I" "LastServed", .fieldLinkNest "LastServed" 119 "LastServed$Desk" "size" "I" "LastServed", .fieldLinkNest "LastServed$Shop" 172 "LastServed$Desk" "size" "I" "LastServed", .fieldLinkNest "LastServed" 114 "LastServed$Desk" "stock" "I" "LastServed", .fieldLinkNest "LastServed$Shop" 238 "LastServed$Desk" "stock" "I" "LastServed", .fieldLinkNest "LastServed" 122 "LastServed$Desk" "busyTill" "I" "LastServed", .fieldLinkNest "LastServed$Shop" 235 "LastServed$Desk" "busyTill" "I" "LastServed", .fieldLinkNest "LastServed" 223 "LastServed$Shop" "book" "LLastServed$Book;" "LastServed", .fieldLinkNest "LastServed" 145 "LastServed$Shop" "minute" "I" "LastServed", .fieldLinkNest "LastServed" 139 "LastServed$Shop" "x" "I" "LastServed", .fieldLinkNest "LastServed" 198 "LastServed$Row" "size" "I" "LastServed", .methodLinkNest "LastServed" 9 ⟨"LastServed$Crowd", "<init>", "()V"⟩ "LastServed", .methodLinkNest "LastServed" 12 ⟨"LastServed$Text", "<init>", "()V"⟩ "LastServed", .methodLinkNest "LastServed" 21 ⟨"LastServed$Town", "<init>", "()V"⟩ "LastServed", .methodLinkNest "LastServed" 31 ⟨"LastServed$Laws", "<init>", "()V"⟩ "LastServed", .methodLinkNest "LastServed$Shop" 29 ⟨"LastServed$Book", "<init>", "()V"⟩ "LastServed", .methodLinkNest "LastServed$Shop" 46 ⟨"LastServed$Person", "<init>", "()V"⟩ "LastServed", .methodLinkNest "LastServed$Shop" 47 ⟨"LastServed$Desk", "<init>", "()V"⟩ "LastServed", .methodLinkNest "LastServed" 67 ⟨"LastServed$Ones", "<init>", "()V"⟩ "LastServed", .methodLinkNest "LastServed$Shop" 119 ⟨"LastServed", "unlike", "(JJJ)I"⟩ "LastServed", .methodLinkNest "LastServed$Shop" 173 ⟨"LastServed", "placeBy", "(II)I"⟩ "LastServed", .methodLinkNest "LastServed$Laws" 133 ⟨"LastServed", "placeBy", "(II)I"⟩ "LastServed", .methodLinkNest "LastServed$Row" 87 ⟨"LastServed", "placeBy", "(II)I"⟩ "LastServed", .methodLinkNest "LastServed$Row" 52 ⟨"LastServed", "unlike", "(JJJ)I"⟩ "LastServed", .methodLinkNest "LastServed$Book" 34 ⟨"LastServed", "placeBy", "(II)I"⟩ "LastServed", .methodLinkNest "LastServed$Ones" 110 ⟨"LastServed", "placeBy", "(II)I"⟩ "LastServed"]
def mm_sL : List (String × Nat × String × List Nat) := [("LastServed$Town", 59, "counter", [99, 111, 117, 110, 116, 101, 114]), ("LastServed$Town", 68, "sort", [115, 111, 114, 116]), ("LastServed$Town", 73, "close", [99, 108, 111, 115, 101]), ("LastServed$Town", 79, "fee", [102, 101, 101]), ("LastServed$Town", 81, "bow", [98, 111, 119]), ("LastServed$Laws", 51, "law", [108, 97, 119]), ("LastServed$Laws", 60, "most", [109, 111, 115, 116]), ("LastServed$Laws", 62, "least", [108, 101, 97, 115, 116]), ("LastServed$Laws", 98, "came", [99, 97, 109, 101]), ("LastServed$Laws", 102, "wait", [119, 97, 105, 116]), ("LastServed$Laws", 104, "sort", [115, 111, 114, 116]), ("LastServed$Laws", 106, "worth", [119, 111, 114, 116, 104]), ("LastServed$Laws", 108, "ahead", [97, 104, 101, 97, 100]), ("LastServed$Laws", 110, "behind", [98, 101, 104, 105, 110, 100]), ("LastServed$Laws", 112, "many", [109, 97, 110, 121]), ("LastServed$Laws", 114, "minute", [109, 105, 110, 117, 116, 101]), ("LastServed$Laws", 116, "left", [108, 101, 102, 116]), ("LastServed$Laws", 118, "turns", [116, 117, 114, 110, 115]), ("LastServedModel", 192, "counter", [99, 111, 117, 110, 116, 101, 114]), ("LastServedModel", 198, "sort", [115, 111, 114, 116]), ("LastServedModel", 200, "close", [99, 108, 111, 115, 101]), ("LastServedModel", 202, "fee", [102, 101, 101]), ("LastServedModel", 204, "bow", [98, 111, 119]), ("LastServedModel", 264, "law", [108, 97, 119]), ("LastServedModel", 269, "least", [108, 101, 97, 115, 116]), ("LastServedModel", 271, "most", [109, 111, 115, 116]), ("LastServedModel", 235, "came", [99, 97, 109, 101]), ("LastServedModel", 237, "wait", [119, 97, 105, 116]), ("LastServedModel", 239, "worth", [119, 111, 114, 116, 104]), ("LastServedModel", 240, "ahead", [97, 104, 101, 97, 100]), ("LastServedModel", 242, "behind", [98, 101, 104, 105, 110, 100]), ("LastServedModel", 244, "many", [109, 97, 110, 121]), ("LastServedModel", 245, "minute", [109, 105, 110, 117, 116, 101]), ("LastServedModel", 247, "left", [108, 101, 102, 116]), ("LastServedModel", 249, "turns", [116, 117, 114, 110, 115])]
def mm_nS : Nat := 35
def mm_N : Nat := 247
def mm_kdL : List Nat := [20, 11, 0, 0, 0, 0, 0, 18, 0, 19, 0, 0, 0, 0, 19, 0, 0, 0, 0, 13, 0, 0, 2, 0, 13, 0, 0, 2, 0, 17, 5, 6, 0, 10, 0, 15, 15, 15, 15, 15, 15, 15, 15, 15, 15, 15, 15, 15, 15, 15, 15, 15, 15, 15, 15, 15, 15, 15, 15, 15, 15, 15, 15, 15, 15, 12, 0, 12, 0, 12, 0, 4, 17, 5, 6, 0, 10, 0, 15, 15, 15, 15, 15, 15, 15, 15, 15, 15, 15, 15, 15, 15, 15, 15, 15, 15, 15, 15, 15, 15, 15, 15, 15, 15, 15, 15, 15, 15, 12, 0, 12, 0, 12, 0, 17, 5, 6, 0, 10, 0, 15, 15, 15, 15, 15, 15, 15, 15, 15, 15, 15, 15, 15, 15, 15, 15, 15, 15, 15, 15, 15, 15, 15, 15, 15, 15, 15, 15, 15, 15, 12, 0, 12, 0, 12, 0, 17, 5, 6, 0, 10, 0, 15, 15, 15, 15, 15, 15, 15, 15, 15, 15, 15, 15, 15, 15, 15, 15, 15, 15, 15, 15, 15, 15, 15, 15, 15, 15, 15, 15, 15, 15, 12, 0, 12, 0, 12, 0, 2, 16, 0, 0, 0, 0, 0, 0, 14, 0, 0, 0, 0, 21, 1, 0, 3, 0, 0, 0, 0, 0, 0, 2, 0, 0, 2, 0, 0, 0, 0, 0, 0, 0, 0, 0, 2, 0, 3, 0, 2, 0, 0, 0, 0, 0, 0, 3, 0]
def mm_lnL : List Nat := [0, 0, 30, 30, 30, 30, 30, 0, 500, 0, 9, 30, 5, 5, 0, 9, 30, 5, 5, 0, 500, 5, 5, 40, 0, 500, 5, 5, 40, 0, 30, 3, 35, 0, 100, 0, 0, 0, 0, 0, 0, 0, 0, 0, 0, 0, 0, 0, 0, 0, 0, 0, 0, 0, 0, 0, 0, 0, 0, 0, 0, 0, 0, 0, 0, 0, 30, 0, 30, 0, 30, 3, 0, 30, 3, 35, 0, 100, 0, 0, 0, 0, 0, 0, 0, 0, 0, 0, 0, 0, 0, 0, 0, 0, 0, 0, 0, 0, 0, 0, 0, 0, 0, 0, 0, 0, 0, 0, 0, 30, 0, 30, 0, 30, 0, 30, 3, 35, 0, 100, 0, 0, 0, 0, 0, 0, 0, 0, 0, 0, 0, 0, 0, 0, 0, 0, 0, 0, 0, 0, 0, 0, 0, 0, 0, 0, 0, 0, 0, 0, 0, 30, 0, 30, 0, 30, 0, 30, 3, 35, 0, 100, 0, 0, 0, 0, 0, 0, 0, 0, 0, 0, 0, 0, 0, 0, 0, 0, 0, 0, 0, 0, 0, 0, 0, 0, 0, 0, 0, 0, 0, 0, 0, 30, 0, 30, 0, 30, 3, 0, 8, 8, 8, 8, 8, 256, 0, 169, 169, 169, 6, 0, 500, 9, 5, 30, 3, 9, 30, 1200, 6, 5, 1200, 6, 5, 3, 3, 3, 90, 210, 35, 100, 8, 8, 3, 1338, 3, 600, 9, 10, 600, 8, 8, 8, 256, 256, 20449]
def mm_rtL : List (List Nat) := [[7, 9, 14, 19, 24, 29, 71, 198, 199, 206], [2, 3, 4, 5, 6, 0, 0, 0], [], [], [], [], [], [8, 0, 0, 0, 0, 0, 0], [], [10, 11, 12, 13, 0, 0, 0, 0, 0], [], [], [], [], [15, 16, 17, 18, 0, 0, 0, 0, 0], [], [], [], [], [20, 21, 22, 23, 0, 0, 0], [], [], [], [], [25, 26, 27, 28, 0, 0, 0], [], [], [], [], [9, 19, 1, 30, 31, 32, 33, 0, 0], [35, 36, 37, 38, 39, 40, 41, 42, 43, 44, 45, 46, 47, 48, 49, 50, 51, 52, 53, 54, 55, 56, 57, 58, 59, 60, 61, 62, 63, 64], [65, 67, 69], [], [34, 0], [], [0, 0, 0, 0, 0, 0, 0], [0, 0, 0, 0, 0, 0, 0], [0, 0, 0, 0, 0, 0, 0], [0, 0, 0, 0, 0, 0, 0], [0, 0, 0, 0, 0, 0, 0], [0, 0, 0, 0, 0, 0, 0], [0, 0, 0, 0, 0, 0, 0], [0, 0, 0, 0, 0, 0, 0], [0, 0, 0, 0, 0, 0, 0], [0, 0, 0, 0, 0, 0, 0], [0, 0, 0, 0, 0, 0, 0], [0, 0, 0, 0, 0, 0, 0], [0, 0, 0, 0, 0, 0, 0], [0, 0, 0, 0, 0, 0, 0], [0, 0, 0, 0, 0, 0, 0], [0, 0, 0, 0, 0, 0, 0], [0, 0, 0, 0, 0, 0, 0], [0, 0, 0, 0, 0, 0, 0], [0, 0, 0, 0, 0, 0, 0], [0, 0, 0, 0, 0, 0, 0], [0, 0, 0, 0, 0, 0, 0], [0, 0, 0, 0, 0, 0, 0], [0, 0, 0, 0, 0, 0, 0], [0, 0, 0, 0, 0, 0, 0], [0, 0, 0, 0, 0, 0, 0], [0, 0, 0, 0, 0, 0, 0], [0, 0, 0, 0, 0, 0, 0], [0, 0, 0, 0, 0, 0, 0], [0, 0, 0, 0, 0, 0, 0], [0, 0, 0, 0, 0, 0, 0], [66, 0, 0, 0], [], [68, 0, 0, 0], [], [70, 0, 0, 0], [], [72, 114, 156], [9, 19, 1, 73, 74, 75, 76, 0, 0], [78, 79, 80, 81, 82, 83, 84, 85, 86, 87, 88, 89, 90, 91, 92, 93, 94, 95, 96, 97, 98, 99, 100, 101, 102, 103, 104, 105, 106, 107], [108, 110, 112], [], [77, 0], [], [0, 0, 0, 0, 0, 0, 0], [0, 0, 0, 0, 0, 0, 0], [0, 0, 0, 0, 0, 0, 0], [0, 0, 0, 0, 0, 0, 0], [0, 0, 0, 0, 0, 0, 0], [0, 0, 0, 0, 0, 0, 0], [0, 0, 0, 0, 0, 0, 0], [0, 0, 0, 0, 0, 0, 0], [0, 0, 0, 0, 0, 0, 0], [0, 0, 0, 0, 0, 0, 0], [0, 0, 0, 0, 0, 0, 0], [0, 0, 0, 0, 0, 0, 0], [0, 0, 0, 0, 0, 0, 0], [0, 0, 0, 0, 0, 0, 0], [0, 0, 0, 0, 0, 0, 0], [0, 0, 0, 0, 0, 0, 0], [0, 0, 0, 0, 0, 0, 0], [0, 0, 0, 0, 0, 0, 0], [0, 0, 0, 0, 0, 0, 0], [0, 0, 0, 0, 0, 0, 0], [0, 0, 0, 0, 0, 0, 0], [0, 0, 0, 0, 0, 0, 0], [0, 0, 0, 0, 0, 0, 0], [0, 0, 0, 0, 0, 0, 0], [0, 0, 0, 0, 0, 0, 0], [0, 0, 0, 0, 0, 0, 0], [0, 0, 0, 0, 0, 0, 0], [0, 0, 0, 0, 0, 0, 0], [0, 0, 0, 0, 0, 0, 0], [0, 0, 0, 0, 0, 0, 0], [109, 0, 0, 0], [], [111, 0, 0, 0], [], [113, 0, 0, 0], [], [9, 19, 1, 115, 116, 117, 118, 0, 0], [120, 121, 122, 123, 124, 125, 126, 127, 128, 129, 130, 131, 132, 133, 134, 135, 136, 137, 138, 139, 140, 141, 142, 143, 144, 145, 146, 147, 148, 149], [150, 152, 154], [], [119, 0], [], [0, 0, 0, 0, 0, 0, 0], [0, 0, 0, 0, 0, 0, 0], [0, 0, 0, 0, 0, 0, 0], [0, 0, 0, 0, 0, 0, 0], [0, 0, 0, 0, 0, 0, 0], [0, 0, 0, 0, 0, 0, 0], [0, 0, 0, 0, 0, 0, 0], [0, 0, 0, 0, 0, 0, 0], [0, 0, 0, 0, 0, 0, 0], [0, 0, 0, 0, 0, 0, 0], [0, 0, 0, 0, 0, 0, 0], [0, 0, 0, 0, 0, 0, 0], [0, 0, 0, 0, 0, 0, 0], [0, 0, 0, 0, 0, 0, 0], [0, 0, 0, 0, 0, 0, 0], [0, 0, 0, 0, 0, 0, 0], [0, 0, 0, 0, 0, 0, 0], [0, 0, 0, 0, 0, 0, 0], [0, 0, 0, 0, 0, 0, 0], [0, 0, 0, 0, 0, 0, 0], [0, 0, 0, 0, 0, 0, 0], [0, 0, 0, 0, 0, 0, 0], [0, 0, 0, 0, 0, 0, 0], [0, 0, 0, 0, 0, 0, 0], [0, 0, 0, 0, 0, 0, 0], [0, 0, 0, 0, 0, 0, 0], [0, 0, 0, 0, 0, 0, 0], [0, 0, 0, 0, 0, 0, 0], [0, 0, 0, 0, 0, 0, 0], [0, 0, 0, 0, 0, 0, 0], [151, 0, 0, 0], [], [153, 0, 0, 0], [], [155, 0, 0, 0], [], [9, 19, 1, 157, 158, 159, 160, 0, 0], [162, 163, 164, 165, 166, 167, 168, 169, 170, 171, 172, 173, 174, 175, 176, 177, 178, 179, 180, 181, 182, 183, 184, 185, 186, 187, 188, 189, 190, 191], [192, 194, 196], [], [161, 0], [], [0, 0, 0, 0, 0, 0, 0], [0, 0, 0, 0, 0, 0, 0], [0, 0, 0, 0, 0, 0, 0], [0, 0, 0, 0, 0, 0, 0], [0, 0, 0, 0, 0, 0, 0], [0, 0, 0, 0, 0, 0, 0], [0, 0, 0, 0, 0, 0, 0], [0, 0, 0, 0, 0, 0, 0], [0, 0, 0, 0, 0, 0, 0], [0, 0, 0, 0, 0, 0, 0], [0, 0, 0, 0, 0, 0, 0], [0, 0, 0, 0, 0, 0, 0], [0, 0, 0, 0, 0, 0, 0], [0, 0, 0, 0, 0, 0, 0], [0, 0, 0, 0, 0, 0, 0], [0, 0, 0, 0, 0, 0, 0], [0, 0, 0, 0, 0, 0, 0], [0, 0, 0, 0, 0, 0, 0], [0, 0, 0, 0, 0, 0, 0], [0, 0, 0, 0, 0, 0, 0], [0, 0, 0, 0, 0, 0, 0], [0, 0, 0, 0, 0, 0, 0], [0, 0, 0, 0, 0, 0, 0], [0, 0, 0, 0, 0, 0, 0], [0, 0, 0, 0, 0, 0, 0], [0, 0, 0, 0, 0, 0, 0], [0, 0, 0, 0, 0, 0, 0], [0, 0, 0, 0, 0, 0, 0], [0, 0, 0, 0, 0, 0, 0], [0, 0, 0, 0, 0, 0, 0], [193, 0, 0, 0], [], [195, 0, 0, 0], [], [197, 0, 0, 0], [], [], [19, 1, 200, 201, 202, 203, 204, 205, 0], [], [], [], [], [], [], [207, 208, 209, 210, 0, 0, 0, 0, 0, 0, 0, 0], [], [], [], [], [212, 0, 0, 0, 0, 0, 0, 213, 0, 214, 215, 216, 0, 217, 0, 218, 0, 0, 0, 0, 0, 219, 220, 221, 0, 222, 223, 224, 0, 225, 226, 227, 228, 229, 230, 0, 231, 0, 0, 232, 233, 234, 235, 236, 0, 237, 0, 238, 239, 240, 241, 0, 242, 243, 0, 0, 244, 245, 246, 0, 0, 0, 0, 0, 0], [], [], [], [], [], [], [], [], [], [], [], [], [], [], [], [], [], [], [], [], [], [], [], [], [], [], [], [], [], [], [], [], [], [], []]
def mm_tyL : List (List Nat) := [[1, 0], [1, 1, 1, 1, 1, 0, 0, 0], [1, 0, 0, 0], [1, 1, 1, 1, 0, 0, 0], [1, 1, 1, 1, 0, 0, 0, 0, 0, 0, 0, 0], [0, 0, 0, 0, 0, 0, 0], [1, 1, 1, 1, 1, 1, 1, 1, 0], [1, 1, 1, 1, 1, 1, 1, 0, 0], [1, 0, 0, 0, 0, 0, 0], [1, 1, 1, 1, 0, 0, 0, 0, 0], [1, 1, 1, 1, 1, 1, 1, 1, 1, 1], [1, 0, 0, 0, 0, 2, 0, 1, 0, 1, 1, 1, 0, 1, 0, 1, 0, 0, 0, 0, 0, 1, 1, 1, 0, 1, 1, 1, 0, 1, 1, 1, 1, 1, 1, 0, 1, 2, 0, 1, 1, 1, 1, 1, 0, 1, 0, 1, 1, 1, 1, 0, 1, 1, 0, 0, 1, 1, 1, 0, 0, 0, 0, 0, 0]]
def mm_kd (i : Nat) : Nat := mm_kdL.getD i 99
def mm_ln (i : Nat) : Nat := mm_lnL.getD i 0
def mm_rt (i j : Nat) : Nat := (mm_rtL.getD i []).getD j 0
def mm_ty (c j : Nat) : Nat := (mm_tyL.getD c []).getD j 0
def mm_nf (c : Nat) : Nat := (mm_tyL.getD c []).length
/-- cell i is of kind k and has n places -/
def mm_ok (i k n : Nat) : Prop := i < mm_N ∧ mm_kd i = k ∧ mm_ln i = n
/-! numbers -/
abbrev mm_M : Type := Nat → Int → Int
def mm_I (x : Int) : Int32 := Int32.ofInt x
def mm_L (x : Int) : Int64 := Int64.ofInt x
def n32 (x : Int) : Int := (mm_I x).toInt
def n64 (x : Int) : Int := (mm_L x).toInt
def mm_up (σ : mm_M) (a : Nat) (j v : Int) : mm_M := fun b k => if b = a ∧ k = j then v else σ b k
/-- a row copied: from place sp of cell a to place dp of cell b, n places -/
def mm_cp (σ : mm_M) (a : Nat) (sp : Int) (b : Nat) (dp n : Int) : mm_M := fun i k => if i = b ∧ dp ≤ k ∧ k < dp + n then σ a (sp + (k - dp)) else σ i k
theorem n32_id {x : Int} (h1 : -2147483648 ≤ x) (h2 : x ≤ 2147483647) : n32 x = x := Int32.toInt_ofInt_of_le (by omega) (by omega)
theorem n64_id {x : Int} (h1 : -9223372036854775808 ≤ x) (h2 : x ≤ 9223372036854775807) : n64 x = x := Int64.toInt_ofInt_of_le (by omega) (by omega)
theorem n32_lt (x : Int) : n32 x < 2147483648 := Int32.toInt_lt _
theorem n32_ge (x : Int) : -2147483648 ≤ n32 x := Int32.le_toInt _
theorem mm_I_n32 (x : Int) : mm_I (n32 x) = mm_I x := Int32.ofInt_toInt _
theorem mm_L_n64 (x : Int) : mm_L (n64 x) = mm_L x := Int64.ofInt_toInt _
theorem mm_I_eq {x y : Int} : mm_I x = mm_I y ↔ n32 x = n32 y := Int32.toInt_inj.symm
theorem mm_I_lt {x y : Int} : mm_I x < mm_I y ↔ n32 x < n32 y := Int32.lt_iff_toInt_lt
theorem mm_I_le {x y : Int} : mm_I x ≤ mm_I y ↔ n32 x ≤ n32 y := Int32.le_iff_toInt_le
theorem mm_L_eq {x y : Int} : mm_L x = mm_L y ↔ n64 x = n64 y := Int64.toInt_inj.symm
theorem mm_L_lt {x y : Int} : mm_L x < mm_L y ↔ n64 x < n64 y := Int64.lt_iff_toInt_lt
theorem mm_L_le {x y : Int} : mm_L x ≤ mm_L y ↔ n64 x ≤ n64 y := Int64.le_iff_toInt_le
theorem mm_I_add (x y : Int) : mm_I (x + y) = mm_I x + mm_I y := Int32.ofInt_add x y
theorem mm_I_sub (x y : Int) : mm_I (x - y) = mm_I x - mm_I y := Int32.ofInt_sub x y
theorem mm_I_mul (x y : Int) : mm_I (x * y) = mm_I x * mm_I y := Int32.ofInt_mul x y
theorem mm_I_neg (x : Int) : mm_I (-x) = -mm_I x := Int32.ofInt_neg x
theorem mm_L_add (x y : Int) : mm_L (x + y) = mm_L x + mm_L y := Int64.ofInt_add x y
theorem mm_L_sub (x y : Int) : mm_L (x - y) = mm_L x - mm_L y := Int64.ofInt_sub x y
theorem mm_L_mul (x y : Int) : mm_L (x * y) = mm_L x * mm_L y := Int64.ofInt_mul x y
theorem mm_I_div (x y : Int) : mm_I ((n32 x).tdiv (n32 y)) = mm_I x / mm_I y := Int32.toInt_inj.mp (by rw [Int32.toInt_div]; exact Int32.toInt_ofInt)
theorem mm_L_div (x y : Int) : mm_L ((n64 x).tdiv (n64 y)) = mm_L x / mm_L y := Int64.toInt_inj.mp (by rw [Int64.toInt_div]; exact Int64.toInt_ofInt)
theorem mm_I_rem (x y : Int) : mm_I ((n32 x).tmod (n32 y)) = mm_I x - mm_I x / mm_I y * mm_I y := by
  rw [← mm_I_div, ← mm_I_mul, ← mm_I_sub, mm_I_eq]
  have h : (n32 x).tmod (n32 y) = n32 x - (n32 x).tdiv (n32 y) * n32 y := by
    have := Int.tmod_def (n32 x) (n32 y)
    rw [this, Int.mul_comm]
  rw [h]
  show (mm_I _).toInt = (mm_I _).toInt
  rw [mm_I_sub, mm_I_sub, mm_I_mul, mm_I_mul, mm_I_n32, mm_I_n32]
theorem mm_L_rem (x y : Int) : mm_L ((n64 x).tmod (n64 y)) = mm_L x - mm_L x / mm_L y * mm_L y := by
  rw [← mm_L_div, ← mm_L_mul, ← mm_L_sub, mm_L_eq]
  have h : (n64 x).tmod (n64 y) = n64 x - (n64 x).tdiv (n64 y) * n64 y := by
    have := Int.tmod_def (n64 x) (n64 y)
    rw [this, Int.mul_comm]
  rw [h]
  show (mm_L _).toInt = (mm_L _).toInt
  rw [mm_L_sub, mm_L_sub, mm_L_mul, mm_L_mul, mm_L_n64, mm_L_n64]
/-! the operations on bits, as they stand -/
def mm_and (x y : Int) : Int := (mm_I x &&& mm_I y).toInt
def mm_or (x y : Int) : Int := (mm_I x ||| mm_I y).toInt
def mm_xor (x y : Int) : Int := (mm_I x ^^^ mm_I y).toInt
def mm_shl (x y : Int) : Int := (mm_I x <<< (mm_I y &&& 31)).toInt
def mm_shr (x y : Int) : Int := (mm_I x >>> (mm_I y &&& 31)).toInt
def mm_ushr (x y : Int) : Int := ((mm_I x).toUInt32 >>> ((mm_I y).toUInt32 &&& Int32.toUInt32 31)).toInt32.toInt
def mm_b8 (x : Int) : Int := (mm_I x).toInt8.toInt32.toInt
def mm_landL (x y : Int) : Int := (mm_L x &&& mm_L y).toInt
def mm_lorL (x y : Int) : Int := (mm_L x ||| mm_L y).toInt
def mm_lshl (x y : Int) : Int := (mm_L x <<< ((mm_I y).toInt64 &&& 63)).toInt
def mm_cmp (x y : Int) : Int := if n64 y < n64 x then 1 else if n64 x = n64 y then 0 else -1
def mm_max (x y : Int) : Int := if n32 x < n32 y then n32 y else n32 x
def mm_min (x y : Int) : Int := if n32 y < n32 x then n32 y else n32 x
theorem mm_cmp_eq (x y : Int) : lg_cmp (mm_L x) (mm_L y) = mm_I (mm_cmp x y) := by
  unfold lg_cmp mm_cmp
  simp only [gt_iff_lt, mm_L_lt, mm_L_eq]
  repeat' split
  all_goals rfl
theorem mm_i2l (x : Int) : (mm_I x).toInt64 = mm_L (n32 x) := Int64.toInt_inj.mp (by
  rw [Int32.toInt_toInt64]
  have h1 := n32_lt x
  have h2 := n32_ge x
  exact (n64_id (x := n32 x) (by omega) (by omega)).symm)
theorem mm_l2i (x : Int) : (mm_L x).toInt32 = mm_I x := Int64.toInt32_ofInt
theorem mm_in {x : Int} {n : Nat} (hn : n < 2147483648) (h : 0 ≤ x ∧ x < n) : vp_in (mm_I x) n ∧ (mm_I x).toNatClampNeg = x.toNat := by
  have h1 : (mm_I x).toInt = x := n32_id (by omega) (by omega)
  refine ⟨vp_in_iff.mpr ⟨by omega, by omega⟩, ?_⟩
  show (mm_I x).toInt.toNat = x.toNat
  rw [h1]
/-! the cells -/
abbrev mm_G : Type := va_G × (Nat → ClassId) × (Nat → Nat) × (Nat → Nat) × (Nat → Nat)
def mm_ad (G : mm_G) (i : Nat) : Nat := G.2.2.1 i
def mm_fv (G : mm_G) (r : Int → Int) (i c j : Nat) : Value := if mm_ty c j = 0 then .int (mm_I (r j)) else if mm_ty c j = 1 then .ref (mm_ad G (mm_rt i j)) else .long (mm_L (r j))
def mm_cR (G : mm_G) (r : Int → Int) (i : Nat) : va_E :=
  if mm_kd i < 3 then .inl (G.2.1 (mm_kd i), mm_ln i, .inl (fun j => mm_I (r j)))
  else if mm_kd i = 3 then .inl (G.2.1 3, mm_ln i, .inr (.inl (fun j => mm_L (r j))))
  else if mm_kd i < 10 then .inl (G.2.1 (mm_kd i), mm_ln i, .inr (.inr (.inr (.inr (fun j => some (mm_ad G (mm_rt i j)))))))
  else .inr (mm_kd i - 10, (List.range (mm_nf (mm_kd i - 10))).map (mm_fv G r i (mm_kd i - 10)))
def mm_W (G : mm_G) (σ : mm_M) : va_W := (List.range mm_N).map (fun i => (mm_ad G i, mm_cR G (σ i) i))
theorem mm_W_at {G : mm_G} {σ : mm_M} {i : Nat} (h : i < mm_N) : (mm_W G σ)[i]? = some (mm_ad G i, mm_cR G (σ i) i) := by
  unfold mm_W
  rw [List.getElem?_map, List.getElem?_range h]
  rfl
theorem mm_W_of {G : mm_G} {σ : mm_M} {i : Nat} {q : Nat × va_E} (h : (mm_W G σ)[i]? = some q) : i < mm_N ∧ q = (mm_ad G i, mm_cR G (σ i) i) := by
  by_cases hi : i < mm_N
  · rw [mm_W_at hi] at h
    exact ⟨hi, (Option.some.inj h).symm⟩
  · have : (mm_W G σ).length = mm_N := by unfold mm_W; simp
    rw [List.getElem?_eq_none (by omega)] at h
    cases h
theorem mm_W_set {G : mm_G} {σ σ' : mm_M} {i : Nat} {e : va_E} (he : e = mm_cR G (σ' i) i) (ho : ∀ k, k ≠ i → σ' k = σ k) : (mm_W G σ).set i (mm_ad G i, e) = mm_W G σ' := by
  apply List.ext_getElem?
  intro k
  have hl : (mm_W G σ).length = mm_N := by unfold mm_W; simp
  rw [List.getElem?_set]
  by_cases hk : i = k
  · subst hk
    rw [if_pos rfl]
    by_cases hi : i < mm_N
    · rw [if_pos (by omega), mm_W_at hi, he]
    · rw [if_neg (by omega)]
      have hl2 : (mm_W G σ').length = mm_N := by unfold mm_W; simp
      rw [List.getElem?_eq_none (by omega)]
  · rw [if_neg hk]
    by_cases hi : k < mm_N
    · rw [mm_W_at hi, mm_W_at hi, ho k (fun h => hk h.symm)]
    · have hl2 : (mm_W G σ').length = mm_N := by unfold mm_W; simp
      rw [List.getElem?_eq_none (by omega), List.getElem?_eq_none (by omega)]
theorem mm_up_o {σ : mm_M} {i k : Nat} {j v : Int} (h : k ≠ i) : mm_up σ i j v k = σ k := by
  funext q
  unfold mm_up
  rw [if_neg (fun q => h q.1)]
theorem mm_ln_lt : ∀ i : Nat, mm_ln i < 2147483648 := by
  intro i
  have h : ∀ x ∈ mm_lnL, x < 2147483648 := by decide +kernel
  unfold mm_ln
  rw [List.getD_eq_getElem?_getD]
  cases hq : mm_lnL[i]? with
  | none => simp
  | some x => exact h x (List.mem_of_getElem? hq)
/-! the environment: tables, nest words, text constants -/
def mm_tys (G : mm_G) : List (ClassId × FieldType) := [(G.2.1 0, .int), (G.2.1 1, .byte), (G.2.1 2, .boolean), (G.2.1 3, .long), (G.2.1 4, .object "LastServed$Shop"), (G.2.1 5, .object "LastServed$Person"), (G.2.1 6, .object "LastServed$Desk")]
def mm_str (k : Nat) : String × Nat × String × List Nat := mm_sL.getD k ("", 0, "", [])
def mm_byt (k j : Nat) : Nat := (mm_str k).2.2.2.getD j 0
def mm_sl (k : Nat) : Nat := (mm_str k).2.2.2.length
def mm_E (G : mm_G) (A : Nat → Prop) (U : State) (H : Heap) : Prop :=
  va_K G.1 vwCl (mm_tys G) U ∧ (∀ w ∈ mm_nest, va_Nw w U) ∧ va_Z "java/lang/String" "COMPACT_STRINGS" "Z" (.int (mm_I 1)) A U H ∧
  (∃ v : Value, (v = .null ∨ ∃ a, v = .ref a) ∧ va_Z "jdk/internal/util/Preconditions" "SIOOBE_FORMATTER" "Ljava/util/function/BiFunction;" v A U H) ∧
  ∀ k, k < mm_nS → vk_R (mm_str k).1 (mm_str k).2.1 (mm_str k).2.2.1 (G.2.2.2.1 k) U ∧ va_O "java/lang/String" (G.2.2.2.1 k) A U H ∧ va_OF "java/lang/String" "coder" "B" (.int (mm_I 0)) (G.2.2.2.1 k) A U H ∧
    va_OF "java/lang/String" "value" "[B" (.ref (G.2.2.2.2 k)) (G.2.2.2.1 k) A U H ∧ va_T .byte (G.2.2.2.2 k) (mm_sl k) (fun j => .int (mm_I (mm_byt k j))) A U H
def mm_inj (G : mm_G) : Prop := ∀ i j, i < mm_N → j < mm_N → mm_ad G i = mm_ad G j → i = j
/-- the addresses of the cells -/
def mm_A (G : mm_G) : Nat → Prop := fun q => ∃ i, i < mm_N ∧ q = mm_ad G i
/-- the world while a method runs: s is its entry's state, H the heap now -/
def mm_Wd (G : mm_G) (A : Nat → Prop) (σ : mm_M) (s : State) (H : Heap) (locs : List Loc) : Prop :=
  mm_inj G ∧ (∀ i, i < mm_N → A (mm_ad G i)) ∧ va_P G.1 vwCl (mm_W G σ) H ∧ mm_E G A s s.heap ∧ va_S A s.heap H locs
theorem mm_D {G : mm_G} {A : Nat → Prop} {σ : mm_M} (h1 : mm_inj G) (h2 : ∀ i, i < mm_N → A (mm_ad G i)) : va_D A (mm_W G σ) := by
  refine ⟨fun i j p q hi hj he => ?_, fun k q hk => ?_⟩
  · obtain ⟨a1, a2⟩ := mm_W_of hi
    obtain ⟨b1, b2⟩ := mm_W_of hj
    rw [a2, b2] at he
    exact h1 i j a1 b1 he
  · obtain ⟨a1, a2⟩ := mm_W_of hk
    rw [a2]
    exact h2 k a1
theorem mm_E.go {G : mm_G} {A B : Nat → Prop} {s U : State} {H : Heap} {locs : List Loc} (h : mm_E G A s s.heap) (hS : va_S A s.heap H locs) (hW : s.WarmedH U.vm) (hU : U.heap = H) (hAB : ∀ q, B q → A q) : mm_E G B U U.heap := by
  obtain ⟨h1, h2, h3, ⟨v0, hv0, hz0⟩, h4⟩ := h
  have hq : ∀ a : Nat, a < s.heap.size → ¬ A a → H[a]? = s.heap[a]? := hS.2.1
  rw [hU]
  refine ⟨va_K.moved hW.alike h1, fun w hw => ?_, va_Z.narrow (va_Z.kept (va_Z.moved hW.alike h3) hq) hAB, ⟨v0, hv0, va_Z.narrow (va_Z.kept (va_Z.moved hW.alike hz0) hq) hAB⟩, fun k hk => ?_⟩
  · have h5 := h2 w hw
    have h6 : ∀ w ∈ mm_nest, (match w with | .fieldLinkNest .. => true | .methodLinkNest .. => true | _ => false) = true := by decide +kernel
    have h7 := h6 w hw
    cases w with
    | fieldLinkNest a b c d e f => exact va_Nw.warmF hW h5
    | methodLinkNest a b c d => exact va_Nw.warmM hW h5
    | _ => cases h7
  · obtain ⟨a1, a2, a3, a4, a5⟩ := h4 k hk
    exact ⟨vk_R.warm hW a1, va_O.narrow (va_O.kept (va_O.moved hW.alike a2) hq) hAB, va_OF.narrow (va_OF.kept (va_OF.moved hW.alike a3) hq) hAB, va_OF.narrow (va_OF.kept (va_OF.moved hW.alike a4) hq) hAB, va_T.narrow (va_T.kept (va_T.moved hW.alike a5) hq) hAB⟩
