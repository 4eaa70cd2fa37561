theorem cv_X10_feed : mm_V yX10_feed cX10_feed 6 (some .int) 5 := ⟨(mt_2 152 rfl rfl), (mt_2 150 rfl rfl), (mt_2 151 rfl rfl), (mt_1 1 rfl rfl), by decide, by decide, by decide +kernel⟩
theorem ml_L_13 : Cond.methodLink RL 13 yX10_feed ∈ mm_ws := (mt_2 149 rfl rfl)
theorem cv_X11_feed : mm_V yX11_feed cX11_feed 8 (some .int) 5 := ⟨(mt_6 164 rfl rfl), (mt_6 162 rfl rfl), (mt_6 163 rfl rfl), (mt_1 12 rfl rfl), by decide, by decide, by decide +kernel⟩
theorem ml_L_17 : Cond.methodLink RL 17 yX11_feed ∈ mm_ws := (mt_6 161 rfl rfl)
theorem cv_X10_end : mm_V yX10_end cX10_end 2 (some .boolean) 1 := ⟨(mt_2 160 rfl rfl), (mt_2 158 rfl rfl), (mt_2 159 rfl rfl), (mt_1 1 rfl rfl), by decide, by decide, by decide +kernel⟩
theorem ml_L_18 : Cond.methodLink RL 18 yX10_end ∈ mm_ws := (mt_2 157 rfl rfl)
theorem cv_X11_end : mm_V yX11_end cX11_end 2 (some .boolean) 1 := ⟨(mt_6 168 rfl rfl), (mt_6 166 rfl rfl), (mt_6 167 rfl rfl), (mt_1 12 rfl rfl), by decide, by decide, by decide +kernel⟩
theorem ml_L_22 : Cond.methodLink RL 22 yX11_end ∈ mm_ws := (mt_6 165 rfl rfl)
theorem cv_X10_fault : mm_V yX10_fault cX10_fault 2 (some .int) 1 := ⟨(mt_2 168 rfl rfl), (mt_2 166 rfl rfl), (mt_2 167 rfl rfl), (mt_1 1 rfl rfl), by decide, by decide, by decide +kernel⟩
theorem ml_L_23 : Cond.methodLink RL 23 yX10_fault ∈ mm_ws := (mt_2 165 rfl rfl)
theorem cv_X11_fault : mm_V yX11_fault cX11_fault 2 (some .int) 1 := ⟨(mt_6 175 rfl rfl), (mt_6 173 rfl rfl), (mt_6 174 rfl rfl), (mt_1 12 rfl rfl), by decide, by decide, by decide +kernel⟩
theorem ml_L_27 : Cond.methodLink RL 27 yX11_fault ∈ mm_ws := (mt_6 172 rfl rfl)
theorem cv_X10_town : mm_V yX10_town cX10_town 2 (some .int) 0 := ⟨(mt_3 126 rfl rfl), (mt_3 124 rfl rfl), (mt_3 125 rfl rfl), (mt_1 1 rfl rfl), by decide, by decide, by decide +kernel⟩
theorem ml_L_28 : Cond.methodLink RL 28 yX10_town ∈ mm_ws := (mt_3 123 rfl rfl)
theorem cv_X11_town : mm_V yX11_town cX11_town 2 (some .int) 0 := ⟨(mt_7 56 rfl rfl), (mt_7 54 rfl rfl), (mt_7 55 rfl rfl), (mt_1 12 rfl rfl), by decide, by decide, by decide +kernel⟩
theorem ml_L_32 : Cond.methodLink RL 32 yX11_town ∈ mm_ws := (mt_7 53 rfl rfl)
theorem cv_X10_laws : mm_V yX10_laws cX10_laws 1 (some .int) 0 := ⟨(mt_3 156 rfl rfl), (mt_3 154 rfl rfl), (mt_3 155 rfl rfl), (mt_1 1 rfl rfl), by decide, by decide, by decide +kernel⟩
theorem ml_L_33 : Cond.methodLink RL 33 yX10_laws ∈ mm_ws := (mt_3 153 rfl rfl)
theorem cv_X11_laws : mm_V yX11_laws cX11_laws 2 (some .int) 0 := ⟨(mt_7 52 rfl rfl), (mt_7 50 rfl rfl), (mt_7 51 rfl rfl), (mt_1 12 rfl rfl), by decide, by decide, by decide +kernel⟩
theorem ml_L_36 : Cond.methodLink RL 36 yX11_laws ∈ mm_ws := (mt_7 49 rfl rfl)
theorem cv_X10_counter : mm_V yX10_counter cX10_counter 4 (some .int) 2 := ⟨(mt_3 165 rfl rfl), (mt_3 163 rfl rfl), (mt_3 164 rfl rfl), (mt_1 1 rfl rfl), by decide, by decide, by decide +kernel⟩
theorem ml_L_37 : Cond.methodLink RL 37 yX10_counter ∈ mm_ws := (mt_3 162 rfl rfl)
theorem cv_X11_counter : mm_V yX11_counter cX11_counter 3 (some .int) 2 := ⟨(mt_7 60 rfl rfl), (mt_7 58 rfl rfl), (mt_7 59 rfl rfl), (mt_1 12 rfl rfl), by decide, by decide, by decide +kernel⟩
theorem ml_L_41 : Cond.methodLink RL 41 yX11_counter ∈ mm_ws := (mt_7 57 rfl rfl)
theorem cv_X10_sort : mm_V yX10_sort cX10_sort 4 (some .int) 2 := ⟨(mt_3 175 rfl rfl), (mt_3 173 rfl rfl), (mt_3 174 rfl rfl), (mt_1 1 rfl rfl), by decide, by decide, by decide +kernel⟩
theorem ml_L_42 : Cond.methodLink RL 42 yX10_sort ∈ mm_ws := (mt_3 172 rfl rfl)
theorem cv_X11_sort : mm_V yX11_sort cX11_sort 4 (some .int) 2 := ⟨(mt_7 68 rfl rfl), (mt_7 66 rfl rfl), (mt_7 67 rfl rfl), (mt_1 12 rfl rfl), by decide, by decide, by decide +kernel⟩
theorem ml_L_45 : Cond.methodLink RL 45 yX11_sort ∈ mm_ws := (mt_7 65 rfl rfl)
theorem cv_X10_seed : mm_V yX10_seed cX10_seed 2 (some .boolean) 1 := ⟨(mt_3 202 rfl rfl), (mt_3 200 rfl rfl), (mt_3 201 rfl rfl), (mt_1 1 rfl rfl), by decide, by decide, by decide +kernel⟩
theorem ml_L_46 : Cond.methodLink RL 46 yX10_seed ∈ mm_ws := (mt_3 199 rfl rfl)
theorem cv_X11_seed : mm_V yX11_seed cX11_seed 2 (some .boolean) 1 := ⟨(mt_7 83 rfl rfl), (mt_7 81 rfl rfl), (mt_7 82 rfl rfl), (mt_1 12 rfl rfl), by decide, by decide, by decide +kernel⟩
theorem ml_L_49 : Cond.methodLink RL 49 yX11_seed ∈ mm_ws := (mt_7 80 rfl rfl)
theorem cv_X10_come : mm_V yX10_come cX10_come 3 (some .int) 2 := ⟨(mt_3 207 rfl rfl), (mt_3 205 rfl rfl), (mt_3 206 rfl rfl), (mt_1 1 rfl rfl), by decide, by decide, by decide +kernel⟩
theorem ml_L_50 : Cond.methodLink RL 50 yX10_come ∈ mm_ws := (mt_3 204 rfl rfl)
theorem cv_X11_come : mm_V yX11_come cX11_come 4 (some .int) 2 := ⟨(mt_7 88 rfl rfl), (mt_7 86 rfl rfl), (mt_7 87 rfl rfl), (mt_1 12 rfl rfl), by decide, by decide, by decide +kernel⟩
theorem ml_L_53 : Cond.methodLink RL 53 yX11_come ∈ mm_ws := (mt_7 85 rfl rfl)
theorem cv_X10_turn : mm_V yX10_turn cX10_turn 3 (some .boolean) 1 := ⟨(mt_4 12 rfl rfl), (mt_4 10 rfl rfl), (mt_4 11 rfl rfl), (mt_1 1 rfl rfl), by decide, by decide, by decide +kernel⟩
theorem ml_L_54 : Cond.methodLink RL 54 yX10_turn ∈ mm_ws := (mt_4 9 rfl rfl)
theorem cv_X11_turn : mm_V yX11_turn cX11_turn 2 (some .boolean) 1 := ⟨(mt_7 116 rfl rfl), (mt_7 114 rfl rfl), (mt_7 115 rfl rfl), (mt_1 12 rfl rfl), by decide, by decide, by decide +kernel⟩
theorem ml_L_57 : Cond.methodLink RL 57 yX11_turn ∈ mm_ws := (mt_7 113 rfl rfl)
theorem cv_X10_leave : mm_V yX10_leave cX10_leave 3 (some .boolean) 1 := ⟨(mt_4 37 rfl rfl), (mt_4 35 rfl rfl), (mt_4 36 rfl rfl), (mt_1 1 rfl rfl), by decide, by decide, by decide +kernel⟩
theorem ml_L_58 : Cond.methodLink RL 58 yX10_leave ∈ mm_ws := (mt_4 34 rfl rfl)
theorem cv_X11_leave : mm_V yX11_leave cX11_leave 2 (some .boolean) 1 := ⟨(mt_7 136 rfl rfl), (mt_7 134 rfl rfl), (mt_7 135 rfl rfl), (mt_1 12 rfl rfl), by decide, by decide, by decide +kernel⟩
theorem ml_L_61 : Cond.methodLink RL 61 yX11_leave ∈ mm_ws := (mt_7 133 rfl rfl)
theorem cv_X10_person : mm_V yX10_person cX10_person 4 (some .int) 2 := ⟨(mt_4 45 rfl rfl), (mt_4 43 rfl rfl), (mt_4 44 rfl rfl), (mt_1 1 rfl rfl), by decide, by decide, by decide +kernel⟩
theorem ml_L_62 : Cond.methodLink RL 62 yX10_person ∈ mm_ws := (mt_4 42 rfl rfl)
theorem cv_X11_person : mm_V yX11_person cX11_person 3 (some .int) 2 := ⟨(mt_7 144 rfl rfl), (mt_7 142 rfl rfl), (mt_7 143 rfl rfl), (mt_1 12 rfl rfl), by decide, by decide, by decide +kernel⟩
theorem ml_L_65 : Cond.methodLink RL 65 yX11_person ∈ mm_ws := (mt_7 141 rfl rfl)
theorem cv_X10_next : mm_V yX10_next cX10_next 4 (some .int) 2 := ⟨(mt_4 58 rfl rfl), (mt_4 56 rfl rfl), (mt_4 57 rfl rfl), (mt_1 1 rfl rfl), by decide, by decide, by decide +kernel⟩
theorem ml_L_66 : Cond.methodLink RL 66 yX10_next ∈ mm_ws := (mt_4 55 rfl rfl)
theorem cv_X11_next : mm_V yX11_next cX11_next 3 (some .int) 2 := ⟨(mt_7 148 rfl rfl), (mt_7 146 rfl rfl), (mt_7 147 rfl rfl), (mt_1 12 rfl rfl), by decide, by decide, by decide +kernel⟩
theorem ml_L_69 : Cond.methodLink RL 69 yX11_next ∈ mm_ws := (mt_7 145 rfl rfl)
theorem cv_X10_inside : mm_V yX10_inside cX10_inside 4 (some .int) 2 := ⟨(mt_4 131 rfl rfl), (mt_4 129 rfl rfl), (mt_4 130 rfl rfl), (mt_1 1 rfl rfl), by decide, by decide, by decide +kernel⟩
theorem ml_L_70 : Cond.methodLink RL 70 yX10_inside ∈ mm_ws := (mt_4 128 rfl rfl)
theorem cv_X11_inside : mm_V yX11_inside cX11_inside 3 (some .int) 2 := ⟨(mt_7 180 rfl rfl), (mt_7 178 rfl rfl), (mt_7 179 rfl rfl), (mt_1 12 rfl rfl), by decide, by decide, by decide +kernel⟩
theorem ml_L_73 : Cond.methodLink RL 73 yX11_inside ∈ mm_ws := (mt_7 177 rfl rfl)
theorem cv_X10_go : mm_V yX10_go cX10_go 3 (some .int) 1 := ⟨(mt_4 135 rfl rfl), (mt_4 133 rfl rfl), (mt_4 134 rfl rfl), (mt_1 1 rfl rfl), by decide, by decide, by decide +kernel⟩
theorem ml_L_74 : Cond.methodLink RL 74 yX10_go ∈ mm_ws := (mt_4 132 rfl rfl)
theorem cv_X11_go : mm_V yX11_go cX11_go 3 (some .int) 1 := ⟨(mt_7 184 rfl rfl), (mt_7 182 rfl rfl), (mt_7 183 rfl rfl), (mt_1 12 rfl rfl), by decide, by decide, by decide +kernel⟩
theorem ml_L_77 : Cond.methodLink RL 77 yX11_go ∈ mm_ws := (mt_7 181 rfl rfl)
theorem cv_X10_comer : mm_V yX10_comer cX10_comer 3 (some .int) 2 := ⟨(mt_4 196 rfl rfl), (mt_4 194 rfl rfl), (mt_4 195 rfl rfl), (mt_1 1 rfl rfl), by decide, by decide, by decide +kernel⟩
theorem ml_L_78 : Cond.methodLink RL 78 yX10_comer ∈ mm_ws := (mt_4 193 rfl rfl)
theorem cv_X11_comer : mm_V yX11_comer cX11_comer 3 (some .int) 2 := ⟨(mt_7 209 rfl rfl), (mt_7 207 rfl rfl), (mt_7 208 rfl rfl), (mt_1 12 rfl rfl), by decide, by decide, by decide +kernel⟩
theorem ml_L_81 : Cond.methodLink RL 81 yX11_comer ∈ mm_ws := (mt_7 206 rfl rfl)
theorem cv_X10_clear : mm_V yX10_clear cX10_clear 2 (some .int) 0 := ⟨(mt_4 204 rfl rfl), (mt_4 202 rfl rfl), (mt_4 203 rfl rfl), (mt_1 1 rfl rfl), by decide, by decide, by decide +kernel⟩
theorem ml_L_82 : Cond.methodLink RL 82 yX10_clear ∈ mm_ws := (mt_4 201 rfl rfl)
theorem cv_X11_clear : mm_V yX11_clear cX11_clear 2 (some .int) 0 := ⟨(mt_7 213 rfl rfl), (mt_7 211 rfl rfl), (mt_7 212 rfl rfl), (mt_1 12 rfl rfl), by decide, by decide, by decide +kernel⟩
theorem ml_L_85 : Cond.methodLink RL 85 yX11_clear ∈ mm_ws := (mt_7 210 rfl rfl)
theorem cv_X10_waits : mm_V yX10_waits cX10_waits 4 (some .int) 3 := ⟨(mt_4 208 rfl rfl), (mt_4 206 rfl rfl), (mt_4 207 rfl rfl), (mt_1 1 rfl rfl), by decide, by decide, by decide +kernel⟩
theorem ml_L_86 : Cond.methodLink RL 86 yX10_waits ∈ mm_ws := (mt_4 205 rfl rfl)
theorem cv_X11_waits : mm_V yX11_waits cX11_waits 7 (some .int) 3 := ⟨(mt_7 217 rfl rfl), (mt_7 215 rfl rfl), (mt_7 216 rfl rfl), (mt_1 12 rfl rfl), by decide, by decide, by decide +kernel⟩
theorem ml_L_90 : Cond.methodLink RL 90 yX11_waits ∈ mm_ws := (mt_7 214 rfl rfl)
theorem cv_X10_lot : mm_V yX10_lot cX10_lot 1 (some .int) 0 := ⟨(mt_5 16 rfl rfl), (mt_5 14 rfl rfl), (mt_5 15 rfl rfl), (mt_1 1 rfl rfl), by decide, by decide, by decide +kernel⟩
theorem ml_L_91 : Cond.methodLink RL 91 yX10_lot ∈ mm_ws := (mt_5 13 rfl rfl)
theorem cv_X11_lot : mm_V yX11_lot cX11_lot 7 (some .int) 0 := ⟨(mt_7 237 rfl rfl), (mt_7 235 rfl rfl), (mt_7 236 rfl rfl), (mt_1 12 rfl rfl), by decide, by decide, by decide +kernel⟩
theorem ml_L_94 : Cond.methodLink RL 94 yX11_lot ∈ mm_ws := (mt_7 234 rfl rfl)
theorem cv_X10_best : mm_V yX10_best cX10_best 1 (some .int) 0 := ⟨(mt_5 33 rfl rfl), (mt_5 31 rfl rfl), (mt_5 32 rfl rfl), (mt_1 1 rfl rfl), by decide, by decide, by decide +kernel⟩
theorem ml_L_95 : Cond.methodLink RL 95 yX10_best ∈ mm_ws := (mt_5 30 rfl rfl)
theorem cv_X11_best : mm_V yX11_best cX11_best 5 (some .int) 0 := ⟨(mt_8 1 rfl rfl), (mt_7 239 rfl rfl), (mt_8 0 rfl rfl), (mt_1 12 rfl rfl), by decide, by decide, by decide +kernel⟩
theorem ml_L_98 : Cond.methodLink RL 98 yX11_best ∈ mm_ws := (mt_7 238 rfl rfl)
theorem cv_X10_book : mm_V yX10_book cX10_book 3 (some .int) 2 := ⟨(mt_5 43 rfl rfl), (mt_5 41 rfl rfl), (mt_5 42 rfl rfl), (mt_1 1 rfl rfl), by decide, by decide, by decide +kernel⟩
theorem ml_L_99 : Cond.methodLink RL 99 yX10_book ∈ mm_ws := (mt_5 40 rfl rfl)
theorem cv_X11_book : mm_V yX11_book cX11_book 3 (some .int) 2 := ⟨(mt_8 5 rfl rfl), (mt_8 3 rfl rfl), (mt_8 4 rfl rfl), (mt_1 12 rfl rfl), by decide, by decide, by decide +kernel⟩
theorem ml_L_102 : Cond.methodLink RL 102 yX11_book ∈ mm_ws := (mt_8 2 rfl rfl)
theorem cv_X10_judge : mm_V yX10_judge cX10_judge 3 (some .int) 2 := ⟨(mt_5 51 rfl rfl), (mt_5 49 rfl rfl), (mt_5 50 rfl rfl), (mt_1 1 rfl rfl), by decide, by decide, by decide +kernel⟩
theorem ml_L_103 : Cond.methodLink RL 103 yX10_judge ∈ mm_ws := (mt_5 48 rfl rfl)
theorem cv_X11_judge : mm_V yX11_judge cX11_judge 5 (some .int) 2 := ⟨(mt_8 9 rfl rfl), (mt_8 7 rfl rfl), (mt_8 8 rfl rfl), (mt_1 12 rfl rfl), by decide, by decide, by decide +kernel⟩
theorem ml_L_106 : Cond.methodLink RL 106 yX11_judge ∈ mm_ws := (mt_8 6 rfl rfl)
theorem cv_X10_value : mm_V yX10_value cX10_value 9 (some .int) 5 := ⟨(mt_5 61 rfl rfl), (mt_5 59 rfl rfl), (mt_5 60 rfl rfl), (mt_1 1 rfl rfl), by decide, by decide, by decide +kernel⟩
theorem ml_L_107 : Cond.methodLink RL 107 yX10_value ∈ mm_ws := (mt_5 58 rfl rfl)
theorem cv_X11_value : mm_V yX11_value cX11_value 7 (some .int) 5 := ⟨(mt_8 13 rfl rfl), (mt_8 11 rfl rfl), (mt_8 12 rfl rfl), (mt_1 12 rfl rfl), by decide, by decide, by decide +kernel⟩
theorem ml_L_110 : Cond.methodLink RL 110 yX11_value ∈ mm_ws := (mt_8 10 rfl rfl)
theorem cv_X10_entering : mm_V yX10_entering cX10_entering 7 (some .int) 4 := ⟨(mt_5 117 rfl rfl), (mt_5 115 rfl rfl), (mt_5 116 rfl rfl), (mt_1 1 rfl rfl), by decide, by decide, by decide +kernel⟩
theorem ml_L_111 : Cond.methodLink RL 111 yX10_entering ∈ mm_ws := (mt_5 114 rfl rfl)
theorem cv_X11_entering : mm_V yX11_entering cX11_entering 5 (some .int) 4 := ⟨(mt_8 48 rfl rfl), (mt_8 46 rfl rfl), (mt_8 47 rfl rfl), (mt_1 12 rfl rfl), by decide, by decide, by decide +kernel⟩
theorem ml_L_115 : Cond.methodLink RL 115 yX11_entering ∈ mm_ws := (mt_8 45 rfl rfl)
theorem cv_X10_when : mm_V yX10_when cX10_when 6 (some .int) 5 := ⟨(mt_5 127 rfl rfl), (mt_5 125 rfl rfl), (mt_5 126 rfl rfl), (mt_1 1 rfl rfl), by decide, by decide, by decide +kernel⟩
theorem ml_L_116 : Cond.methodLink RL 116 yX10_when ∈ mm_ws := (mt_5 124 rfl rfl)
theorem cv_X11_when : mm_V yX11_when cX11_when 12 (some .int) 5 := ⟨(mt_8 52 rfl rfl), (mt_8 50 rfl rfl), (mt_8 51 rfl rfl), (mt_1 12 rfl rfl), by decide, by decide, by decide +kernel⟩
theorem ml_L_119 : Cond.methodLink RL 119 yX11_when ∈ mm_ws := (mt_8 49 rfl rfl)
theorem cv_X10_least : mm_V yX10_least cX10_least 5 (some .int) 4 := ⟨(mt_5 141 rfl rfl), (mt_5 139 rfl rfl), (mt_5 140 rfl rfl), (mt_1 1 rfl rfl), by decide, by decide, by decide +kernel⟩
theorem ml_L_120 : Cond.methodLink RL 120 yX10_least ∈ mm_ws := (mt_5 138 rfl rfl)
theorem cv_X11_least : mm_V yX11_least cX11_least 6 (some .int) 4 := ⟨(mt_8 57 rfl rfl), (mt_8 55 rfl rfl), (mt_8 56 rfl rfl), (mt_1 12 rfl rfl), by decide, by decide, by decide +kernel⟩
theorem ml_L_123 : Cond.methodLink RL 123 yX11_least ∈ mm_ws := (mt_8 54 rfl rfl)
theorem cv_X10_send : mm_V yX10_send cX10_send 10 (some .int) 5 := ⟨(mt_5 154 rfl rfl), (mt_5 152 rfl rfl), (mt_5 153 rfl rfl), (mt_1 1 rfl rfl), by decide, by decide, by decide +kernel⟩
theorem ml_L_124 : Cond.methodLink RL 124 yX10_send ∈ mm_ws := (mt_5 151 rfl rfl)
theorem cv_X11_send : mm_V yX11_send cX11_send 9 (some .int) 5 := ⟨(mt_8 65 rfl rfl), (mt_8 63 rfl rfl), (mt_8 64 rfl rfl), (mt_1 12 rfl rfl), by decide, by decide, by decide +kernel⟩
theorem ml_L_127 : Cond.methodLink RL 127 yX11_send ∈ mm_ws := (mt_8 62 rfl rfl)
theorem cv_X10_out : mm_V yX10_out cX10_out 7 (some .int) 3 := ⟨(mt_5 158 rfl rfl), (mt_5 156 rfl rfl), (mt_5 157 rfl rfl), (mt_1 1 rfl rfl), by decide, by decide, by decide +kernel⟩
theorem ml_L_128 : Cond.methodLink RL 128 yX10_out ∈ mm_ws := (mt_5 155 rfl rfl)
theorem cv_X11_out : mm_V yX11_out cX11_out 8 (some .int) 3 := ⟨(mt_8 69 rfl rfl), (mt_8 67 rfl rfl), (mt_8 68 rfl rfl), (mt_1 12 rfl rfl), by decide, by decide, by decide +kernel⟩
theorem ml_L_131 : Cond.methodLink RL 131 yX11_out ∈ mm_ws := (mt_8 66 rfl rfl)
theorem cv_X10_image : mm_V yX10_image cX10_image 2 (some .boolean) 1 := ⟨(mt_5 166 rfl rfl), (mt_5 164 rfl rfl), (mt_5 165 rfl rfl), (mt_1 1 rfl rfl), by decide, by decide, by decide +kernel⟩
theorem ml_L_132 : Cond.methodLink RL 132 yX10_image ∈ mm_ws := (mt_5 163 rfl rfl)
theorem cv_X11_image : mm_V yX11_image cX11_image 3 (some .boolean) 1 := ⟨(mt_8 73 rfl rfl), (mt_8 71 rfl rfl), (mt_8 72 rfl rfl), (mt_1 12 rfl rfl), by decide, by decide, by decide +kernel⟩
theorem ml_L_135 : Cond.methodLink RL 135 yX11_image ∈ mm_ws := (mt_8 70 rfl rfl)
theorem cv_X10_on : mm_V yX10_on cX10_on 2 (some .boolean) 1 := ⟨(mt_5 188 rfl rfl), (mt_5 186 rfl rfl), (mt_5 187 rfl rfl), (mt_1 1 rfl rfl), by decide, by decide, by decide +kernel⟩
theorem ml_L_136 : Cond.methodLink RL 136 yX10_on ∈ mm_ws := (mt_5 185 rfl rfl)
theorem cv_X11_on : mm_V yX11_on cX11_on 3 (some .boolean) 1 := ⟨(mt_8 81 rfl rfl), (mt_8 79 rfl rfl), (mt_8 80 rfl rfl), (mt_1 12 rfl rfl), by decide, by decide, by decide +kernel⟩
theorem ml_L_139 : Cond.methodLink RL 139 yX11_on ∈ mm_ws := (mt_8 78 rfl rfl)
theorem cv_X10_count : mm_V yX10_count cX10_count 2 (some .int) 1 := ⟨(mt_5 192 rfl rfl), (mt_5 190 rfl rfl), (mt_5 191 rfl rfl), (mt_1 1 rfl rfl), by decide, by decide, by decide +kernel⟩
theorem ml_L_140 : Cond.methodLink RL 140 yX10_count ∈ mm_ws := (mt_5 189 rfl rfl)
theorem cv_X11_count : mm_V yX11_count cX11_count 4 (some .int) 1 := ⟨(mt_8 89 rfl rfl), (mt_8 87 rfl rfl), (mt_8 88 rfl rfl), (mt_1 12 rfl rfl), by decide, by decide, by decide +kernel⟩
theorem ml_L_143 : Cond.methodLink RL 143 yX11_count ∈ mm_ws := (mt_8 86 rfl rfl)
theorem mo_0_30 {x : Int} (h0 : ¬ x = 0) (h1 : ¬ x = 1) (h2 : ¬ x = 2) (h3 : ¬ x = 3) (h4 : ¬ x = 4) (h5 : ¬ x = 5) (h6 : ¬ x = 6) (h7 : ¬ x = 7) (h8 : ¬ x = 8) (h9 : ¬ x = 9) (h10 : ¬ x = 10) (h11 : ¬ x = 11) (h12 : ¬ x = 12) (h13 : ¬ x = 13) (h14 : ¬ x = 14) (h15 : ¬ x = 15) (h16 : ¬ x = 16) (h17 : ¬ x = 17) (h18 : ¬ x = 18) (h19 : ¬ x = 19) (h20 : ¬ x = 20) (h21 : ¬ x = 21) (h22 : ¬ x = 22) (h23 : ¬ x = 23) (h24 : ¬ x = 24) (h25 : ¬ x = 25) (h26 : ¬ x = 26) (h27 : ¬ x = 27) (h28 : ¬ x = 28) (h29 : ¬ x = 29) (h30 : ¬ x = 30) : x < 0 ∨ 30 < x := by omega
def R_law : String := "LastServedLaw"
def lw_P (b : Addr) (xs : List Int32) (args : Array Value) (s : State) : Prop := args = #[.ref b] ∧ s.IntsAt b xs ∧ xs.length ≤ 3072 ∧ (Jvm.Cond.and given_1 narrow_1).before args s = true
def lw_Q (_ : Array Value) (s : State) (o : Outcome) (t : State) : Prop := o = .returned (some (.int 1)) ∧ Framed s o t [] 600000 7302250
def lw_Z (below : List Frame) (a : Array Value) (s : State) : State → Prop := fun t => ∃ o, t.status = .running ∧ Ended t below o ∧ lw_Q a s o t
/-- the law's own end, with 1 on the stack, nothing written that was there before, its room as the claim has it -/
theorem lw_ret {p : Program} {l : Launch} {e : Env} {s : State} {m : MethodId} {below : List Frame} {meth : Method} {c : Code} {b : Nat} (hx : p.tables.exec = Jvm.exec) (hb : c.code = code) (hr : meth.sig.returnType = ret) (hlocks : meth.locks = false) {pc : Nat} {H : Heap} {ls : Array Slot} (hdg : decode code pc = .ok (.ireturn, 1)) : W p l e room_1 s m #[Value.ref b] below meth c H [] 600000 7302250 (lw_Z below #[Value.ref b] s) (F0 m pc ls [.int 1]) := by
  intro T hT X
  obtain ⟨fs, hret, hrun, hended, hW, hframe⟩ := X.leave (v := some (.int 1)) (hlocks := hlocks) (fun h => by rw [hr] at h; cases h)
  have hmeth' : T.vm.method? m = some meth := X.method'
  refine ⟨T.setFrames fs, ?_, .returned (some (.int 1)), hrun, hended, rfl, ⟨_, rfl⟩, hW, hframe⟩
  jvm_step X.here [X.here.top, hx, hb, hdg, hmeth', hr, ret, narrow_b1]
  (try refine ⟨rfl, ?_⟩); (try refine ⟨rfl, ?_⟩)
  first | (intro acts; rw [hret _ acts rfl rfl rfl]) | rw [hret _ _ rfl rfl rfl]
  exact Steps.refl _
/-- what holds at the law's entry: the machine, the code, the tables' words (any of lw_tbl by 'hts w (by decide +kernel)'), the script of L ints xs at the cell b, what the Statement gives of the start (any of its parts by flat_of_before) -/
def lw_At (p : Program) (s : State) (m : MethodId) (meth : Method) (c : Code) (b L : Nat) (xs : Nat → Int32) : Prop :=
  p.tables.exec = Jvm.exec ∧ c.code = code ∧ meth.sig.returnType = ret ∧ c.maxLocals = 4 ∧ s.vm.findClass R_law = some m.cls ∧ (∀ w ∈ lw_tbl, w.before #[Value.ref b] s = true) ∧ va_X b L xs s s.heap ∧ b < s.heap.size ∧ meth.locks = false ∧ (Jvm.Cond.and given_1 narrow_1).before #[Value.ref b] s = true
-- ===== YOUR PART BEGINS =====


section
variable {p : Program} {l : Launch} {e : Env} {R : Room} {s : State} {m : MethodId} {args : Array Value} {below : List Frame} {meth : Method} {c : Code} {H : Heap} {locs : List Loc} {cells slots : Nat} {Q : State → Prop} {cc : ByteArray} {nL pc : Nat} {own : String} {ls : Array Slot} {rest st : List Value} {G : mm_G} {A : Nat → Prop} {σ : mm_M}
theorem g_slen (C : mm_C p m c cc nL s args own) (w : mm_Wd G A σ s H locs) {b L : Nat} {xs : Nat → Int32} (hX : va_X b L xs s s.heap) (hbl : b < s.heap.size) (hbA : ¬ A b) (hdg : decode cc pc = .ok (.arraylength, 1)) (kk : W p l e R s m args below meth c H locs cells slots Q (F0 m (pc + 1) ls (.int (mm_I (L : Int)) :: rest))) : W p l e R s m args below meth c H locs cells slots Q (F0 m pc ls (.ref b :: rest)) :=
  va_slen C.1 C.2.1 hX hbl hbA w.2.2.2.2 hdg kk
theorem g_sld (C : mm_C p m c cc nL s args own) (w : mm_Wd G A σ s H locs) {b L : Nat} {xs : Nat → Int32} {x : Int} (hX : va_X b L xs s s.heap) (hbl : b < s.heap.size) (hbA : ¬ A b) (hL : L ≤ 3072) {sx : Int → Int} (hsx : sx = fun j => (xs j.toNat).toInt) (hi : 0 ≤ x ∧ x < L) (hdg : decode cc pc = .ok (.iaload, 1)) (kk : W p l e R s m args below meth c H locs cells slots Q (F0 m (pc + 1) ls (.int (mm_I (sx x)) :: rest))) : W p l e R s m args below meth c H locs cells slots Q (F0 m pc ls (.int (mm_I x) :: .ref b :: rest)) := by
  obtain ⟨g1, g2⟩ := mm_in (x := x) (n := L) (by omega) hi
  refine va_sld C.1 C.2.1 hX hbl hbA w.2.2.2.2 g1 hdg ?_
  rw [g2]
  have k2 : mm_I (sx x) = xs x.toNat := by rw [hsx]; exact mm_I_toInt _
  rw [k2] at kk
  exact kk
theorem law_end {b : Nat} (C : mm_C p m c code nL s #[Value.ref b] own) (w : mm_Wd G (kw_A s.heap.size) σ s H locs) (hr : meth.sig.returnType = ret) (hk : meth.locks = false) (hdg : decode code pc = .ok (.ireturn, 1)) : W p l e room_1 s m #[Value.ref b] below meth c H locs 247 31786 (lw_Z below #[Value.ref b] s) (F0 m pc ls [.int (mm_I 1)]) :=
  va_forget w.2.2.2.2.2.2 (W.widen (k := 600000) (n := 7302250) (Nat.le_of_ble_eq_true rfl) (Nat.le_of_ble_eq_true rfl) (lw_ret C.1 C.2.1 hr hk hdg))
end
theorem ok_0 : mm_ok 0 20 0 := ⟨by decide, by decide +kernel, by decide +kernel⟩
theorem ok_211 : mm_ok 211 21 0 := ⟨by decide, by decide +kernel, by decide +kernel⟩
/-- the law's own loop, in plain numbers: the script's ints sx, L of them -/
def wp_law (sx : Int → Int) (L : Nat) (s0 : mm_M) : Prop :=
  ∀ (L18 : Int → mm_M → Prop), (∀ (v3 : Int) (s1 : mm_M), ((n32 ((L : Int) - 6) < n32 v3 → True) ∧ (¬ n32 ((L : Int) - 6) < n32 v3 → ((0 ≤ v3 ∧ v3 < L) ∧ ((n32 (mm_and (sx v3) 31) = 0 → ((0 ≤ v3 + 1 ∧ v3 + 1 < L) ∧ ((0 ≤ v3 + 2 ∧ v3 + 2 < L) ∧ ((0 ≤ v3 + 3 ∧ v3 + 3 < L) ∧ ((0 ≤ v3 + 4 ∧ v3 + 4 < L) ∧ ((0 ≤ v3 + 5 ∧ v3 + 5 < L) ∧ (wp_X10_feed 0 (sx (v3 + 1)) (sx (v3 + 2)) (sx (v3 + 3)) (sx (v3 + 4)) (sx (v3 + 5)) s1 (fun r_2 s_1 => ((0 ≤ v3 + 1 ∧ v3 + 1 < L) ∧ ((0 ≤ v3 + 2 ∧ v3 + 2 < L) ∧ ((0 ≤ v3 + 3 ∧ v3 + 3 < L) ∧ ((0 ≤ v3 + 4 ∧ v3 + 4 < L) ∧ ((0 ≤ v3 + 5 ∧ v3 + 5 < L) ∧ (wp_X11_feed 211 (sx (v3 + 1)) (sx (v3 + 2)) (sx (v3 + 3)) (sx (v3 + 4)) (sx (v3 + 5)) s_1 (fun r_4 s_3 => ((n32 r_2 = n32 r_4 → (∀ v3_5 : Int, v3_5 = v3 + 6 → L18 v3_5 s_3)) ∧ (¬ n32 r_2 = n32 r_4 → False))))))))))))))))) ∧ (¬ n32 (mm_and (sx v3) 31) = 0 → ((n32 (mm_and (sx v3) 31) = 1 → ((0 ≤ v3 + 1 ∧ v3 + 1 < L) ∧ (wp_X10_end 0 (sx (v3 + 1)) s1 (fun r_7 s_6 => ((0 ≤ v3 + 1 ∧ v3 + 1 < L) ∧ (wp_X11_end 211 (sx (v3 + 1)) s_6 (fun r_9 s_8 => ((n32 r_7 = n32 r_9 → (∀ v3_10 : Int, v3_10 = v3 + 6 → L18 v3_10 s_8)) ∧ (¬ n32 r_7 = n32 r_9 → False))))))))) ∧ (¬ n32 (mm_and (sx v3) 31) = 1 → ((n32 (mm_and (sx v3) 31) = 2 → ((0 ≤ v3 + 1 ∧ v3 + 1 < L) ∧ (wp_X10_fault 0 (sx (v3 + 1)) s1 (fun r_12 s_11 => ((0 ≤ v3 + 1 ∧ v3 + 1 < L) ∧ (wp_X11_fault 211 (sx (v3 + 1)) s_11 (fun r_14 s_13 => ((n32 r_12 = n32 r_14 → (∀ v3_15 : Int, v3_15 = v3 + 6 → L18 v3_15 s_13)) ∧ (¬ n32 r_12 = n32 r_14 → False))))))))) ∧ (¬ n32 (mm_and (sx v3) 31) = 2 → ((n32 (mm_and (sx v3) 31) = 3 → (wp_X10_town 0 s1 (fun r_17 s_16 => (wp_X11_town 211 s_16 (fun r_19 s_18 => ((n32 r_17 = n32 r_19 → (∀ v3_20 : Int, v3_20 = v3 + 6 → L18 v3_20 s_18)) ∧ (¬ n32 r_17 = n32 r_19 → False))))))) ∧ (¬ n32 (mm_and (sx v3) 31) = 3 → ((n32 (mm_and (sx v3) 31) = 4 → (wp_X10_laws 0 s1 (fun r_22 s_21 => (wp_X11_laws 211 s_21 (fun r_24 s_23 => ((n32 r_22 = n32 r_24 → (∀ v3_25 : Int, v3_25 = v3 + 6 → L18 v3_25 s_23)) ∧ (¬ n32 r_22 = n32 r_24 → False))))))) ∧ (¬ n32 (mm_and (sx v3) 31) = 4 → ((n32 (mm_and (sx v3) 31) = 5 → ((0 ≤ v3 + 1 ∧ v3 + 1 < L) ∧ ((0 ≤ v3 + 2 ∧ v3 + 2 < L) ∧ (wp_X10_counter 0 (sx (v3 + 1)) (sx (v3 + 2)) s1 (fun r_27 s_26 => ((0 ≤ v3 + 1 ∧ v3 + 1 < L) ∧ ((0 ≤ v3 + 2 ∧ v3 + 2 < L) ∧ (wp_X11_counter 211 (sx (v3 + 1)) (sx (v3 + 2)) s_26 (fun r_29 s_28 => ((n32 r_27 = n32 r_29 → (∀ v3_30 : Int, v3_30 = v3 + 6 → L18 v3_30 s_28)) ∧ (¬ n32 r_27 = n32 r_29 → False))))))))))) ∧ (¬ n32 (mm_and (sx v3) 31) = 5 → ((n32 (mm_and (sx v3) 31) = 6 → ((0 ≤ v3 + 1 ∧ v3 + 1 < L) ∧ ((0 ≤ v3 + 2 ∧ v3 + 2 < L) ∧ (wp_X10_sort 0 (sx (v3 + 1)) (sx (v3 + 2)) s1 (fun r_32 s_31 => ((0 ≤ v3 + 1 ∧ v3 + 1 < L) ∧ ((0 ≤ v3 + 2 ∧ v3 + 2 < L) ∧ (wp_X11_sort 211 (sx (v3 + 1)) (sx (v3 + 2)) s_31 (fun r_34 s_33 => ((n32 r_32 = n32 r_34 → (∀ v3_35 : Int, v3_35 = v3 + 6 → L18 v3_35 s_33)) ∧ (¬ n32 r_32 = n32 r_34 → False))))))))))) ∧ (¬ n32 (mm_and (sx v3) 31) = 6 → ((n32 (mm_and (sx v3) 31) = 7 → ((0 ≤ v3 + 1 ∧ v3 + 1 < L) ∧ (wp_X10_seed 0 (sx (v3 + 1)) s1 (fun r_37 s_36 => ((0 ≤ v3 + 1 ∧ v3 + 1 < L) ∧ (wp_X11_seed 211 (sx (v3 + 1)) s_36 (fun r_39 s_38 => ((n32 r_37 = n32 r_39 → (∀ v3_40 : Int, v3_40 = v3 + 6 → L18 v3_40 s_38)) ∧ (¬ n32 r_37 = n32 r_39 → False))))))))) ∧ (¬ n32 (mm_and (sx v3) 31) = 7 → ((n32 (mm_and (sx v3) 31) = 8 → ((0 ≤ v3 + 1 ∧ v3 + 1 < L) ∧ ((0 ≤ v3 + 2 ∧ v3 + 2 < L) ∧ (wp_X10_come 0 (sx (v3 + 1)) (sx (v3 + 2)) s1 (fun r_42 s_41 => ((0 ≤ v3 + 1 ∧ v3 + 1 < L) ∧ ((0 ≤ v3 + 2 ∧ v3 + 2 < L) ∧ (wp_X11_come 211 (sx (v3 + 1)) (sx (v3 + 2)) s_41 (fun r_44 s_43 => ((n32 r_42 = n32 r_44 → (∀ v3_45 : Int, v3_45 = v3 + 6 → L18 v3_45 s_43)) ∧ (¬ n32 r_42 = n32 r_44 → False))))))))))) ∧ (¬ n32 (mm_and (sx v3) 31) = 8 → ((n32 (mm_and (sx v3) 31) = 9 → ((0 ≤ v3 + 1 ∧ v3 + 1 < L) ∧ (wp_X10_turn 0 (sx (v3 + 1)) s1 (fun r_47 s_46 => ((0 ≤ v3 + 1 ∧ v3 + 1 < L) ∧ (wp_X11_turn 211 (sx (v3 + 1)) s_46 (fun r_49 s_48 => ((n32 r_47 = n32 r_49 → (∀ v3_50 : Int, v3_50 = v3 + 6 → L18 v3_50 s_48)) ∧ (¬ n32 r_47 = n32 r_49 → False))))))))) ∧ (¬ n32 (mm_and (sx v3) 31) = 9 → ((n32 (mm_and (sx v3) 31) = 10 → ((0 ≤ v3 + 1 ∧ v3 + 1 < L) ∧ (wp_X10_leave 0 (sx (v3 + 1)) s1 (fun r_52 s_51 => ((0 ≤ v3 + 1 ∧ v3 + 1 < L) ∧ (wp_X11_leave 211 (sx (v3 + 1)) s_51 (fun r_54 s_53 => ((n32 r_52 = n32 r_54 → (∀ v3_55 : Int, v3_55 = v3 + 6 → L18 v3_55 s_53)) ∧ (¬ n32 r_52 = n32 r_54 → False))))))))) ∧ (¬ n32 (mm_and (sx v3) 31) = 10 → ((n32 (mm_and (sx v3) 31) = 11 → ((0 ≤ v3 + 1 ∧ v3 + 1 < L) ∧ ((0 ≤ v3 + 2 ∧ v3 + 2 < L) ∧ (wp_X10_person 0 (sx (v3 + 1)) (sx (v3 + 2)) s1 (fun r_57 s_56 => ((0 ≤ v3 + 1 ∧ v3 + 1 < L) ∧ ((0 ≤ v3 + 2 ∧ v3 + 2 < L) ∧ (wp_X11_person 211 (sx (v3 + 1)) (sx (v3 + 2)) s_56 (fun r_59 s_58 => ((n32 r_57 = n32 r_59 → (∀ v3_60 : Int, v3_60 = v3 + 6 → L18 v3_60 s_58)) ∧ (¬ n32 r_57 = n32 r_59 → False))))))))))) ∧ (¬ n32 (mm_and (sx v3) 31) = 11 → ((n32 (mm_and (sx v3) 31) = 12 → ((0 ≤ v3 + 1 ∧ v3 + 1 < L) ∧ ((0 ≤ v3 + 2 ∧ v3 + 2 < L) ∧ (wp_X10_next 0 (sx (v3 + 1)) (sx (v3 + 2)) s1 (fun r_62 s_61 => ((0 ≤ v3 + 1 ∧ v3 + 1 < L) ∧ ((0 ≤ v3 + 2 ∧ v3 + 2 < L) ∧ (wp_X11_next 211 (sx (v3 + 1)) (sx (v3 + 2)) s_61 (fun r_64 s_63 => ((n32 r_62 = n32 r_64 → (∀ v3_65 : Int, v3_65 = v3 + 6 → L18 v3_65 s_63)) ∧ (¬ n32 r_62 = n32 r_64 → False))))))))))) ∧ (¬ n32 (mm_and (sx v3) 31) = 12 → ((n32 (mm_and (sx v3) 31) = 13 → ((0 ≤ v3 + 1 ∧ v3 + 1 < L) ∧ ((0 ≤ v3 + 2 ∧ v3 + 2 < L) ∧ (wp_X10_inside 0 (sx (v3 + 1)) (sx (v3 + 2)) s1 (fun r_67 s_66 => ((0 ≤ v3 + 1 ∧ v3 + 1 < L) ∧ ((0 ≤ v3 + 2 ∧ v3 + 2 < L) ∧ (wp_X11_inside 211 (sx (v3 + 1)) (sx (v3 + 2)) s_66 (fun r_69 s_68 => ((n32 r_67 = n32 r_69 → (∀ v3_70 : Int, v3_70 = v3 + 6 → L18 v3_70 s_68)) ∧ (¬ n32 r_67 = n32 r_69 → False))))))))))) ∧ (¬ n32 (mm_and (sx v3) 31) = 13 → ((n32 (mm_and (sx v3) 31) = 14 → ((0 ≤ v3 + 1 ∧ v3 + 1 < L) ∧ (wp_X10_go 0 (sx (v3 + 1)) s1 (fun r_72 s_71 => ((0 ≤ v3 + 1 ∧ v3 + 1 < L) ∧ (wp_X11_go 211 (sx (v3 + 1)) s_71 (fun r_74 s_73 => ((n32 r_72 = n32 r_74 → (∀ v3_75 : Int, v3_75 = v3 + 6 → L18 v3_75 s_73)) ∧ (¬ n32 r_72 = n32 r_74 → False))))))))) ∧ (¬ n32 (mm_and (sx v3) 31) = 14 → ((n32 (mm_and (sx v3) 31) = 15 → ((0 ≤ v3 + 1 ∧ v3 + 1 < L) ∧ ((0 ≤ v3 + 2 ∧ v3 + 2 < L) ∧ (wp_X10_comer 0 (sx (v3 + 1)) (sx (v3 + 2)) s1 (fun r_77 s_76 => ((0 ≤ v3 + 1 ∧ v3 + 1 < L) ∧ ((0 ≤ v3 + 2 ∧ v3 + 2 < L) ∧ (wp_X11_comer 211 (sx (v3 + 1)) (sx (v3 + 2)) s_76 (fun r_79 s_78 => ((n32 r_77 = n32 r_79 → (∀ v3_80 : Int, v3_80 = v3 + 6 → L18 v3_80 s_78)) ∧ (¬ n32 r_77 = n32 r_79 → False))))))))))) ∧ (¬ n32 (mm_and (sx v3) 31) = 15 → ((n32 (mm_and (sx v3) 31) = 16 → (wp_X10_clear 0 s1 (fun r_82 s_81 => (wp_X11_clear 211 s_81 (fun r_84 s_83 => ((n32 r_82 = n32 r_84 → (∀ v3_85 : Int, v3_85 = v3 + 6 → L18 v3_85 s_83)) ∧ (¬ n32 r_82 = n32 r_84 → False))))))) ∧ (¬ n32 (mm_and (sx v3) 31) = 16 → ((n32 (mm_and (sx v3) 31) = 17 → ((0 ≤ v3 + 1 ∧ v3 + 1 < L) ∧ ((0 ≤ v3 + 2 ∧ v3 + 2 < L) ∧ ((0 ≤ v3 + 3 ∧ v3 + 3 < L) ∧ (wp_X10_waits 0 (sx (v3 + 1)) (sx (v3 + 2)) (sx (v3 + 3)) s1 (fun r_87 s_86 => ((0 ≤ v3 + 1 ∧ v3 + 1 < L) ∧ ((0 ≤ v3 + 2 ∧ v3 + 2 < L) ∧ ((0 ≤ v3 + 3 ∧ v3 + 3 < L) ∧ (wp_X11_waits 211 (sx (v3 + 1)) (sx (v3 + 2)) (sx (v3 + 3)) s_86 (fun r_89 s_88 => ((n32 r_87 = n32 r_89 → (∀ v3_90 : Int, v3_90 = v3 + 6 → L18 v3_90 s_88)) ∧ (¬ n32 r_87 = n32 r_89 → False))))))))))))) ∧ (¬ n32 (mm_and (sx v3) 31) = 17 → ((n32 (mm_and (sx v3) 31) = 18 → (wp_X10_lot 0 s1 (fun r_92 s_91 => (wp_X11_lot 211 s_91 (fun r_94 s_93 => ((n32 r_92 = n32 r_94 → (∀ v3_95 : Int, v3_95 = v3 + 6 → L18 v3_95 s_93)) ∧ (¬ n32 r_92 = n32 r_94 → False))))))) ∧ (¬ n32 (mm_and (sx v3) 31) = 18 → ((n32 (mm_and (sx v3) 31) = 19 → (wp_X10_best 0 s1 (fun r_97 s_96 => (wp_X11_best 211 s_96 (fun r_99 s_98 => ((n32 r_97 = n32 r_99 → (∀ v3_100 : Int, v3_100 = v3 + 6 → L18 v3_100 s_98)) ∧ (¬ n32 r_97 = n32 r_99 → False))))))) ∧ (¬ n32 (mm_and (sx v3) 31) = 19 → ((n32 (mm_and (sx v3) 31) = 20 → ((0 ≤ v3 + 1 ∧ v3 + 1 < L) ∧ ((0 ≤ v3 + 2 ∧ v3 + 2 < L) ∧ (wp_X10_book 0 (sx (v3 + 1)) (sx (v3 + 2)) s1 (fun r_102 s_101 => ((0 ≤ v3 + 1 ∧ v3 + 1 < L) ∧ ((0 ≤ v3 + 2 ∧ v3 + 2 < L) ∧ (wp_X11_book 211 (sx (v3 + 1)) (sx (v3 + 2)) s_101 (fun r_104 s_103 => ((n32 r_102 = n32 r_104 → (∀ v3_105 : Int, v3_105 = v3 + 6 → L18 v3_105 s_103)) ∧ (¬ n32 r_102 = n32 r_104 → False))))))))))) ∧ (¬ n32 (mm_and (sx v3) 31) = 20 → ((n32 (mm_and (sx v3) 31) = 21 → ((0 ≤ v3 + 1 ∧ v3 + 1 < L) ∧ ((0 ≤ v3 + 2 ∧ v3 + 2 < L) ∧ (wp_X10_judge 0 (sx (v3 + 1)) (sx (v3 + 2)) s1 (fun r_107 s_106 => ((0 ≤ v3 + 1 ∧ v3 + 1 < L) ∧ ((0 ≤ v3 + 2 ∧ v3 + 2 < L) ∧ (wp_X11_judge 211 (sx (v3 + 1)) (sx (v3 + 2)) s_106 (fun r_109 s_108 => ((n32 r_107 = n32 r_109 → (∀ v3_110 : Int, v3_110 = v3 + 6 → L18 v3_110 s_108)) ∧ (¬ n32 r_107 = n32 r_109 → False))))))))))) ∧ (¬ n32 (mm_and (sx v3) 31) = 21 → ((n32 (mm_and (sx v3) 31) = 22 → ((0 ≤ v3 + 1 ∧ v3 + 1 < L) ∧ ((0 ≤ v3 + 2 ∧ v3 + 2 < L) ∧ ((0 ≤ v3 + 3 ∧ v3 + 3 < L) ∧ ((0 ≤ v3 + 4 ∧ v3 + 4 < L) ∧ ((0 ≤ v3 + 5 ∧ v3 + 5 < L) ∧ (wp_X10_value 0 (sx (v3 + 1)) (sx (v3 + 2)) (sx (v3 + 3)) (sx (v3 + 4)) (sx (v3 + 5)) s1 (fun r_112 s_111 => ((0 ≤ v3 + 1 ∧ v3 + 1 < L) ∧ ((0 ≤ v3 + 2 ∧ v3 + 2 < L) ∧ ((0 ≤ v3 + 3 ∧ v3 + 3 < L) ∧ ((0 ≤ v3 + 4 ∧ v3 + 4 < L) ∧ ((0 ≤ v3 + 5 ∧ v3 + 5 < L) ∧ (wp_X11_value 211 (sx (v3 + 1)) (sx (v3 + 2)) (sx (v3 + 3)) (sx (v3 + 4)) (sx (v3 + 5)) s_111 (fun r_114 s_113 => ((n32 r_112 = n32 r_114 → (∀ v3_115 : Int, v3_115 = v3 + 6 → L18 v3_115 s_113)) ∧ (¬ n32 r_112 = n32 r_114 → False))))))))))))))))) ∧ (¬ n32 (mm_and (sx v3) 31) = 22 → ((n32 (mm_and (sx v3) 31) = 23 → ((0 ≤ v3 + 1 ∧ v3 + 1 < L) ∧ ((0 ≤ v3 + 2 ∧ v3 + 2 < L) ∧ ((0 ≤ v3 + 3 ∧ v3 + 3 < L) ∧ ((0 ≤ v3 + 4 ∧ v3 + 4 < L) ∧ (wp_X10_entering 0 (sx (v3 + 1)) (sx (v3 + 2)) (sx (v3 + 3)) (sx (v3 + 4)) s1 (fun r_117 s_116 => ((0 ≤ v3 + 1 ∧ v3 + 1 < L) ∧ ((0 ≤ v3 + 2 ∧ v3 + 2 < L) ∧ ((0 ≤ v3 + 3 ∧ v3 + 3 < L) ∧ ((0 ≤ v3 + 4 ∧ v3 + 4 < L) ∧ (wp_X11_entering 211 (sx (v3 + 1)) (sx (v3 + 2)) (sx (v3 + 3)) (sx (v3 + 4)) s_116 (fun r_119 s_118 => ((n32 r_117 = n32 r_119 → (∀ v3_120 : Int, v3_120 = v3 + 6 → L18 v3_120 s_118)) ∧ (¬ n32 r_117 = n32 r_119 → False))))))))))))))) ∧ (¬ n32 (mm_and (sx v3) 31) = 23 → ((n32 (mm_and (sx v3) 31) = 24 → ((0 ≤ v3 + 1 ∧ v3 + 1 < L) ∧ ((0 ≤ v3 + 2 ∧ v3 + 2 < L) ∧ ((0 ≤ v3 + 3 ∧ v3 + 3 < L) ∧ ((0 ≤ v3 + 4 ∧ v3 + 4 < L) ∧ ((0 ≤ v3 + 5 ∧ v3 + 5 < L) ∧ (wp_X10_when 0 (sx (v3 + 1)) (sx (v3 + 2)) (sx (v3 + 3)) (sx (v3 + 4)) (sx (v3 + 5)) s1 (fun r_122 s_121 => ((0 ≤ v3 + 1 ∧ v3 + 1 < L) ∧ ((0 ≤ v3 + 2 ∧ v3 + 2 < L) ∧ ((0 ≤ v3 + 3 ∧ v3 + 3 < L) ∧ ((0 ≤ v3 + 4 ∧ v3 + 4 < L) ∧ ((0 ≤ v3 + 5 ∧ v3 + 5 < L) ∧ (wp_X11_when 211 (sx (v3 + 1)) (sx (v3 + 2)) (sx (v3 + 3)) (sx (v3 + 4)) (sx (v3 + 5)) s_121 (fun r_124 s_123 => ((n32 r_122 = n32 r_124 → (∀ v3_125 : Int, v3_125 = v3 + 6 → L18 v3_125 s_123)) ∧ (¬ n32 r_122 = n32 r_124 → False))))))))))))))))) ∧ (¬ n32 (mm_and (sx v3) 31) = 24 → ((n32 (mm_and (sx v3) 31) = 25 → ((0 ≤ v3 + 1 ∧ v3 + 1 < L) ∧ ((0 ≤ v3 + 2 ∧ v3 + 2 < L) ∧ ((0 ≤ v3 + 3 ∧ v3 + 3 < L) ∧ ((0 ≤ v3 + 4 ∧ v3 + 4 < L) ∧ (wp_X10_least 0 (sx (v3 + 1)) (sx (v3 + 2)) (sx (v3 + 3)) (sx (v3 + 4)) s1 (fun r_127 s_126 => ((0 ≤ v3 + 1 ∧ v3 + 1 < L) ∧ ((0 ≤ v3 + 2 ∧ v3 + 2 < L) ∧ ((0 ≤ v3 + 3 ∧ v3 + 3 < L) ∧ ((0 ≤ v3 + 4 ∧ v3 + 4 < L) ∧ (wp_X11_least 211 (sx (v3 + 1)) (sx (v3 + 2)) (sx (v3 + 3)) (sx (v3 + 4)) s_126 (fun r_129 s_128 => ((n32 r_127 = n32 r_129 → (∀ v3_130 : Int, v3_130 = v3 + 6 → L18 v3_130 s_128)) ∧ (¬ n32 r_127 = n32 r_129 → False))))))))))))))) ∧ (¬ n32 (mm_and (sx v3) 31) = 25 → ((n32 (mm_and (sx v3) 31) = 26 → ((0 ≤ v3 + 1 ∧ v3 + 1 < L) ∧ ((0 ≤ v3 + 2 ∧ v3 + 2 < L) ∧ ((0 ≤ v3 + 3 ∧ v3 + 3 < L) ∧ ((0 ≤ v3 + 4 ∧ v3 + 4 < L) ∧ ((0 ≤ v3 + 5 ∧ v3 + 5 < L) ∧ (wp_X10_send 0 (sx (v3 + 1)) (sx (v3 + 2)) (sx (v3 + 3)) (sx (v3 + 4)) (sx (v3 + 5)) s1 (fun r_132 s_131 => ((0 ≤ v3 + 1 ∧ v3 + 1 < L) ∧ ((0 ≤ v3 + 2 ∧ v3 + 2 < L) ∧ ((0 ≤ v3 + 3 ∧ v3 + 3 < L) ∧ ((0 ≤ v3 + 4 ∧ v3 + 4 < L) ∧ ((0 ≤ v3 + 5 ∧ v3 + 5 < L) ∧ (wp_X11_send 211 (sx (v3 + 1)) (sx (v3 + 2)) (sx (v3 + 3)) (sx (v3 + 4)) (sx (v3 + 5)) s_131 (fun r_134 s_133 => ((n32 r_132 = n32 r_134 → (∀ v3_135 : Int, v3_135 = v3 + 6 → L18 v3_135 s_133)) ∧ (¬ n32 r_132 = n32 r_134 → False))))))))))))))))) ∧ (¬ n32 (mm_and (sx v3) 31) = 26 → ((n32 (mm_and (sx v3) 31) = 27 → ((0 ≤ v3 + 1 ∧ v3 + 1 < L) ∧ ((0 ≤ v3 + 2 ∧ v3 + 2 < L) ∧ ((0 ≤ v3 + 3 ∧ v3 + 3 < L) ∧ (wp_X10_out 0 (sx (v3 + 1)) (sx (v3 + 2)) (sx (v3 + 3)) s1 (fun r_137 s_136 => ((0 ≤ v3 + 1 ∧ v3 + 1 < L) ∧ ((0 ≤ v3 + 2 ∧ v3 + 2 < L) ∧ ((0 ≤ v3 + 3 ∧ v3 + 3 < L) ∧ (wp_X11_out 211 (sx (v3 + 1)) (sx (v3 + 2)) (sx (v3 + 3)) s_136 (fun r_139 s_138 => ((n32 r_137 = n32 r_139 → (∀ v3_140 : Int, v3_140 = v3 + 6 → L18 v3_140 s_138)) ∧ (¬ n32 r_137 = n32 r_139 → False))))))))))))) ∧ (¬ n32 (mm_and (sx v3) 31) = 27 → ((n32 (mm_and (sx v3) 31) = 28 → ((0 ≤ v3 + 1 ∧ v3 + 1 < L) ∧ (wp_X10_image 0 (sx (v3 + 1)) s1 (fun r_142 s_141 => ((0 ≤ v3 + 1 ∧ v3 + 1 < L) ∧ (wp_X11_image 211 (sx (v3 + 1)) s_141 (fun r_144 s_143 => ((n32 r_142 = n32 r_144 → (∀ v3_145 : Int, v3_145 = v3 + 6 → L18 v3_145 s_143)) ∧ (¬ n32 r_142 = n32 r_144 → False))))))))) ∧ (¬ n32 (mm_and (sx v3) 31) = 28 → ((n32 (mm_and (sx v3) 31) = 29 → ((0 ≤ v3 + 1 ∧ v3 + 1 < L) ∧ (wp_X10_on 0 (sx (v3 + 1)) s1 (fun r_147 s_146 => ((0 ≤ v3 + 1 ∧ v3 + 1 < L) ∧ (wp_X11_on 211 (sx (v3 + 1)) s_146 (fun r_149 s_148 => ((n32 r_147 = n32 r_149 → (∀ v3_150 : Int, v3_150 = v3 + 6 → L18 v3_150 s_148)) ∧ (¬ n32 r_147 = n32 r_149 → False))))))))) ∧ (¬ n32 (mm_and (sx v3) 31) = 29 → ((n32 (mm_and (sx v3) 31) = 30 → ((0 ≤ v3 + 1 ∧ v3 + 1 < L) ∧ (wp_X10_count 0 (sx (v3 + 1)) s1 (fun r_152 s_151 => ((0 ≤ v3 + 1 ∧ v3 + 1 < L) ∧ (wp_X11_count 211 (sx (v3 + 1)) s_151 (fun r_154 s_153 => ((n32 r_152 = n32 r_154 → (∀ v3_155 : Int, v3_155 = v3 + 6 → L18 v3_155 s_153)) ∧ (¬ n32 r_152 = n32 r_154 → False))))))))) ∧ (¬ n32 (mm_and (sx v3) 31) = 30 → (∀ v3_156 : Int, v3_156 = v3 + 6 → L18 v3_156 s1)))))))))))))))))))))))))))))))))))))))))))))))))))))))))))))))))) → L18 v3 s1) → L18 0 s0
def law_X (p : Program) (l : Launch) (e : Env) (s : State) (m : MethodId) (b : Nat) (below : List Frame) (meth : Method) (c : Code) (G : mm_G) (v3 : Int) (u : mm_M) : Prop :=
  ∀ (H : Heap) (locs : List Loc) (ls : Array Slot), mm_Wd G (kw_A s.heap.size) u s H locs → lv_has ls 4 [(0, .ref b), (1, .ref (mm_ad G 0)), (2, .ref (mm_ad G 211)), (3, .int (mm_I v3))] → W p l e room_1 s m #[Value.ref b] below meth c H locs 247 31786 (lw_Z below #[Value.ref b] s) (F0 m 18 ls [])
set_option maxRecDepth 100000 in
set_option maxHeartbeats 40000000 in
theorem law_loop {p : Program} {l : Launch} {e : Env} {s : State} {m : MethodId} {below : List Frame} {meth : Method} {c : Code} {b L : Nat} {xs : Nat → Int32} {G : mm_G} {u : mm_M} (hL : L ≤ 3072) (C : mm_C p m c code 4 s #[Value.ref b] RL) (hr : meth.sig.returnType = ret) (hk : meth.locks = false) (hX : va_X b L xs s s.heap) (hbl : b < s.heap.size) {sx : Int → Int} (hsx : sx = fun j => (xs j.toNat).toInt) (hw : wp_law sx L u) : law_X p l e s m b below meth c G 0 u := by
  have hbA : ¬ kw_A s.heap.size b := Nat.not_le.mpr hbl
  refine hw (fun v3 u => law_X p l e s m b below meth c G v3 u) ?_
  intro v3 s1 hw H locs ls w hl
  refine lv_iload_n (pc := 18) C.1 C.2.1 dL_law_18 rfl (lv_at hl 3 rfl) ?_
  refine lv_aload_n (pc := 19) C.1 C.2.1 dL_law_19 rfl (lv_at hl 0 rfl) ?_
  refine g_slen (pc := 20) C w hX hbl hbA dL_law_20 ?_
  refine lv_bipush (pc := 21) C.1 C.2.1 dL_law_21 mb_6 ?_
  refine g_isub (pc := 23) C dL_law_23 ?_
  refine g_icmp_gt (pc := 24) (tgt := 1191) C rfl rfl dL_law_24 (by decide) (fun hc => ?_) (fun hc => ?_)
  · have hw := hw.1 hc
    refine lv_iconst (pc := 1191) (v := mm_I 1) C.1 C.2.1 dL_law_1191 rfl ?_
    exact law_end (pc := 1192) C w hr hk dL_law_1192
  · have hw := hw.2 hc
    refine lv_aload_n (pc := 27) C.1 C.2.1 dL_law_27 rfl (lv_at hl 0 rfl) ?_
    refine lv_iload_n (pc := 28) C.1 C.2.1 dL_law_28 rfl (lv_at hl 3 rfl) ?_
    obtain ⟨hi, hw⟩ := hw
    refine g_sld (pc := 29) C w hX hbl hbA hL hsx hi dL_law_29 ?_
    refine lv_bipush (pc := 30) C.1 C.2.1 dL_law_30 mb_31 ?_
    refine g_iand (pc := 32) C dL_law_32 ?_
    by_cases hc0 : n32 (mm_and (sx v3) 31) = 0
    · have hw := hw.1 hc0
      refine lv_tableIn (pc := 33) (tgt := 172) C.1 C.2.1 dL_law_33 (by rw [show (mm_I (mm_and (sx v3) 31)).toInt = 0 from hc0]; decide) (by rw [show (mm_I (mm_and (sx v3) 31)).toInt = 0 from hc0]; decide) (by rw [show (mm_I (mm_and (sx v3) 31)).toInt = 0 from hc0]; first | done | rfl) (by decide) ?_
      refine lv_aload_n (pc := 172) C.1 C.2.1 dL_law_172 rfl (lv_at hl 1 rfl) ?_
      refine lv_aload_n (pc := 173) C.1 C.2.1 dL_law_173 rfl (lv_at hl 0 rfl) ?_
      refine lv_iload_n (pc := 174) C.1 C.2.1 dL_law_174 rfl (lv_at hl 3 rfl) ?_
      refine lv_iconst (pc := 175) (v := mm_I 1) C.1 C.2.1 dL_law_175 rfl ?_
      refine g_iadd (pc := 176) C dL_law_176 ?_
      obtain ⟨hi, hw⟩ := hw
      refine g_sld (pc := 177) C w hX hbl hbA hL hsx hi dL_law_177 ?_
      refine lv_aload_n (pc := 178) C.1 C.2.1 dL_law_178 rfl (lv_at hl 0 rfl) ?_
      refine lv_iload_n (pc := 179) C.1 C.2.1 dL_law_179 rfl (lv_at hl 3 rfl) ?_
      refine lv_iconst (pc := 180) (v := mm_I 2) C.1 C.2.1 dL_law_180 rfl ?_
      refine g_iadd (pc := 181) C dL_law_181 ?_
      obtain ⟨hi, hw⟩ := hw
      refine g_sld (pc := 182) C w hX hbl hbA hL hsx hi dL_law_182 ?_
      refine lv_aload_n (pc := 183) C.1 C.2.1 dL_law_183 rfl (lv_at hl 0 rfl) ?_
      refine lv_iload_n (pc := 184) C.1 C.2.1 dL_law_184 rfl (lv_at hl 3 rfl) ?_
      refine lv_iconst (pc := 185) (v := mm_I 3) C.1 C.2.1 dL_law_185 rfl ?_
      refine g_iadd (pc := 186) C dL_law_186 ?_
      obtain ⟨hi, hw⟩ := hw
      refine g_sld (pc := 187) C w hX hbl hbA hL hsx hi dL_law_187 ?_
      refine lv_aload_n (pc := 188) C.1 C.2.1 dL_law_188 rfl (lv_at hl 0 rfl) ?_
      refine lv_iload_n (pc := 189) C.1 C.2.1 dL_law_189 rfl (lv_at hl 3 rfl) ?_
      refine lv_iconst (pc := 190) (v := mm_I 4) C.1 C.2.1 dL_law_190 rfl ?_
      refine g_iadd (pc := 191) C dL_law_191 ?_
      obtain ⟨hi, hw⟩ := hw
      refine g_sld (pc := 192) C w hX hbl hbA hL hsx hi dL_law_192 ?_
      refine lv_aload_n (pc := 193) C.1 C.2.1 dL_law_193 rfl (lv_at hl 0 rfl) ?_
      refine lv_iload_n (pc := 194) C.1 C.2.1 dL_law_194 rfl (lv_at hl 3 rfl) ?_
      refine lv_iconst (pc := 195) (v := mm_I 5) C.1 C.2.1 dL_law_195 rfl ?_
      refine g_iadd (pc := 196) C dL_law_196 ?_
      obtain ⟨hi, hw⟩ := hw
      refine g_sld (pc := 197) C w hX hbl hbA hL hsx hi dL_law_197 ?_
      refine g_calli (pc := 198) w (mm_runV (ci := 10) (q := (RX10, TX10, 10)) (As := [.int (mm_I (sx (v3 + 1))), .int (mm_I (sx (v3 + 2))), .int (mm_I (sx (v3 + 3))), .int (mm_I (sx (v3 + 4))), .int (mm_I (sx (v3 + 5)))]) (rest := []) C w (c_X10_feed l G 0 (sx (v3 + 1)) (sx (v3 + 2)) (sx (v3 + 3)) (sx (v3 + 4)) (sx (v3 + 5)) ok_0 s1 _ hw) ok_0 rfl rfl cv_X10_feed ml_L_13 ⟨Nat.le_of_ble_eq_true rfl, Nat.le_of_ble_eq_true rfl⟩ ⟨Nat.le_of_ble_eq_true rfl, Nat.le_of_ble_eq_true rfl⟩ rfl hl.1 rfl (Nat.le_of_ble_eq_true rfl) dL_law_198) (fun r_2 s_1 H locs hw w => ?_)
      refine lv_aload_n (pc := 201) C.1 C.2.1 dL_law_201 rfl (lv_at hl 2 rfl) ?_
      refine lv_aload_n (pc := 202) C.1 C.2.1 dL_law_202 rfl (lv_at hl 0 rfl) ?_
      refine lv_iload_n (pc := 203) C.1 C.2.1 dL_law_203 rfl (lv_at hl 3 rfl) ?_
      refine lv_iconst (pc := 204) (v := mm_I 1) C.1 C.2.1 dL_law_204 rfl ?_
      refine g_iadd (pc := 205) C dL_law_205 ?_
      obtain ⟨hi, hw⟩ := hw
      refine g_sld (pc := 206) C w hX hbl hbA hL hsx hi dL_law_206 ?_
      refine lv_aload_n (pc := 207) C.1 C.2.1 dL_law_207 rfl (lv_at hl 0 rfl) ?_
      refine lv_iload_n (pc := 208) C.1 C.2.1 dL_law_208 rfl (lv_at hl 3 rfl) ?_
      refine lv_iconst (pc := 209) (v := mm_I 2) C.1 C.2.1 dL_law_209 rfl ?_
      refine g_iadd (pc := 210) C dL_law_210 ?_
      obtain ⟨hi, hw⟩ := hw
      refine g_sld (pc := 211) C w hX hbl hbA hL hsx hi dL_law_211 ?_
      refine lv_aload_n (pc := 212) C.1 C.2.1 dL_law_212 rfl (lv_at hl 0 rfl) ?_
      refine lv_iload_n (pc := 213) C.1 C.2.1 dL_law_213 rfl (lv_at hl 3 rfl) ?_
      refine lv_iconst (pc := 214) (v := mm_I 3) C.1 C.2.1 dL_law_214 rfl ?_
      refine g_iadd (pc := 215) C dL_law_215 ?_
      obtain ⟨hi, hw⟩ := hw
      refine g_sld (pc := 216) C w hX hbl hbA hL hsx hi dL_law_216 ?_
      refine lv_aload_n (pc := 217) C.1 C.2.1 dL_law_217 rfl (lv_at hl 0 rfl) ?_
      refine lv_iload_n (pc := 218) C.1 C.2.1 dL_law_218 rfl (lv_at hl 3 rfl) ?_
      refine lv_iconst (pc := 219) (v := mm_I 4) C.1 C.2.1 dL_law_219 rfl ?_
      refine g_iadd (pc := 220) C dL_law_220 ?_
      obtain ⟨hi, hw⟩ := hw
      refine g_sld (pc := 221) C w hX hbl hbA hL hsx hi dL_law_221 ?_
      refine lv_aload_n (pc := 222) C.1 C.2.1 dL_law_222 rfl (lv_at hl 0 rfl) ?_
      refine lv_iload_n (pc := 223) C.1 C.2.1 dL_law_223 rfl (lv_at hl 3 rfl) ?_
      refine lv_iconst (pc := 224) (v := mm_I 5) C.1 C.2.1 dL_law_224 rfl ?_
      refine g_iadd (pc := 225) C dL_law_225 ?_
      obtain ⟨hi, hw⟩ := hw
      refine g_sld (pc := 226) C w hX hbl hbA hL hsx hi dL_law_226 ?_
      refine g_calli (pc := 227) w (mm_runV (ci := 11) (q := (RX11, TX11, 65)) (As := [.int (mm_I (sx (v3 + 1))), .int (mm_I (sx (v3 + 2))), .int (mm_I (sx (v3 + 3))), .int (mm_I (sx (v3 + 4))), .int (mm_I (sx (v3 + 5)))]) (rest := [.int (mm_I r_2)]) C w (c_X11_feed l G 211 (sx (v3 + 1)) (sx (v3 + 2)) (sx (v3 + 3)) (sx (v3 + 4)) (sx (v3 + 5)) ok_211 s_1 _ hw) ok_211 rfl rfl cv_X11_feed ml_L_17 ⟨Nat.le_of_ble_eq_true rfl, Nat.le_of_ble_eq_true rfl⟩ ⟨Nat.le_of_ble_eq_true rfl, Nat.le_of_ble_eq_true rfl⟩ rfl hl.1 rfl (Nat.le_of_ble_eq_true rfl) dL_law_227) (fun r_4 s_3 H locs hw w => ?_)
      refine g_icmp_eq (pc := 230) (tgt := 1185) C rfl rfl dL_law_230 (by decide) (fun hc => ?_) (fun hc => ?_)
      · have hw := hw.1 hc
        refine g_iinc (pc := 1185) (k := 3) C dL_law_1185 hl rfl (by decide) (fun v3_5 ev3_5 ls hl => ?_)
        have hw := hw v3_5 ev3_5
        have hl : lv_has ls 4 [(3, .int (mm_I v3_5)), (0, .ref b), (1, .ref (mm_ad G 0)), (2, .ref (mm_ad G 211))] := hl
        refine lv_goto (pc := 1188) (tgt := 18) C.1 C.2.1 dL_law_1188 (by decide) ?_
        exact hw  _ _ _ w (lv_sub hl [1, 2, 3, 0] rfl)
      · have hw := hw.2 hc
        refine lv_iconst (pc := 233) (v := mm_I 0) C.1 C.2.1 dL_law_233 rfl ?_
        exact hw.elim
    have hw := hw.2 hc0
    by_cases hc1 : n32 (mm_and (sx v3) 31) = 1
    · have hw := hw.1 hc1
      refine lv_tableIn (pc := 33) (tgt := 235) C.1 C.2.1 dL_law_33 (by rw [show (mm_I (mm_and (sx v3) 31)).toInt = 1 from hc1]; decide) (by rw [show (mm_I (mm_and (sx v3) 31)).toInt = 1 from hc1]; decide) (by rw [show (mm_I (mm_and (sx v3) 31)).toInt = 1 from hc1]; first | done | rfl) (by decide) ?_
      refine lv_aload_n (pc := 235) C.1 C.2.1 dL_law_235 rfl (lv_at hl 1 rfl) ?_
      refine lv_aload_n (pc := 236) C.1 C.2.1 dL_law_236 rfl (lv_at hl 0 rfl) ?_
      refine lv_iload_n (pc := 237) C.1 C.2.1 dL_law_237 rfl (lv_at hl 3 rfl) ?_
      refine lv_iconst (pc := 238) (v := mm_I 1) C.1 C.2.1 dL_law_238 rfl ?_
      refine g_iadd (pc := 239) C dL_law_239 ?_
      obtain ⟨hi, hw⟩ := hw
      refine g_sld (pc := 240) C w hX hbl hbA hL hsx hi dL_law_240 ?_
      refine g_calli (pc := 241) w (mm_runV (ci := 10) (q := (RX10, TX10, 10)) (As := [.int (mm_I (sx (v3 + 1)))]) (rest := []) C w (c_X10_end l G 0 (sx (v3 + 1)) ok_0 s1 _ hw) ok_0 rfl rfl cv_X10_end ml_L_18 ⟨Nat.le_of_ble_eq_true rfl, Nat.le_of_ble_eq_true rfl⟩ ⟨Nat.le_of_ble_eq_true rfl, Nat.le_of_ble_eq_true rfl⟩ rfl hl.1 rfl (Nat.le_of_ble_eq_true rfl) dL_law_241) (fun r_7 s_6 H locs hw w => ?_)
      refine lv_aload_n (pc := 244) C.1 C.2.1 dL_law_244 rfl (lv_at hl 2 rfl) ?_
      refine lv_aload_n (pc := 245) C.1 C.2.1 dL_law_245 rfl (lv_at hl 0 rfl) ?_
      refine lv_iload_n (pc := 246) C.1 C.2.1 dL_law_246 rfl (lv_at hl 3 rfl) ?_
      refine lv_iconst (pc := 247) (v := mm_I 1) C.1 C.2.1 dL_law_247 rfl ?_
      refine g_iadd (pc := 248) C dL_law_248 ?_
      obtain ⟨hi, hw⟩ := hw
      refine g_sld (pc := 249) C w hX hbl hbA hL hsx hi dL_law_249 ?_
      refine g_calli (pc := 250) w (mm_runV (ci := 11) (q := (RX11, TX11, 65)) (As := [.int (mm_I (sx (v3 + 1)))]) (rest := [.int (mm_I r_7)]) C w (c_X11_end l G 211 (sx (v3 + 1)) ok_211 s_6 _ hw) ok_211 rfl rfl cv_X11_end ml_L_22 ⟨Nat.le_of_ble_eq_true rfl, Nat.le_of_ble_eq_true rfl⟩ ⟨Nat.le_of_ble_eq_true rfl, Nat.le_of_ble_eq_true rfl⟩ rfl hl.1 rfl (Nat.le_of_ble_eq_true rfl) dL_law_250) (fun r_9 s_8 H locs hw w => ?_)
      refine g_icmp_eq (pc := 253) (tgt := 1185) C rfl rfl dL_law_253 (by decide) (fun hc => ?_) (fun hc => ?_)
      · have hw := hw.1 hc
        refine g_iinc (pc := 1185) (k := 3) C dL_law_1185 hl rfl (by decide) (fun v3_10 ev3_10 ls hl => ?_)
        have hw := hw v3_10 ev3_10
        have hl : lv_has ls 4 [(3, .int (mm_I v3_10)), (0, .ref b), (1, .ref (mm_ad G 0)), (2, .ref (mm_ad G 211))] := hl
        refine lv_goto (pc := 1188) (tgt := 18) C.1 C.2.1 dL_law_1188 (by decide) ?_
        exact hw  _ _ _ w (lv_sub hl [1, 2, 3, 0] rfl)
      · have hw := hw.2 hc
        refine lv_iconst (pc := 256) (v := mm_I 0) C.1 C.2.1 dL_law_256 rfl ?_
        exact hw.elim
    have hw := hw.2 hc1
    by_cases hc2 : n32 (mm_and (sx v3) 31) = 2
    · have hw := hw.1 hc2
      refine lv_tableIn (pc := 33) (tgt := 258) C.1 C.2.1 dL_law_33 (by rw [show (mm_I (mm_and (sx v3) 31)).toInt = 2 from hc2]; decide) (by rw [show (mm_I (mm_and (sx v3) 31)).toInt = 2 from hc2]; decide) (by rw [show (mm_I (mm_and (sx v3) 31)).toInt = 2 from hc2]; first | done | rfl) (by decide) ?_
      refine lv_aload_n (pc := 258) C.1 C.2.1 dL_law_258 rfl (lv_at hl 1 rfl) ?_
      refine lv_aload_n (pc := 259) C.1 C.2.1 dL_law_259 rfl (lv_at hl 0 rfl) ?_
      refine lv_iload_n (pc := 260) C.1 C.2.1 dL_law_260 rfl (lv_at hl 3 rfl) ?_
      refine lv_iconst (pc := 261) (v := mm_I 1) C.1 C.2.1 dL_law_261 rfl ?_
      refine g_iadd (pc := 262) C dL_law_262 ?_
      obtain ⟨hi, hw⟩ := hw
      refine g_sld (pc := 263) C w hX hbl hbA hL hsx hi dL_law_263 ?_
      refine g_calli (pc := 264) w (mm_runV (ci := 10) (q := (RX10, TX10, 10)) (As := [.int (mm_I (sx (v3 + 1)))]) (rest := []) C w (c_X10_fault l G 0 (sx (v3 + 1)) ok_0 s1 _ hw) ok_0 rfl rfl cv_X10_fault ml_L_23 ⟨Nat.le_of_ble_eq_true rfl, Nat.le_of_ble_eq_true rfl⟩ ⟨Nat.le_of_ble_eq_true rfl, Nat.le_of_ble_eq_true rfl⟩ rfl hl.1 rfl (Nat.le_of_ble_eq_true rfl) dL_law_264) (fun r_12 s_11 H locs hw w => ?_)
      refine lv_aload_n (pc := 267) C.1 C.2.1 dL_law_267 rfl (lv_at hl 2 rfl) ?_
      refine lv_aload_n (pc := 268) C.1 C.2.1 dL_law_268 rfl (lv_at hl 0 rfl) ?_
      refine lv_iload_n (pc := 269) C.1 C.2.1 dL_law_269 rfl (lv_at hl 3 rfl) ?_
      refine lv_iconst (pc := 270) (v := mm_I 1) C.1 C.2.1 dL_law_270 rfl ?_
      refine g_iadd (pc := 271) C dL_law_271 ?_
      obtain ⟨hi, hw⟩ := hw
      refine g_sld (pc := 272) C w hX hbl hbA hL hsx hi dL_law_272 ?_
      refine g_calli (pc := 273) w (mm_runV (ci := 11) (q := (RX11, TX11, 65)) (As := [.int (mm_I (sx (v3 + 1)))]) (rest := [.int (mm_I r_12)]) C w (c_X11_fault l G 211 (sx (v3 + 1)) ok_211 s_11 _ hw) ok_211 rfl rfl cv_X11_fault ml_L_27 ⟨Nat.le_of_ble_eq_true rfl, Nat.le_of_ble_eq_true rfl⟩ ⟨Nat.le_of_ble_eq_true rfl, Nat.le_of_ble_eq_true rfl⟩ rfl hl.1 rfl (Nat.le_of_ble_eq_true rfl) dL_law_273) (fun r_14 s_13 H locs hw w => ?_)
      refine g_icmp_eq (pc := 276) (tgt := 1185) C rfl rfl dL_law_276 (by decide) (fun hc => ?_) (fun hc => ?_)
      · have hw := hw.1 hc
        refine g_iinc (pc := 1185) (k := 3) C dL_law_1185 hl rfl (by decide) (fun v3_15 ev3_15 ls hl => ?_)
        have hw := hw v3_15 ev3_15
        have hl : lv_has ls 4 [(3, .int (mm_I v3_15)), (0, .ref b), (1, .ref (mm_ad G 0)), (2, .ref (mm_ad G 211))] := hl
        refine lv_goto (pc := 1188) (tgt := 18) C.1 C.2.1 dL_law_1188 (by decide) ?_
        exact hw  _ _ _ w (lv_sub hl [1, 2, 3, 0] rfl)
      · have hw := hw.2 hc
        refine lv_iconst (pc := 279) (v := mm_I 0) C.1 C.2.1 dL_law_279 rfl ?_
        exact hw.elim
    have hw := hw.2 hc2
    by_cases hc3 : n32 (mm_and (sx v3) 31) = 3
    · have hw := hw.1 hc3
      refine lv_tableIn (pc := 33) (tgt := 281) C.1 C.2.1 dL_law_33 (by rw [show (mm_I (mm_and (sx v3) 31)).toInt = 3 from hc3]; decide) (by rw [show (mm_I (mm_and (sx v3) 31)).toInt = 3 from hc3]; decide) (by rw [show (mm_I (mm_and (sx v3) 31)).toInt = 3 from hc3]; first | done | rfl) (by decide) ?_
      refine lv_aload_n (pc := 281) C.1 C.2.1 dL_law_281 rfl (lv_at hl 1 rfl) ?_
      refine g_calli (pc := 282) w (mm_runV (ci := 10) (q := (RX10, TX10, 10)) (As := []) (rest := []) C w (c_X10_town l G 0 ok_0 s1 _ hw) ok_0 rfl rfl cv_X10_town ml_L_28 ⟨Nat.le_of_ble_eq_true rfl, Nat.le_of_ble_eq_true rfl⟩ ⟨Nat.le_of_ble_eq_true rfl, Nat.le_of_ble_eq_true rfl⟩ rfl hl.1 rfl (Nat.le_of_ble_eq_true rfl) dL_law_282) (fun r_17 s_16 H locs hw w => ?_)
      refine lv_aload_n (pc := 285) C.1 C.2.1 dL_law_285 rfl (lv_at hl 2 rfl) ?_
      refine g_calli (pc := 286) w (mm_runV (ci := 11) (q := (RX11, TX11, 65)) (As := []) (rest := [.int (mm_I r_17)]) C w (c_X11_town l G 211 ok_211 s_16 _ hw) ok_211 rfl rfl cv_X11_town ml_L_32 ⟨Nat.le_of_ble_eq_true rfl, Nat.le_of_ble_eq_true rfl⟩ ⟨Nat.le_of_ble_eq_true rfl, Nat.le_of_ble_eq_true rfl⟩ rfl hl.1 rfl (Nat.le_of_ble_eq_true rfl) dL_law_286) (fun r_19 s_18 H locs hw w => ?_)
      refine g_icmp_eq (pc := 289) (tgt := 1185) C rfl rfl dL_law_289 (by decide) (fun hc => ?_) (fun hc => ?_)
      · have hw := hw.1 hc
        refine g_iinc (pc := 1185) (k := 3) C dL_law_1185 hl rfl (by decide) (fun v3_20 ev3_20 ls hl => ?_)
        have hw := hw v3_20 ev3_20
        have hl : lv_has ls 4 [(3, .int (mm_I v3_20)), (0, .ref b), (1, .ref (mm_ad G 0)), (2, .ref (mm_ad G 211))] := hl
        refine lv_goto (pc := 1188) (tgt := 18) C.1 C.2.1 dL_law_1188 (by decide) ?_
        exact hw  _ _ _ w (lv_sub hl [1, 2, 3, 0] rfl)
      · have hw := hw.2 hc
        refine lv_iconst (pc := 292) (v := mm_I 0) C.1 C.2.1 dL_law_292 rfl ?_
        exact hw.elim
    have hw := hw.2 hc3
    by_cases hc4 : n32 (mm_and (sx v3) 31) = 4
    · have hw := hw.1 hc4
      refine lv_tableIn (pc := 33) (tgt := 294) C.1 C.2.1 dL_law_33 (by rw [show (mm_I (mm_and (sx v3) 31)).toInt = 4 from hc4]; decide) (by rw [show (mm_I (mm_and (sx v3) 31)).toInt = 4 from hc4]; decide) (by rw [show (mm_I (mm_and (sx v3) 31)).toInt = 4 from hc4]; first | done | rfl) (by decide) ?_
      refine lv_aload_n (pc := 294) C.1 C.2.1 dL_law_294 rfl (lv_at hl 1 rfl) ?_
      refine g_calli (pc := 295) w (mm_runV (ci := 10) (q := (RX10, TX10, 10)) (As := []) (rest := []) C w (c_X10_laws l G 0 ok_0 s1 _ hw) ok_0 rfl rfl cv_X10_laws ml_L_33 ⟨Nat.le_of_ble_eq_true rfl, Nat.le_of_ble_eq_true rfl⟩ ⟨Nat.le_of_ble_eq_true rfl, Nat.le_of_ble_eq_true rfl⟩ rfl hl.1 rfl (Nat.le_of_ble_eq_true rfl) dL_law_295) (fun r_22 s_21 H locs hw w => ?_)
      refine lv_aload_n (pc := 298) C.1 C.2.1 dL_law_298 rfl (lv_at hl 2 rfl) ?_
      refine g_calli (pc := 299) w (mm_runV (ci := 11) (q := (RX11, TX11, 65)) (As := []) (rest := [.int (mm_I r_22)]) C w (c_X11_laws l G 211 ok_211 s_21 _ hw) ok_211 rfl rfl cv_X11_laws ml_L_36 ⟨Nat.le_of_ble_eq_true rfl, Nat.le_of_ble_eq_true rfl⟩ ⟨Nat.le_of_ble_eq_true rfl, Nat.le_of_ble_eq_true rfl⟩ rfl hl.1 rfl (Nat.le_of_ble_eq_true rfl) dL_law_299) (fun r_24 s_23 H locs hw w => ?_)
      refine g_icmp_eq (pc := 302) (tgt := 1185) C rfl rfl dL_law_302 (by decide) (fun hc => ?_) (fun hc => ?_)
      · have hw := hw.1 hc
        refine g_iinc (pc := 1185) (k := 3) C dL_law_1185 hl rfl (by decide) (fun v3_25 ev3_25 ls hl => ?_)
        have hw := hw v3_25 ev3_25
        have hl : lv_has ls 4 [(3, .int (mm_I v3_25)), (0, .ref b), (1, .ref (mm_ad G 0)), (2, .ref (mm_ad G 211))] := hl
        refine lv_goto (pc := 1188) (tgt := 18) C.1 C.2.1 dL_law_1188 (by decide) ?_
        exact hw  _ _ _ w (lv_sub hl [1, 2, 3, 0] rfl)
      · have hw := hw.2 hc
        refine lv_iconst (pc := 305) (v := mm_I 0) C.1 C.2.1 dL_law_305 rfl ?_
        exact hw.elim
    have hw := hw.2 hc4
    by_cases hc5 : n32 (mm_and (sx v3) 31) = 5
    · have hw := hw.1 hc5
      refine lv_tableIn (pc := 33) (tgt := 307) C.1 C.2.1 dL_law_33 (by rw [show (mm_I (mm_and (sx v3) 31)).toInt = 5 from hc5]; decide) (by rw [show (mm_I (mm_and (sx v3) 31)).toInt = 5 from hc5]; decide) (by rw [show (mm_I (mm_and (sx v3) 31)).toInt = 5 from hc5]; first | done | rfl) (by decide) ?_
      refine lv_aload_n (pc := 307) C.1 C.2.1 dL_law_307 rfl (lv_at hl 1 rfl) ?_
      refine lv_aload_n (pc := 308) C.1 C.2.1 dL_law_308 rfl (lv_at hl 0 rfl) ?_
      refine lv_iload_n (pc := 309) C.1 C.2.1 dL_law_309 rfl (lv_at hl 3 rfl) ?_
      refine lv_iconst (pc := 310) (v := mm_I 1) C.1 C.2.1 dL_law_310 rfl ?_
      refine g_iadd (pc := 311) C dL_law_311 ?_
      obtain ⟨hi, hw⟩ := hw
      refine g_sld (pc := 312) C w hX hbl hbA hL hsx hi dL_law_312 ?_
      refine lv_aload_n (pc := 313) C.1 C.2.1 dL_law_313 rfl (lv_at hl 0 rfl) ?_
      refine lv_iload_n (pc := 314) C.1 C.2.1 dL_law_314 rfl (lv_at hl 3 rfl) ?_
      refine lv_iconst (pc := 315) (v := mm_I 2) C.1 C.2.1 dL_law_315 rfl ?_
      refine g_iadd (pc := 316) C dL_law_316 ?_
      obtain ⟨hi, hw⟩ := hw
      refine g_sld (pc := 317) C w hX hbl hbA hL hsx hi dL_law_317 ?_
      refine g_calli (pc := 318) w (mm_runV (ci := 10) (q := (RX10, TX10, 10)) (As := [.int (mm_I (sx (v3 + 1))), .int (mm_I (sx (v3 + 2)))]) (rest := []) C w (c_X10_counter l G 0 (sx (v3 + 1)) (sx (v3 + 2)) ok_0 s1 _ hw) ok_0 rfl rfl cv_X10_counter ml_L_37 ⟨Nat.le_of_ble_eq_true rfl, Nat.le_of_ble_eq_true rfl⟩ ⟨Nat.le_of_ble_eq_true rfl, Nat.le_of_ble_eq_true rfl⟩ rfl hl.1 rfl (Nat.le_of_ble_eq_true rfl) dL_law_318) (fun r_27 s_26 H locs hw w => ?_)
      refine lv_aload_n (pc := 321) C.1 C.2.1 dL_law_321 rfl (lv_at hl 2 rfl) ?_
      refine lv_aload_n (pc := 322) C.1 C.2.1 dL_law_322 rfl (lv_at hl 0 rfl) ?_
      refine lv_iload_n (pc := 323) C.1 C.2.1 dL_law_323 rfl (lv_at hl 3 rfl) ?_
      refine lv_iconst (pc := 324) (v := mm_I 1) C.1 C.2.1 dL_law_324 rfl ?_
      refine g_iadd (pc := 325) C dL_law_325 ?_
      obtain ⟨hi, hw⟩ := hw
      refine g_sld (pc := 326) C w hX hbl hbA hL hsx hi dL_law_326 ?_
      refine lv_aload_n (pc := 327) C.1 C.2.1 dL_law_327 rfl (lv_at hl 0 rfl) ?_
      refine lv_iload_n (pc := 328) C.1 C.2.1 dL_law_328 rfl (lv_at hl 3 rfl) ?_
      refine lv_iconst (pc := 329) (v := mm_I 2) C.1 C.2.1 dL_law_329 rfl ?_
      refine g_iadd (pc := 330) C dL_law_330 ?_
      obtain ⟨hi, hw⟩ := hw
      refine g_sld (pc := 331) C w hX hbl hbA hL hsx hi dL_law_331 ?_
      refine g_calli (pc := 332) w (mm_runV (ci := 11) (q := (RX11, TX11, 65)) (As := [.int (mm_I (sx (v3 + 1))), .int (mm_I (sx (v3 + 2)))]) (rest := [.int (mm_I r_27)]) C w (c_X11_counter l G 211 (sx (v3 + 1)) (sx (v3 + 2)) ok_211 s_26 _ hw) ok_211 rfl rfl cv_X11_counter ml_L_41 ⟨Nat.le_of_ble_eq_true rfl, Nat.le_of_ble_eq_true rfl⟩ ⟨Nat.le_of_ble_eq_true rfl, Nat.le_of_ble_eq_true rfl⟩ rfl hl.1 rfl (Nat.le_of_ble_eq_true rfl) dL_law_332) (fun r_29 s_28 H locs hw w => ?_)
      refine g_icmp_eq (pc := 335) (tgt := 1185) C rfl rfl dL_law_335 (by decide) (fun hc => ?_) (fun hc => ?_)
      · have hw := hw.1 hc
        refine g_iinc (pc := 1185) (k := 3) C dL_law_1185 hl rfl (by decide) (fun v3_30 ev3_30 ls hl => ?_)
        have hw := hw v3_30 ev3_30
        have hl : lv_has ls 4 [(3, .int (mm_I v3_30)), (0, .ref b), (1, .ref (mm_ad G 0)), (2, .ref (mm_ad G 211))] := hl
        refine lv_goto (pc := 1188) (tgt := 18) C.1 C.2.1 dL_law_1188 (by decide) ?_
        exact hw  _ _ _ w (lv_sub hl [1, 2, 3, 0] rfl)
      · have hw := hw.2 hc
        refine lv_iconst (pc := 338) (v := mm_I 0) C.1 C.2.1 dL_law_338 rfl ?_
        exact hw.elim
    have hw := hw.2 hc5
    by_cases hc6 : n32 (mm_and (sx v3) 31) = 6
    · have hw := hw.1 hc6
      refine lv_tableIn (pc := 33) (tgt := 340) C.1 C.2.1 dL_law_33 (by rw [show (mm_I (mm_and (sx v3) 31)).toInt = 6 from hc6]; decide) (by rw [show (mm_I (mm_and (sx v3) 31)).toInt = 6 from hc6]; decide) (by rw [show (mm_I (mm_and (sx v3) 31)).toInt = 6 from hc6]; first | done | rfl) (by decide) ?_
      refine lv_aload_n (pc := 340) C.1 C.2.1 dL_law_340 rfl (lv_at hl 1 rfl) ?_
      refine lv_aload_n (pc := 341) C.1 C.2.1 dL_law_341 rfl (lv_at hl 0 rfl) ?_
      refine lv_iload_n (pc := 342) C.1 C.2.1 dL_law_342 rfl (lv_at hl 3 rfl) ?_
      refine lv_iconst (pc := 343) (v := mm_I 1) C.1 C.2.1 dL_law_343 rfl ?_
      refine g_iadd (pc := 344) C dL_law_344 ?_
      obtain ⟨hi, hw⟩ := hw
      refine g_sld (pc := 345) C w hX hbl hbA hL hsx hi dL_law_345 ?_
      refine lv_aload_n (pc := 346) C.1 C.2.1 dL_law_346 rfl (lv_at hl 0 rfl) ?_
      refine lv_iload_n (pc := 347) C.1 C.2.1 dL_law_347 rfl (lv_at hl 3 rfl) ?_
      refine lv_iconst (pc := 348) (v := mm_I 2) C.1 C.2.1 dL_law_348 rfl ?_
      refine g_iadd (pc := 349) C dL_law_349 ?_
      obtain ⟨hi, hw⟩ := hw
      refine g_sld (pc := 350) C w hX hbl hbA hL hsx hi dL_law_350 ?_
      refine g_calli (pc := 351) w (mm_runV (ci := 10) (q := (RX10, TX10, 10)) (As := [.int (mm_I (sx (v3 + 1))), .int (mm_I (sx (v3 + 2)))]) (rest := []) C w (c_X10_sort l G 0 (sx (v3 + 1)) (sx (v3 + 2)) ok_0 s1 _ hw) ok_0 rfl rfl cv_X10_sort ml_L_42 ⟨Nat.le_of_ble_eq_true rfl, Nat.le_of_ble_eq_true rfl⟩ ⟨Nat.le_of_ble_eq_true rfl, Nat.le_of_ble_eq_true rfl⟩ rfl hl.1 rfl (Nat.le_of_ble_eq_true rfl) dL_law_351) (fun r_32 s_31 H locs hw w => ?_)
      refine lv_aload_n (pc := 354) C.1 C.2.1 dL_law_354 rfl (lv_at hl 2 rfl) ?_
      refine lv_aload_n (pc := 355) C.1 C.2.1 dL_law_355 rfl (lv_at hl 0 rfl) ?_
      refine lv_iload_n (pc := 356) C.1 C.2.1 dL_law_356 rfl (lv_at hl 3 rfl) ?_
      refine lv_iconst (pc := 357) (v := mm_I 1) C.1 C.2.1 dL_law_357 rfl ?_
      refine g_iadd (pc := 358) C dL_law_358 ?_
      obtain ⟨hi, hw⟩ := hw
      refine g_sld (pc := 359) C w hX hbl hbA hL hsx hi dL_law_359 ?_
      refine lv_aload_n (pc := 360) C.1 C.2.1 dL_law_360 rfl (lv_at hl 0 rfl) ?_
      refine lv_iload_n (pc := 361) C.1 C.2.1 dL_law_361 rfl (lv_at hl 3 rfl) ?_
      refine lv_iconst (pc := 362) (v := mm_I 2) C.1 C.2.1 dL_law_362 rfl ?_
      refine g_iadd (pc := 363) C dL_law_363 ?_
      obtain ⟨hi, hw⟩ := hw
      refine g_sld (pc := 364) C w hX hbl hbA hL hsx hi dL_law_364 ?_
      refine g_calli (pc := 365) w (mm_runV (ci := 11) (q := (RX11, TX11, 65)) (As := [.int (mm_I (sx (v3 + 1))), .int (mm_I (sx (v3 + 2)))]) (rest := [.int (mm_I r_32)]) C w (c_X11_sort l G 211 (sx (v3 + 1)) (sx (v3 + 2)) ok_211 s_31 _ hw) ok_211 rfl rfl cv_X11_sort ml_L_45 ⟨Nat.le_of_ble_eq_true rfl, Nat.le_of_ble_eq_true rfl⟩ ⟨Nat.le_of_ble_eq_true rfl, Nat.le_of_ble_eq_true rfl⟩ rfl hl.1 rfl (Nat.le_of_ble_eq_true rfl) dL_law_365) (fun r_34 s_33 H locs hw w => ?_)
      refine g_icmp_eq (pc := 368) (tgt := 1185) C rfl rfl dL_law_368 (by decide) (fun hc => ?_) (fun hc => ?_)
      · have hw := hw.1 hc
        refine g_iinc (pc := 1185) (k := 3) C dL_law_1185 hl rfl (by decide) (fun v3_35 ev3_35 ls hl => ?_)
        have hw := hw v3_35 ev3_35
        have hl : lv_has ls 4 [(3, .int (mm_I v3_35)), (0, .ref b), (1, .ref (mm_ad G 0)), (2, .ref (mm_ad G 211))] := hl
        refine lv_goto (pc := 1188) (tgt := 18) C.1 C.2.1 dL_law_1188 (by decide) ?_
        exact hw  _ _ _ w (lv_sub hl [1, 2, 3, 0] rfl)
      · have hw := hw.2 hc
        refine lv_iconst (pc := 371) (v := mm_I 0) C.1 C.2.1 dL_law_371 rfl ?_
        exact hw.elim
    have hw := hw.2 hc6
    by_cases hc7 : n32 (mm_and (sx v3) 31) = 7
    · have hw := hw.1 hc7
      refine lv_tableIn (pc := 33) (tgt := 373) C.1 C.2.1 dL_law_33 (by rw [show (mm_I (mm_and (sx v3) 31)).toInt = 7 from hc7]; decide) (by rw [show (mm_I (mm_and (sx v3) 31)).toInt = 7 from hc7]; decide) (by rw [show (mm_I (mm_and (sx v3) 31)).toInt = 7 from hc7]; first | done | rfl) (by decide) ?_
      refine lv_aload_n (pc := 373) C.1 C.2.1 dL_law_373 rfl (lv_at hl 1 rfl) ?_
      refine lv_aload_n (pc := 374) C.1 C.2.1 dL_law_374 rfl (lv_at hl 0 rfl) ?_
      refine lv_iload_n (pc := 375) C.1 C.2.1 dL_law_375 rfl (lv_at hl 3 rfl) ?_
      refine lv_iconst (pc := 376) (v := mm_I 1) C.1 C.2.1 dL_law_376 rfl ?_
      refine g_iadd (pc := 377) C dL_law_377 ?_
      obtain ⟨hi, hw⟩ := hw
      refine g_sld (pc := 378) C w hX hbl hbA hL hsx hi dL_law_378 ?_
      refine g_calli (pc := 379) w (mm_runV (ci := 10) (q := (RX10, TX10, 10)) (As := [.int (mm_I (sx (v3 + 1)))]) (rest := []) C w (c_X10_seed l G 0 (sx (v3 + 1)) ok_0 s1 _ hw) ok_0 rfl rfl cv_X10_seed ml_L_46 ⟨Nat.le_of_ble_eq_true rfl, Nat.le_of_ble_eq_true rfl⟩ ⟨Nat.le_of_ble_eq_true rfl, Nat.le_of_ble_eq_true rfl⟩ rfl hl.1 rfl (Nat.le_of_ble_eq_true rfl) dL_law_379) (fun r_37 s_36 H locs hw w => ?_)
      refine lv_aload_n (pc := 382) C.1 C.2.1 dL_law_382 rfl (lv_at hl 2 rfl) ?_
      refine lv_aload_n (pc := 383) C.1 C.2.1 dL_law_383 rfl (lv_at hl 0 rfl) ?_
      refine lv_iload_n (pc := 384) C.1 C.2.1 dL_law_384 rfl (lv_at hl 3 rfl) ?_
      refine lv_iconst (pc := 385) (v := mm_I 1) C.1 C.2.1 dL_law_385 rfl ?_
      refine g_iadd (pc := 386) C dL_law_386 ?_
      obtain ⟨hi, hw⟩ := hw
      refine g_sld (pc := 387) C w hX hbl hbA hL hsx hi dL_law_387 ?_
      refine g_calli (pc := 388) w (mm_runV (ci := 11) (q := (RX11, TX11, 65)) (As := [.int (mm_I (sx (v3 + 1)))]) (rest := [.int (mm_I r_37)]) C w (c_X11_seed l G 211 (sx (v3 + 1)) ok_211 s_36 _ hw) ok_211 rfl rfl cv_X11_seed ml_L_49 ⟨Nat.le_of_ble_eq_true rfl, Nat.le_of_ble_eq_true rfl⟩ ⟨Nat.le_of_ble_eq_true rfl, Nat.le_of_ble_eq_true rfl⟩ rfl hl.1 rfl (Nat.le_of_ble_eq_true rfl) dL_law_388) (fun r_39 s_38 H locs hw w => ?_)
      refine g_icmp_eq (pc := 391) (tgt := 1185) C rfl rfl dL_law_391 (by decide) (fun hc => ?_) (fun hc => ?_)
      · have hw := hw.1 hc
        refine g_iinc (pc := 1185) (k := 3) C dL_law_1185 hl rfl (by decide) (fun v3_40 ev3_40 ls hl => ?_)
        have hw := hw v3_40 ev3_40
        have hl : lv_has ls 4 [(3, .int (mm_I v3_40)), (0, .ref b), (1, .ref (mm_ad G 0)), (2, .ref (mm_ad G 211))] := hl
        refine lv_goto (pc := 1188) (tgt := 18) C.1 C.2.1 dL_law_1188 (by decide) ?_
        exact hw  _ _ _ w (lv_sub hl [1, 2, 3, 0] rfl)
      · have hw := hw.2 hc
        refine lv_iconst (pc := 394) (v := mm_I 0) C.1 C.2.1 dL_law_394 rfl ?_
        exact hw.elim
    have hw := hw.2 hc7
    by_cases hc8 : n32 (mm_and (sx v3) 31) = 8
    · have hw := hw.1 hc8
      refine lv_tableIn (pc := 33) (tgt := 396) C.1 C.2.1 dL_law_33 (by rw [show (mm_I (mm_and (sx v3) 31)).toInt = 8 from hc8]; decide) (by rw [show (mm_I (mm_and (sx v3) 31)).toInt = 8 from hc8]; decide) (by rw [show (mm_I (mm_and (sx v3) 31)).toInt = 8 from hc8]; first | done | rfl) (by decide) ?_
      refine lv_aload_n (pc := 396) C.1 C.2.1 dL_law_396 rfl (lv_at hl 1 rfl) ?_
      refine lv_aload_n (pc := 397) C.1 C.2.1 dL_law_397 rfl (lv_at hl 0 rfl) ?_
      refine lv_iload_n (pc := 398) C.1 C.2.1 dL_law_398 rfl (lv_at hl 3 rfl) ?_
      refine lv_iconst (pc := 399) (v := mm_I 1) C.1 C.2.1 dL_law_399 rfl ?_
      refine g_iadd (pc := 400) C dL_law_400 ?_
      obtain ⟨hi, hw⟩ := hw
      refine g_sld (pc := 401) C w hX hbl hbA hL hsx hi dL_law_401 ?_
      refine lv_aload_n (pc := 402) C.1 C.2.1 dL_law_402 rfl (lv_at hl 0 rfl) ?_
      refine lv_iload_n (pc := 403) C.1 C.2.1 dL_law_403 rfl (lv_at hl 3 rfl) ?_
      refine lv_iconst (pc := 404) (v := mm_I 2) C.1 C.2.1 dL_law_404 rfl ?_
      refine g_iadd (pc := 405) C dL_law_405 ?_
      obtain ⟨hi, hw⟩ := hw
      refine g_sld (pc := 406) C w hX hbl hbA hL hsx hi dL_law_406 ?_
      refine g_calli (pc := 407) w (mm_runV (ci := 10) (q := (RX10, TX10, 10)) (As := [.int (mm_I (sx (v3 + 1))), .int (mm_I (sx (v3 + 2)))]) (rest := []) C w (c_X10_come l G 0 (sx (v3 + 1)) (sx (v3 + 2)) ok_0 s1 _ hw) ok_0 rfl rfl cv_X10_come ml_L_50 ⟨Nat.le_of_ble_eq_true rfl, Nat.le_of_ble_eq_true rfl⟩ ⟨Nat.le_of_ble_eq_true rfl, Nat.le_of_ble_eq_true rfl⟩ rfl hl.1 rfl (Nat.le_of_ble_eq_true rfl) dL_law_407) (fun r_42 s_41 H locs hw w => ?_)
      refine lv_aload_n (pc := 410) C.1 C.2.1 dL_law_410 rfl (lv_at hl 2 rfl) ?_
      refine lv_aload_n (pc := 411) C.1 C.2.1 dL_law_411 rfl (lv_at hl 0 rfl) ?_
      refine lv_iload_n (pc := 412) C.1 C.2.1 dL_law_412 rfl (lv_at hl 3 rfl) ?_
      refine lv_iconst (pc := 413) (v := mm_I 1) C.1 C.2.1 dL_law_413 rfl ?_
      refine g_iadd (pc := 414) C dL_law_414 ?_
      obtain ⟨hi, hw⟩ := hw
      refine g_sld (pc := 415) C w hX hbl hbA hL hsx hi dL_law_415 ?_
      refine lv_aload_n (pc := 416) C.1 C.2.1 dL_law_416 rfl (lv_at hl 0 rfl) ?_
      refine lv_iload_n (pc := 417) C.1 C.2.1 dL_law_417 rfl (lv_at hl 3 rfl) ?_
      refine lv_iconst (pc := 418) (v := mm_I 2) C.1 C.2.1 dL_law_418 rfl ?_
      refine g_iadd (pc := 419) C dL_law_419 ?_
      obtain ⟨hi, hw⟩ := hw
      refine g_sld (pc := 420) C w hX hbl hbA hL hsx hi dL_law_420 ?_
      refine g_calli (pc := 421) w (mm_runV (ci := 11) (q := (RX11, TX11, 65)) (As := [.int (mm_I (sx (v3 + 1))), .int (mm_I (sx (v3 + 2)))]) (rest := [.int (mm_I r_42)]) C w (c_X11_come l G 211 (sx (v3 + 1)) (sx (v3 + 2)) ok_211 s_41 _ hw) ok_211 rfl rfl cv_X11_come ml_L_53 ⟨Nat.le_of_ble_eq_true rfl, Nat.le_of_ble_eq_true rfl⟩ ⟨Nat.le_of_ble_eq_true rfl, Nat.le_of_ble_eq_true rfl⟩ rfl hl.1 rfl (Nat.le_of_ble_eq_true rfl) dL_law_421) (fun r_44 s_43 H locs hw w => ?_)
      refine g_icmp_eq (pc := 424) (tgt := 1185) C rfl rfl dL_law_424 (by decide) (fun hc => ?_) (fun hc => ?_)
      · have hw := hw.1 hc
        refine g_iinc (pc := 1185) (k := 3) C dL_law_1185 hl rfl (by decide) (fun v3_45 ev3_45 ls hl => ?_)
        have hw := hw v3_45 ev3_45
        have hl : lv_has ls 4 [(3, .int (mm_I v3_45)), (0, .ref b), (1, .ref (mm_ad G 0)), (2, .ref (mm_ad G 211))] := hl
        refine lv_goto (pc := 1188) (tgt := 18) C.1 C.2.1 dL_law_1188 (by decide) ?_
        exact hw  _ _ _ w (lv_sub hl [1, 2, 3, 0] rfl)
      · have hw := hw.2 hc
        refine lv_iconst (pc := 427) (v := mm_I 0) C.1 C.2.1 dL_law_427 rfl ?_
        exact hw.elim
    have hw := hw.2 hc8
    by_cases hc9 : n32 (mm_and (sx v3) 31) = 9
    · have hw := hw.1 hc9
      refine lv_tableIn (pc := 33) (tgt := 429) C.1 C.2.1 dL_law_33 (by rw [show (mm_I (mm_and (sx v3) 31)).toInt = 9 from hc9]; decide) (by rw [show (mm_I (mm_and (sx v3) 31)).toInt = 9 from hc9]; decide) (by rw [show (mm_I (mm_and (sx v3) 31)).toInt = 9 from hc9]; first | done | rfl) (by decide) ?_
      refine lv_aload_n (pc := 429) C.1 C.2.1 dL_law_429 rfl (lv_at hl 1 rfl) ?_
      refine lv_aload_n (pc := 430) C.1 C.2.1 dL_law_430 rfl (lv_at hl 0 rfl) ?_
      refine lv_iload_n (pc := 431) C.1 C.2.1 dL_law_431 rfl (lv_at hl 3 rfl) ?_
      refine lv_iconst (pc := 432) (v := mm_I 1) C.1 C.2.1 dL_law_432 rfl ?_
      refine g_iadd (pc := 433) C dL_law_433 ?_
      obtain ⟨hi, hw⟩ := hw
      refine g_sld (pc := 434) C w hX hbl hbA hL hsx hi dL_law_434 ?_
      refine g_calli (pc := 435) w (mm_runV (ci := 10) (q := (RX10, TX10, 10)) (As := [.int (mm_I (sx (v3 + 1)))]) (rest := []) C w (c_X10_turn l G 0 (sx (v3 + 1)) ok_0 s1 _ hw) ok_0 rfl rfl cv_X10_turn ml_L_54 ⟨Nat.le_of_ble_eq_true rfl, Nat.le_of_ble_eq_true rfl⟩ ⟨Nat.le_of_ble_eq_true rfl, Nat.le_of_ble_eq_true rfl⟩ rfl hl.1 rfl (Nat.le_of_ble_eq_true rfl) dL_law_435) (fun r_47 s_46 H locs hw w => ?_)
      refine lv_aload_n (pc := 438) C.1 C.2.1 dL_law_438 rfl (lv_at hl 2 rfl) ?_
      refine lv_aload_n (pc := 439) C.1 C.2.1 dL_law_439 rfl (lv_at hl 0 rfl) ?_
      refine lv_iload_n (pc := 440) C.1 C.2.1 dL_law_440 rfl (lv_at hl 3 rfl) ?_
      refine lv_iconst (pc := 441) (v := mm_I 1) C.1 C.2.1 dL_law_441 rfl ?_
      refine g_iadd (pc := 442) C dL_law_442 ?_
      obtain ⟨hi, hw⟩ := hw
      refine g_sld (pc := 443) C w hX hbl hbA hL hsx hi dL_law_443 ?_
      refine g_calli (pc := 444) w (mm_runV (ci := 11) (q := (RX11, TX11, 65)) (As := [.int (mm_I (sx (v3 + 1)))]) (rest := [.int (mm_I r_47)]) C w (c_X11_turn l G 211 (sx (v3 + 1)) ok_211 s_46 _ hw) ok_211 rfl rfl cv_X11_turn ml_L_57 ⟨Nat.le_of_ble_eq_true rfl, Nat.le_of_ble_eq_true rfl⟩ ⟨Nat.le_of_ble_eq_true rfl, Nat.le_of_ble_eq_true rfl⟩ rfl hl.1 rfl (Nat.le_of_ble_eq_true rfl) dL_law_444) (fun r_49 s_48 H locs hw w => ?_)
      refine g_icmp_eq (pc := 447) (tgt := 1185) C rfl rfl dL_law_447 (by decide) (fun hc => ?_) (fun hc => ?_)
      · have hw := hw.1 hc
        refine g_iinc (pc := 1185) (k := 3) C dL_law_1185 hl rfl (by decide) (fun v3_50 ev3_50 ls hl => ?_)
        have hw := hw v3_50 ev3_50
        have hl : lv_has ls 4 [(3, .int (mm_I v3_50)), (0, .ref b), (1, .ref (mm_ad G 0)), (2, .ref (mm_ad G 211))] := hl
        refine lv_goto (pc := 1188) (tgt := 18) C.1 C.2.1 dL_law_1188 (by decide) ?_
        exact hw  _ _ _ w (lv_sub hl [1, 2, 3, 0] rfl)
      · have hw := hw.2 hc
        refine lv_iconst (pc := 450) (v := mm_I 0) C.1 C.2.1 dL_law_450 rfl ?_
        exact hw.elim
    have hw := hw.2 hc9
    by_cases hc10 : n32 (mm_and (sx v3) 31) = 10
    · have hw := hw.1 hc10
      refine lv_tableIn (pc := 33) (tgt := 452) C.1 C.2.1 dL_law_33 (by rw [show (mm_I (mm_and (sx v3) 31)).toInt = 10 from hc10]; decide) (by rw [show (mm_I (mm_and (sx v3) 31)).toInt = 10 from hc10]; decide) (by rw [show (mm_I (mm_and (sx v3) 31)).toInt = 10 from hc10]; first | done | rfl) (by decide) ?_
      refine lv_aload_n (pc := 452) C.1 C.2.1 dL_law_452 rfl (lv_at hl 1 rfl) ?_
      refine lv_aload_n (pc := 453) C.1 C.2.1 dL_law_453 rfl (lv_at hl 0 rfl) ?_
      refine lv_iload_n (pc := 454) C.1 C.2.1 dL_law_454 rfl (lv_at hl 3 rfl) ?_
      refine lv_iconst (pc := 455) (v := mm_I 1) C.1 C.2.1 dL_law_455 rfl ?_
      refine g_iadd (pc := 456) C dL_law_456 ?_
      obtain ⟨hi, hw⟩ := hw
      refine g_sld (pc := 457) C w hX hbl hbA hL hsx hi dL_law_457 ?_
      refine g_calli (pc := 458) w (mm_runV (ci := 10) (q := (RX10, TX10, 10)) (As := [.int (mm_I (sx (v3 + 1)))]) (rest := []) C w (c_X10_leave l G 0 (sx (v3 + 1)) ok_0 s1 _ hw) ok_0 rfl rfl cv_X10_leave ml_L_58 ⟨Nat.le_of_ble_eq_true rfl, Nat.le_of_ble_eq_true rfl⟩ ⟨Nat.le_of_ble_eq_true rfl, Nat.le_of_ble_eq_true rfl⟩ rfl hl.1 rfl (Nat.le_of_ble_eq_true rfl) dL_law_458) (fun r_52 s_51 H locs hw w => ?_)
      refine lv_aload_n (pc := 461) C.1 C.2.1 dL_law_461 rfl (lv_at hl 2 rfl) ?_
      refine lv_aload_n (pc := 462) C.1 C.2.1 dL_law_462 rfl (lv_at hl 0 rfl) ?_
      refine lv_iload_n (pc := 463) C.1 C.2.1 dL_law_463 rfl (lv_at hl 3 rfl) ?_
      refine lv_iconst (pc := 464) (v := mm_I 1) C.1 C.2.1 dL_law_464 rfl ?_
      refine g_iadd (pc := 465) C dL_law_465 ?_
      obtain ⟨hi, hw⟩ := hw
      refine g_sld (pc := 466) C w hX hbl hbA hL hsx hi dL_law_466 ?_
      refine g_calli (pc := 467) w (mm_runV (ci := 11) (q := (RX11, TX11, 65)) (As := [.int (mm_I (sx (v3 + 1)))]) (rest := [.int (mm_I r_52)]) C w (c_X11_leave l G 211 (sx (v3 + 1)) ok_211 s_51 _ hw) ok_211 rfl rfl cv_X11_leave ml_L_61 ⟨Nat.le_of_ble_eq_true rfl, Nat.le_of_ble_eq_true rfl⟩ ⟨Nat.le_of_ble_eq_true rfl, Nat.le_of_ble_eq_true rfl⟩ rfl hl.1 rfl (Nat.le_of_ble_eq_true rfl) dL_law_467) (fun r_54 s_53 H locs hw w => ?_)
      refine g_icmp_eq (pc := 470) (tgt := 1185) C rfl rfl dL_law_470 (by decide) (fun hc => ?_) (fun hc => ?_)
      · have hw := hw.1 hc
        refine g_iinc (pc := 1185) (k := 3) C dL_law_1185 hl rfl (by decide) (fun v3_55 ev3_55 ls hl => ?_)
        have hw := hw v3_55 ev3_55
        have hl : lv_has ls 4 [(3, .int (mm_I v3_55)), (0, .ref b), (1, .ref (mm_ad G 0)), (2, .ref (mm_ad G 211))] := hl
        refine lv_goto (pc := 1188) (tgt := 18) C.1 C.2.1 dL_law_1188 (by decide) ?_
        exact hw  _ _ _ w (lv_sub hl [1, 2, 3, 0] rfl)
      · have hw := hw.2 hc
        refine lv_iconst (pc := 473) (v := mm_I 0) C.1 C.2.1 dL_law_473 rfl ?_
        exact hw.elim
    have hw := hw.2 hc10
    by_cases hc11 : n32 (mm_and (sx v3) 31) = 11
    · have hw := hw.1 hc11
      refine lv_tableIn (pc := 33) (tgt := 475) C.1 C.2.1 dL_law_33 (by rw [show (mm_I (mm_and (sx v3) 31)).toInt = 11 from hc11]; decide) (by rw [show (mm_I (mm_and (sx v3) 31)).toInt = 11 from hc11]; decide) (by rw [show (mm_I (mm_and (sx v3) 31)).toInt = 11 from hc11]; first | done | rfl) (by decide) ?_
      refine lv_aload_n (pc := 475) C.1 C.2.1 dL_law_475 rfl (lv_at hl 1 rfl) ?_
      refine lv_aload_n (pc := 476) C.1 C.2.1 dL_law_476 rfl (lv_at hl 0 rfl) ?_
      refine lv_iload_n (pc := 477) C.1 C.2.1 dL_law_477 rfl (lv_at hl 3 rfl) ?_
      refine lv_iconst (pc := 478) (v := mm_I 1) C.1 C.2.1 dL_law_478 rfl ?_
      refine g_iadd (pc := 479) C dL_law_479 ?_
      obtain ⟨hi, hw⟩ := hw
      refine g_sld (pc := 480) C w hX hbl hbA hL hsx hi dL_law_480 ?_
      refine lv_aload_n (pc := 481) C.1 C.2.1 dL_law_481 rfl (lv_at hl 0 rfl) ?_
      refine lv_iload_n (pc := 482) C.1 C.2.1 dL_law_482 rfl (lv_at hl 3 rfl) ?_
      refine lv_iconst (pc := 483) (v := mm_I 2) C.1 C.2.1 dL_law_483 rfl ?_
      refine g_iadd (pc := 484) C dL_law_484 ?_
      obtain ⟨hi, hw⟩ := hw
      refine g_sld (pc := 485) C w hX hbl hbA hL hsx hi dL_law_485 ?_
      refine g_calli (pc := 486) w (mm_runV (ci := 10) (q := (RX10, TX10, 10)) (As := [.int (mm_I (sx (v3 + 1))), .int (mm_I (sx (v3 + 2)))]) (rest := []) C w (c_X10_person l G 0 (sx (v3 + 1)) (sx (v3 + 2)) ok_0 s1 _ hw) ok_0 rfl rfl cv_X10_person ml_L_62 ⟨Nat.le_of_ble_eq_true rfl, Nat.le_of_ble_eq_true rfl⟩ ⟨Nat.le_of_ble_eq_true rfl, Nat.le_of_ble_eq_true rfl⟩ rfl hl.1 rfl (Nat.le_of_ble_eq_true rfl) dL_law_486) (fun r_57 s_56 H locs hw w => ?_)
      refine lv_aload_n (pc := 489) C.1 C.2.1 dL_law_489 rfl (lv_at hl 2 rfl) ?_
      refine lv_aload_n (pc := 490) C.1 C.2.1 dL_law_490 rfl (lv_at hl 0 rfl) ?_
      refine lv_iload_n (pc := 491) C.1 C.2.1 dL_law_491 rfl (lv_at hl 3 rfl) ?_
      refine lv_iconst (pc := 492) (v := mm_I 1) C.1 C.2.1 dL_law_492 rfl ?_
      refine g_iadd (pc := 493) C dL_law_493 ?_
      obtain ⟨hi, hw⟩ := hw
      refine g_sld (pc := 494) C w hX hbl hbA hL hsx hi dL_law_494 ?_
      refine lv_aload_n (pc := 495) C.1 C.2.1 dL_law_495 rfl (lv_at hl 0 rfl) ?_
      refine lv_iload_n (pc := 496) C.1 C.2.1 dL_law_496 rfl (lv_at hl 3 rfl) ?_
      refine lv_iconst (pc := 497) (v := mm_I 2) C.1 C.2.1 dL_law_497 rfl ?_
      refine g_iadd (pc := 498) C dL_law_498 ?_
      obtain ⟨hi, hw⟩ := hw
      refine g_sld (pc := 499) C w hX hbl hbA hL hsx hi dL_law_499 ?_
      refine g_calli (pc := 500) w (mm_runV (ci := 11) (q := (RX11, TX11, 65)) (As := [.int (mm_I (sx (v3 + 1))), .int (mm_I (sx (v3 + 2)))]) (rest := [.int (mm_I r_57)]) C w (c_X11_person l G 211 (sx (v3 + 1)) (sx (v3 + 2)) ok_211 s_56 _ hw) ok_211 rfl rfl cv_X11_person ml_L_65 ⟨Nat.le_of_ble_eq_true rfl, Nat.le_of_ble_eq_true rfl⟩ ⟨Nat.le_of_ble_eq_true rfl, Nat.le_of_ble_eq_true rfl⟩ rfl hl.1 rfl (Nat.le_of_ble_eq_true rfl) dL_law_500) (fun r_59 s_58 H locs hw w => ?_)
      refine g_icmp_eq (pc := 503) (tgt := 1185) C rfl rfl dL_law_503 (by decide) (fun hc => ?_) (fun hc => ?_)
      · have hw := hw.1 hc
        refine g_iinc (pc := 1185) (k := 3) C dL_law_1185 hl rfl (by decide) (fun v3_60 ev3_60 ls hl => ?_)
        have hw := hw v3_60 ev3_60
        have hl : lv_has ls 4 [(3, .int (mm_I v3_60)), (0, .ref b), (1, .ref (mm_ad G 0)), (2, .ref (mm_ad G 211))] := hl
        refine lv_goto (pc := 1188) (tgt := 18) C.1 C.2.1 dL_law_1188 (by decide) ?_
        exact hw  _ _ _ w (lv_sub hl [1, 2, 3, 0] rfl)
      · have hw := hw.2 hc
        refine lv_iconst (pc := 506) (v := mm_I 0) C.1 C.2.1 dL_law_506 rfl ?_
        exact hw.elim
    have hw := hw.2 hc11
    by_cases hc12 : n32 (mm_and (sx v3) 31) = 12
    · have hw := hw.1 hc12
      refine lv_tableIn (pc := 33) (tgt := 508) C.1 C.2.1 dL_law_33 (by rw [show (mm_I (mm_and (sx v3) 31)).toInt = 12 from hc12]; decide) (by rw [show (mm_I (mm_and (sx v3) 31)).toInt = 12 from hc12]; decide) (by rw [show (mm_I (mm_and (sx v3) 31)).toInt = 12 from hc12]; first | done | rfl) (by decide) ?_
      refine lv_aload_n (pc := 508) C.1 C.2.1 dL_law_508 rfl (lv_at hl 1 rfl) ?_
      refine lv_aload_n (pc := 509) C.1 C.2.1 dL_law_509 rfl (lv_at hl 0 rfl) ?_
      refine lv_iload_n (pc := 510) C.1 C.2.1 dL_law_510 rfl (lv_at hl 3 rfl) ?_
      refine lv_iconst (pc := 511) (v := mm_I 1) C.1 C.2.1 dL_law_511 rfl ?_
      refine g_iadd (pc := 512) C dL_law_512 ?_
      obtain ⟨hi, hw⟩ := hw
      refine g_sld (pc := 513) C w hX hbl hbA hL hsx hi dL_law_513 ?_
      refine lv_aload_n (pc := 514) C.1 C.2.1 dL_law_514 rfl (lv_at hl 0 rfl) ?_
      refine lv_iload_n (pc := 515) C.1 C.2.1 dL_law_515 rfl (lv_at hl 3 rfl) ?_
      refine lv_iconst (pc := 516) (v := mm_I 2) C.1 C.2.1 dL_law_516 rfl ?_
      refine g_iadd (pc := 517) C dL_law_517 ?_
      obtain ⟨hi, hw⟩ := hw
      refine g_sld (pc := 518) C w hX hbl hbA hL hsx hi dL_law_518 ?_
      refine g_calli (pc := 519) w (mm_runV (ci := 10) (q := (RX10, TX10, 10)) (As := [.int (mm_I (sx (v3 + 1))), .int (mm_I (sx (v3 + 2)))]) (rest := []) C w (c_X10_next l G 0 (sx (v3 + 1)) (sx (v3 + 2)) ok_0 s1 _ hw) ok_0 rfl rfl cv_X10_next ml_L_66 ⟨Nat.le_of_ble_eq_true rfl, Nat.le_of_ble_eq_true rfl⟩ ⟨Nat.le_of_ble_eq_true rfl, Nat.le_of_ble_eq_true rfl⟩ rfl hl.1 rfl (Nat.le_of_ble_eq_true rfl) dL_law_519) (fun r_62 s_61 H locs hw w => ?_)
      refine lv_aload_n (pc := 522) C.1 C.2.1 dL_law_522 rfl (lv_at hl 2 rfl) ?_
      refine lv_aload_n (pc := 523) C.1 C.2.1 dL_law_523 rfl (lv_at hl 0 rfl) ?_
      refine lv_iload_n (pc := 524) C.1 C.2.1 dL_law_524 rfl (lv_at hl 3 rfl) ?_
      refine lv_iconst (pc := 525) (v := mm_I 1) C.1 C.2.1 dL_law_525 rfl ?_
      refine g_iadd (pc := 526) C dL_law_526 ?_
      obtain ⟨hi, hw⟩ := hw
      refine g_sld (pc := 527) C w hX hbl hbA hL hsx hi dL_law_527 ?_
      refine lv_aload_n (pc := 528) C.1 C.2.1 dL_law_528 rfl (lv_at hl 0 rfl) ?_
      refine lv_iload_n (pc := 529) C.1 C.2.1 dL_law_529 rfl (lv_at hl 3 rfl) ?_
      refine lv_iconst (pc := 530) (v := mm_I 2) C.1 C.2.1 dL_law_530 rfl ?_
      refine g_iadd (pc := 531) C dL_law_531 ?_
      obtain ⟨hi, hw⟩ := hw
      refine g_sld (pc := 532) C w hX hbl hbA hL hsx hi dL_law_532 ?_
      refine g_calli (pc := 533) w (mm_runV (ci := 11) (q := (RX11, TX11, 65)) (As := [.int (mm_I (sx (v3 + 1))), .int (mm_I (sx (v3 + 2)))]) (rest := [.int (mm_I r_62)]) C w (c_X11_next l G 211 (sx (v3 + 1)) (sx (v3 + 2)) ok_211 s_61 _ hw) ok_211 rfl rfl cv_X11_next ml_L_69 ⟨Nat.le_of_ble_eq_true rfl, Nat.le_of_ble_eq_true rfl⟩ ⟨Nat.le_of_ble_eq_true rfl, Nat.le_of_ble_eq_true rfl⟩ rfl hl.1 rfl (Nat.le_of_ble_eq_true rfl) dL_law_533) (fun r_64 s_63 H locs hw w => ?_)
      refine g_icmp_eq (pc := 536) (tgt := 1185) C rfl rfl dL_law_536 (by decide) (fun hc => ?_) (fun hc => ?_)
      · have hw := hw.1 hc
        refine g_iinc (pc := 1185) (k := 3) C dL_law_1185 hl rfl (by decide) (fun v3_65 ev3_65 ls hl => ?_)
        have hw := hw v3_65 ev3_65
        have hl : lv_has ls 4 [(3, .int (mm_I v3_65)), (0, .ref b), (1, .ref (mm_ad G 0)), (2, .ref (mm_ad G 211))] := hl
        refine lv_goto (pc := 1188) (tgt := 18) C.1 C.2.1 dL_law_1188 (by decide) ?_
        exact hw  _ _ _ w (lv_sub hl [1, 2, 3, 0] rfl)
      · have hw := hw.2 hc
        refine lv_iconst (pc := 539) (v := mm_I 0) C.1 C.2.1 dL_law_539 rfl ?_
        exact hw.elim
    have hw := hw.2 hc12
    by_cases hc13 : n32 (mm_and (sx v3) 31) = 13
    · have hw := hw.1 hc13
      refine lv_tableIn (pc := 33) (tgt := 541) C.1 C.2.1 dL_law_33 (by rw [show (mm_I (mm_and (sx v3) 31)).toInt = 13 from hc13]; decide) (by rw [show (mm_I (mm_and (sx v3) 31)).toInt = 13 from hc13]; decide) (by rw [show (mm_I (mm_and (sx v3) 31)).toInt = 13 from hc13]; first | done | rfl) (by decide) ?_
      refine lv_aload_n (pc := 541) C.1 C.2.1 dL_law_541 rfl (lv_at hl 1 rfl) ?_
      refine lv_aload_n (pc := 542) C.1 C.2.1 dL_law_542 rfl (lv_at hl 0 rfl) ?_
      refine lv_iload_n (pc := 543) C.1 C.2.1 dL_law_543 rfl (lv_at hl 3 rfl) ?_
      refine lv_iconst (pc := 544) (v := mm_I 1) C.1 C.2.1 dL_law_544 rfl ?_
      refine g_iadd (pc := 545) C dL_law_545 ?_
      obtain ⟨hi, hw⟩ := hw
      refine g_sld (pc := 546) C w hX hbl hbA hL hsx hi dL_law_546 ?_
      refine lv_aload_n (pc := 547) C.1 C.2.1 dL_law_547 rfl (lv_at hl 0 rfl) ?_
      refine lv_iload_n (pc := 548) C.1 C.2.1 dL_law_548 rfl (lv_at hl 3 rfl) ?_
      refine lv_iconst (pc := 549) (v := mm_I 2) C.1 C.2.1 dL_law_549 rfl ?_
      refine g_iadd (pc := 550) C dL_law_550 ?_
      obtain ⟨hi, hw⟩ := hw
      refine g_sld (pc := 551) C w hX hbl hbA hL hsx hi dL_law_551 ?_
      refine g_calli (pc := 552) w (mm_runV (ci := 10) (q := (RX10, TX10, 10)) (As := [.int (mm_I (sx (v3 + 1))), .int (mm_I (sx (v3 + 2)))]) (rest := []) C w (c_X10_inside l G 0 (sx (v3 + 1)) (sx (v3 + 2)) ok_0 s1 _ hw) ok_0 rfl rfl cv_X10_inside ml_L_70 ⟨Nat.le_of_ble_eq_true rfl, Nat.le_of_ble_eq_true rfl⟩ ⟨Nat.le_of_ble_eq_true rfl, Nat.le_of_ble_eq_true rfl⟩ rfl hl.1 rfl (Nat.le_of_ble_eq_true rfl) dL_law_552) (fun r_67 s_66 H locs hw w => ?_)
      refine lv_aload_n (pc := 555) C.1 C.2.1 dL_law_555 rfl (lv_at hl 2 rfl) ?_
      refine lv_aload_n (pc := 556) C.1 C.2.1 dL_law_556 rfl (lv_at hl 0 rfl) ?_
      refine lv_iload_n (pc := 557) C.1 C.2.1 dL_law_557 rfl (lv_at hl 3 rfl) ?_
      refine lv_iconst (pc := 558) (v := mm_I 1) C.1 C.2.1 dL_law_558 rfl ?_
      refine g_iadd (pc := 559) C dL_law_559 ?_
      obtain ⟨hi, hw⟩ := hw
      refine g_sld (pc := 560) C w hX hbl hbA hL hsx hi dL_law_560 ?_
      refine lv_aload_n (pc := 561) C.1 C.2.1 dL_law_561 rfl (lv_at hl 0 rfl) ?_
      refine lv_iload_n (pc := 562) C.1 C.2.1 dL_law_562 rfl (lv_at hl 3 rfl) ?_
      refine lv_iconst (pc := 563) (v := mm_I 2) C.1 C.2.1 dL_law_563 rfl ?_
      refine g_iadd (pc := 564) C dL_law_564 ?_
      obtain ⟨hi, hw⟩ := hw
      refine g_sld (pc := 565) C w hX hbl hbA hL hsx hi dL_law_565 ?_
      refine g_calli (pc := 566) w (mm_runV (ci := 11) (q := (RX11, TX11, 65)) (As := [.int (mm_I (sx (v3 + 1))), .int (mm_I (sx (v3 + 2)))]) (rest := [.int (mm_I r_67)]) C w (c_X11_inside l G 211 (sx (v3 + 1)) (sx (v3 + 2)) ok_211 s_66 _ hw) ok_211 rfl rfl cv_X11_inside ml_L_73 ⟨Nat.le_of_ble_eq_true rfl, Nat.le_of_ble_eq_true rfl⟩ ⟨Nat.le_of_ble_eq_true rfl, Nat.le_of_ble_eq_true rfl⟩ rfl hl.1 rfl (Nat.le_of_ble_eq_true rfl) dL_law_566) (fun r_69 s_68 H locs hw w => ?_)
      refine g_icmp_eq (pc := 569) (tgt := 1185) C rfl rfl dL_law_569 (by decide) (fun hc => ?_) (fun hc => ?_)
      · have hw := hw.1 hc
        refine g_iinc (pc := 1185) (k := 3) C dL_law_1185 hl rfl (by decide) (fun v3_70 ev3_70 ls hl => ?_)
        have hw := hw v3_70 ev3_70
        have hl : lv_has ls 4 [(3, .int (mm_I v3_70)), (0, .ref b), (1, .ref (mm_ad G 0)), (2, .ref (mm_ad G 211))] := hl
        refine lv_goto (pc := 1188) (tgt := 18) C.1 C.2.1 dL_law_1188 (by decide) ?_
        exact hw  _ _ _ w (lv_sub hl [1, 2, 3, 0] rfl)
      · have hw := hw.2 hc
        refine lv_iconst (pc := 572) (v := mm_I 0) C.1 C.2.1 dL_law_572 rfl ?_
        exact hw.elim
    have hw := hw.2 hc13
    by_cases hc14 : n32 (mm_and (sx v3) 31) = 14
    · have hw := hw.1 hc14
      refine lv_tableIn (pc := 33) (tgt := 574) C.1 C.2.1 dL_law_33 (by rw [show (mm_I (mm_and (sx v3) 31)).toInt = 14 from hc14]; decide) (by rw [show (mm_I (mm_and (sx v3) 31)).toInt = 14 from hc14]; decide) (by rw [show (mm_I (mm_and (sx v3) 31)).toInt = 14 from hc14]; first | done | rfl) (by decide) ?_
      refine lv_aload_n (pc := 574) C.1 C.2.1 dL_law_574 rfl (lv_at hl 1 rfl) ?_
      refine lv_aload_n (pc := 575) C.1 C.2.1 dL_law_575 rfl (lv_at hl 0 rfl) ?_
      refine lv_iload_n (pc := 576) C.1 C.2.1 dL_law_576 rfl (lv_at hl 3 rfl) ?_
      refine lv_iconst (pc := 577) (v := mm_I 1) C.1 C.2.1 dL_law_577 rfl ?_
      refine g_iadd (pc := 578) C dL_law_578 ?_
      obtain ⟨hi, hw⟩ := hw
      refine g_sld (pc := 579) C w hX hbl hbA hL hsx hi dL_law_579 ?_
      refine g_calli (pc := 580) w (mm_runV (ci := 10) (q := (RX10, TX10, 10)) (As := [.int (mm_I (sx (v3 + 1)))]) (rest := []) C w (c_X10_go l G 0 (sx (v3 + 1)) ok_0 s1 _ hw) ok_0 rfl rfl cv_X10_go ml_L_74 ⟨Nat.le_of_ble_eq_true rfl, Nat.le_of_ble_eq_true rfl⟩ ⟨Nat.le_of_ble_eq_true rfl, Nat.le_of_ble_eq_true rfl⟩ rfl hl.1 rfl (Nat.le_of_ble_eq_true rfl) dL_law_580) (fun r_72 s_71 H locs hw w => ?_)
      refine lv_aload_n (pc := 583) C.1 C.2.1 dL_law_583 rfl (lv_at hl 2 rfl) ?_
      refine lv_aload_n (pc := 584) C.1 C.2.1 dL_law_584 rfl (lv_at hl 0 rfl) ?_
      refine lv_iload_n (pc := 585) C.1 C.2.1 dL_law_585 rfl (lv_at hl 3 rfl) ?_
      refine lv_iconst (pc := 586) (v := mm_I 1) C.1 C.2.1 dL_law_586 rfl ?_
      refine g_iadd (pc := 587) C dL_law_587 ?_
      obtain ⟨hi, hw⟩ := hw
      refine g_sld (pc := 588) C w hX hbl hbA hL hsx hi dL_law_588 ?_
      refine g_calli (pc := 589) w (mm_runV (ci := 11) (q := (RX11, TX11, 65)) (As := [.int (mm_I (sx (v3 + 1)))]) (rest := [.int (mm_I r_72)]) C w (c_X11_go l G 211 (sx (v3 + 1)) ok_211 s_71 _ hw) ok_211 rfl rfl cv_X11_go ml_L_77 ⟨Nat.le_of_ble_eq_true rfl, Nat.le_of_ble_eq_true rfl⟩ ⟨Nat.le_of_ble_eq_true rfl, Nat.le_of_ble_eq_true rfl⟩ rfl hl.1 rfl (Nat.le_of_ble_eq_true rfl) dL_law_589) (fun r_74 s_73 H locs hw w => ?_)
      refine g_icmp_eq (pc := 592) (tgt := 1185) C rfl rfl dL_law_592 (by decide) (fun hc => ?_) (fun hc => ?_)
      · have hw := hw.1 hc
        refine g_iinc (pc := 1185) (k := 3) C dL_law_1185 hl rfl (by decide) (fun v3_75 ev3_75 ls hl => ?_)
        have hw := hw v3_75 ev3_75
        have hl : lv_has ls 4 [(3, .int (mm_I v3_75)), (0, .ref b), (1, .ref (mm_ad G 0)), (2, .ref (mm_ad G 211))] := hl
        refine lv_goto (pc := 1188) (tgt := 18) C.1 C.2.1 dL_law_1188 (by decide) ?_
        exact hw  _ _ _ w (lv_sub hl [1, 2, 3, 0] rfl)
      · have hw := hw.2 hc
        refine lv_iconst (pc := 595) (v := mm_I 0) C.1 C.2.1 dL_law_595 rfl ?_
        exact hw.elim
    have hw := hw.2 hc14
    by_cases hc15 : n32 (mm_and (sx v3) 31) = 15
    · have hw := hw.1 hc15
      refine lv_tableIn (pc := 33) (tgt := 597) C.1 C.2.1 dL_law_33 (by rw [show (mm_I (mm_and (sx v3) 31)).toInt = 15 from hc15]; decide) (by rw [show (mm_I (mm_and (sx v3) 31)).toInt = 15 from hc15]; decide) (by rw [show (mm_I (mm_and (sx v3) 31)).toInt = 15 from hc15]; first | done | rfl) (by decide) ?_
      refine lv_aload_n (pc := 597) C.1 C.2.1 dL_law_597 rfl (lv_at hl 1 rfl) ?_
      refine lv_aload_n (pc := 598) C.1 C.2.1 dL_law_598 rfl (lv_at hl 0 rfl) ?_
      refine lv_iload_n (pc := 599) C.1 C.2.1 dL_law_599 rfl (lv_at hl 3 rfl) ?_
      refine lv_iconst (pc := 600) (v := mm_I 1) C.1 C.2.1 dL_law_600 rfl ?_
      refine g_iadd (pc := 601) C dL_law_601 ?_
      obtain ⟨hi, hw⟩ := hw
      refine g_sld (pc := 602) C w hX hbl hbA hL hsx hi dL_law_602 ?_
      refine lv_aload_n (pc := 603) C.1 C.2.1 dL_law_603 rfl (lv_at hl 0 rfl) ?_
      refine lv_iload_n (pc := 604) C.1 C.2.1 dL_law_604 rfl (lv_at hl 3 rfl) ?_
      refine lv_iconst (pc := 605) (v := mm_I 2) C.1 C.2.1 dL_law_605 rfl ?_
      refine g_iadd (pc := 606) C dL_law_606 ?_
      obtain ⟨hi, hw⟩ := hw
      refine g_sld (pc := 607) C w hX hbl hbA hL hsx hi dL_law_607 ?_
      refine g_calli (pc := 608) w (mm_runV (ci := 10) (q := (RX10, TX10, 10)) (As := [.int (mm_I (sx (v3 + 1))), .int (mm_I (sx (v3 + 2)))]) (rest := []) C w (c_X10_comer l G 0 (sx (v3 + 1)) (sx (v3 + 2)) ok_0 s1 _ hw) ok_0 rfl rfl cv_X10_comer ml_L_78 ⟨Nat.le_of_ble_eq_true rfl, Nat.le_of_ble_eq_true rfl⟩ ⟨Nat.le_of_ble_eq_true rfl, Nat.le_of_ble_eq_true rfl⟩ rfl hl.1 rfl (Nat.le_of_ble_eq_true rfl) dL_law_608) (fun r_77 s_76 H locs hw w => ?_)
      refine lv_aload_n (pc := 611) C.1 C.2.1 dL_law_611 rfl (lv_at hl 2 rfl) ?_
      refine lv_aload_n (pc := 612) C.1 C.2.1 dL_law_612 rfl (lv_at hl 0 rfl) ?_
      refine lv_iload_n (pc := 613) C.1 C.2.1 dL_law_613 rfl (lv_at hl 3 rfl) ?_
      refine lv_iconst (pc := 614) (v := mm_I 1) C.1 C.2.1 dL_law_614 rfl ?_
      refine g_iadd (pc := 615) C dL_law_615 ?_
      obtain ⟨hi, hw⟩ := hw
      refine g_sld (pc := 616) C w hX hbl hbA hL hsx hi dL_law_616 ?_
      refine lv_aload_n (pc := 617) C.1 C.2.1 dL_law_617 rfl (lv_at hl 0 rfl) ?_
      refine lv_iload_n (pc := 618) C.1 C.2.1 dL_law_618 rfl (lv_at hl 3 rfl) ?_
      refine lv_iconst (pc := 619) (v := mm_I 2) C.1 C.2.1 dL_law_619 rfl ?_
      refine g_iadd (pc := 620) C dL_law_620 ?_
      obtain ⟨hi, hw⟩ := hw
      refine g_sld (pc := 621) C w hX hbl hbA hL hsx hi dL_law_621 ?_
      refine g_calli (pc := 622) w (mm_runV (ci := 11) (q := (RX11, TX11, 65)) (As := [.int (mm_I (sx (v3 + 1))), .int (mm_I (sx (v3 + 2)))]) (rest := [.int (mm_I r_77)]) C w (c_X11_comer l G 211 (sx (v3 + 1)) (sx (v3 + 2)) ok_211 s_76 _ hw) ok_211 rfl rfl cv_X11_comer ml_L_81 ⟨Nat.le_of_ble_eq_true rfl, Nat.le_of_ble_eq_true rfl⟩ ⟨Nat.le_of_ble_eq_true rfl, Nat.le_of_ble_eq_true rfl⟩ rfl hl.1 rfl (Nat.le_of_ble_eq_true rfl) dL_law_622) (fun r_79 s_78 H locs hw w => ?_)
      refine g_icmp_eq (pc := 625) (tgt := 1185) C rfl rfl dL_law_625 (by decide) (fun hc => ?_) (fun hc => ?_)
      · have hw := hw.1 hc
        refine g_iinc (pc := 1185) (k := 3) C dL_law_1185 hl rfl (by decide) (fun v3_80 ev3_80 ls hl => ?_)
        have hw := hw v3_80 ev3_80
        have hl : lv_has ls 4 [(3, .int (mm_I v3_80)), (0, .ref b), (1, .ref (mm_ad G 0)), (2, .ref (mm_ad G 211))] := hl
        refine lv_goto (pc := 1188) (tgt := 18) C.1 C.2.1 dL_law_1188 (by decide) ?_
        exact hw  _ _ _ w (lv_sub hl [1, 2, 3, 0] rfl)
      · have hw := hw.2 hc
        refine lv_iconst (pc := 628) (v := mm_I 0) C.1 C.2.1 dL_law_628 rfl ?_
        exact hw.elim
    have hw := hw.2 hc15
    by_cases hc16 : n32 (mm_and (sx v3) 31) = 16
    · have hw := hw.1 hc16
      refine lv_tableIn (pc := 33) (tgt := 630) C.1 C.2.1 dL_law_33 (by rw [show (mm_I (mm_and (sx v3) 31)).toInt = 16 from hc16]; decide) (by rw [show (mm_I (mm_and (sx v3) 31)).toInt = 16 from hc16]; decide) (by rw [show (mm_I (mm_and (sx v3) 31)).toInt = 16 from hc16]; first | done | rfl) (by decide) ?_
      refine lv_aload_n (pc := 630) C.1 C.2.1 dL_law_630 rfl (lv_at hl 1 rfl) ?_
      refine g_calli (pc := 631) w (mm_runV (ci := 10) (q := (RX10, TX10, 10)) (As := []) (rest := []) C w (c_X10_clear l G 0 ok_0 s1 _ hw) ok_0 rfl rfl cv_X10_clear ml_L_82 ⟨Nat.le_of_ble_eq_true rfl, Nat.le_of_ble_eq_true rfl⟩ ⟨Nat.le_of_ble_eq_true rfl, Nat.le_of_ble_eq_true rfl⟩ rfl hl.1 rfl (Nat.le_of_ble_eq_true rfl) dL_law_631) (fun r_82 s_81 H locs hw w => ?_)
      refine lv_aload_n (pc := 634) C.1 C.2.1 dL_law_634 rfl (lv_at hl 2 rfl) ?_
      refine g_calli (pc := 635) w (mm_runV (ci := 11) (q := (RX11, TX11, 65)) (As := []) (rest := [.int (mm_I r_82)]) C w (c_X11_clear l G 211 ok_211 s_81 _ hw) ok_211 rfl rfl cv_X11_clear ml_L_85 ⟨Nat.le_of_ble_eq_true rfl, Nat.le_of_ble_eq_true rfl⟩ ⟨Nat.le_of_ble_eq_true rfl, Nat.le_of_ble_eq_true rfl⟩ rfl hl.1 rfl (Nat.le_of_ble_eq_true rfl) dL_law_635) (fun r_84 s_83 H locs hw w => ?_)
      refine g_icmp_eq (pc := 638) (tgt := 1185) C rfl rfl dL_law_638 (by decide) (fun hc => ?_) (fun hc => ?_)
      · have hw := hw.1 hc
        refine g_iinc (pc := 1185) (k := 3) C dL_law_1185 hl rfl (by decide) (fun v3_85 ev3_85 ls hl => ?_)
        have hw := hw v3_85 ev3_85
        have hl : lv_has ls 4 [(3, .int (mm_I v3_85)), (0, .ref b), (1, .ref (mm_ad G 0)), (2, .ref (mm_ad G 211))] := hl
        refine lv_goto (pc := 1188) (tgt := 18) C.1 C.2.1 dL_law_1188 (by decide) ?_
        exact hw  _ _ _ w (lv_sub hl [1, 2, 3, 0] rfl)
      · have hw := hw.2 hc
        refine lv_iconst (pc := 641) (v := mm_I 0) C.1 C.2.1 dL_law_641 rfl ?_
        exact hw.elim
    have hw := hw.2 hc16
    by_cases hc17 : n32 (mm_and (sx v3) 31) = 17
    · have hw := hw.1 hc17
      refine lv_tableIn (pc := 33) (tgt := 643) C.1 C.2.1 dL_law_33 (by rw [show (mm_I (mm_and (sx v3) 31)).toInt = 17 from hc17]; decide) (by rw [show (mm_I (mm_and (sx v3) 31)).toInt = 17 from hc17]; decide) (by rw [show (mm_I (mm_and (sx v3) 31)).toInt = 17 from hc17]; first | done | rfl) (by decide) ?_
      refine lv_aload_n (pc := 643) C.1 C.2.1 dL_law_643 rfl (lv_at hl 1 rfl) ?_
      refine lv_aload_n (pc := 644) C.1 C.2.1 dL_law_644 rfl (lv_at hl 0 rfl) ?_
      refine lv_iload_n (pc := 645) C.1 C.2.1 dL_law_645 rfl (lv_at hl 3 rfl) ?_
      refine lv_iconst (pc := 646) (v := mm_I 1) C.1 C.2.1 dL_law_646 rfl ?_
      refine g_iadd (pc := 647) C dL_law_647 ?_
      obtain ⟨hi, hw⟩ := hw
      refine g_sld (pc := 648) C w hX hbl hbA hL hsx hi dL_law_648 ?_
      refine lv_aload_n (pc := 649) C.1 C.2.1 dL_law_649 rfl (lv_at hl 0 rfl) ?_
      refine lv_iload_n (pc := 650) C.1 C.2.1 dL_law_650 rfl (lv_at hl 3 rfl) ?_
      refine lv_iconst (pc := 651) (v := mm_I 2) C.1 C.2.1 dL_law_651 rfl ?_
      refine g_iadd (pc := 652) C dL_law_652 ?_
      obtain ⟨hi, hw⟩ := hw
      refine g_sld (pc := 653) C w hX hbl hbA hL hsx hi dL_law_653 ?_
      refine lv_aload_n (pc := 654) C.1 C.2.1 dL_law_654 rfl (lv_at hl 0 rfl) ?_
      refine lv_iload_n (pc := 655) C.1 C.2.1 dL_law_655 rfl (lv_at hl 3 rfl) ?_
      refine lv_iconst (pc := 656) (v := mm_I 3) C.1 C.2.1 dL_law_656 rfl ?_
      refine g_iadd (pc := 657) C dL_law_657 ?_
      obtain ⟨hi, hw⟩ := hw
      refine g_sld (pc := 658) C w hX hbl hbA hL hsx hi dL_law_658 ?_
      refine g_calli (pc := 659) w (mm_runV (ci := 10) (q := (RX10, TX10, 10)) (As := [.int (mm_I (sx (v3 + 1))), .int (mm_I (sx (v3 + 2))), .int (mm_I (sx (v3 + 3)))]) (rest := []) C w (c_X10_waits l G 0 (sx (v3 + 1)) (sx (v3 + 2)) (sx (v3 + 3)) ok_0 s1 _ hw) ok_0 rfl rfl cv_X10_waits ml_L_86 ⟨Nat.le_of_ble_eq_true rfl, Nat.le_of_ble_eq_true rfl⟩ ⟨Nat.le_of_ble_eq_true rfl, Nat.le_of_ble_eq_true rfl⟩ rfl hl.1 rfl (Nat.le_of_ble_eq_true rfl) dL_law_659) (fun r_87 s_86 H locs hw w => ?_)
      refine lv_aload_n (pc := 662) C.1 C.2.1 dL_law_662 rfl (lv_at hl 2 rfl) ?_
      refine lv_aload_n (pc := 663) C.1 C.2.1 dL_law_663 rfl (lv_at hl 0 rfl) ?_
      refine lv_iload_n (pc := 664) C.1 C.2.1 dL_law_664 rfl (lv_at hl 3 rfl) ?_
      refine lv_iconst (pc := 665) (v := mm_I 1) C.1 C.2.1 dL_law_665 rfl ?_
      refine g_iadd (pc := 666) C dL_law_666 ?_
      obtain ⟨hi, hw⟩ := hw
      refine g_sld (pc := 667) C w hX hbl hbA hL hsx hi dL_law_667 ?_
      refine lv_aload_n (pc := 668) C.1 C.2.1 dL_law_668 rfl (lv_at hl 0 rfl) ?_
      refine lv_iload_n (pc := 669) C.1 C.2.1 dL_law_669 rfl (lv_at hl 3 rfl) ?_
      refine lv_iconst (pc := 670) (v := mm_I 2) C.1 C.2.1 dL_law_670 rfl ?_
      refine g_iadd (pc := 671) C dL_law_671 ?_
      obtain ⟨hi, hw⟩ := hw
      refine g_sld (pc := 672) C w hX hbl hbA hL hsx hi dL_law_672 ?_
      refine lv_aload_n (pc := 673) C.1 C.2.1 dL_law_673 rfl (lv_at hl 0 rfl) ?_
      refine lv_iload_n (pc := 674) C.1 C.2.1 dL_law_674 rfl (lv_at hl 3 rfl) ?_
      refine lv_iconst (pc := 675) (v := mm_I 3) C.1 C.2.1 dL_law_675 rfl ?_
      refine g_iadd (pc := 676) C dL_law_676 ?_
      obtain ⟨hi, hw⟩ := hw
      refine g_sld (pc := 677) C w hX hbl hbA hL hsx hi dL_law_677 ?_
      refine g_calli (pc := 678) w (mm_runV (ci := 11) (q := (RX11, TX11, 65)) (As := [.int (mm_I (sx (v3 + 1))), .int (mm_I (sx (v3 + 2))), .int (mm_I (sx (v3 + 3)))]) (rest := [.int (mm_I r_87)]) C w (c_X11_waits l G 211 (sx (v3 + 1)) (sx (v3 + 2)) (sx (v3 + 3)) ok_211 s_86 _ hw) ok_211 rfl rfl cv_X11_waits ml_L_90 ⟨Nat.le_of_ble_eq_true rfl, Nat.le_of_ble_eq_true rfl⟩ ⟨Nat.le_of_ble_eq_true rfl, Nat.le_of_ble_eq_true rfl⟩ rfl hl.1 rfl (Nat.le_of_ble_eq_true rfl) dL_law_678) (fun r_89 s_88 H locs hw w => ?_)
      refine g_icmp_eq (pc := 681) (tgt := 1185) C rfl rfl dL_law_681 (by decide) (fun hc => ?_) (fun hc => ?_)
      · have hw := hw.1 hc
        refine g_iinc (pc := 1185) (k := 3) C dL_law_1185 hl rfl (by decide) (fun v3_90 ev3_90 ls hl => ?_)
        have hw := hw v3_90 ev3_90
        have hl : lv_has ls 4 [(3, .int (mm_I v3_90)), (0, .ref b), (1, .ref (mm_ad G 0)), (2, .ref (mm_ad G 211))] := hl
        refine lv_goto (pc := 1188) (tgt := 18) C.1 C.2.1 dL_law_1188 (by decide) ?_
        exact hw  _ _ _ w (lv_sub hl [1, 2, 3, 0] rfl)
      · have hw := hw.2 hc
        refine lv_iconst (pc := 684) (v := mm_I 0) C.1 C.2.1 dL_law_684 rfl ?_
        exact hw.elim
    have hw := hw.2 hc17
    by_cases hc18 : n32 (mm_and (sx v3) 31) = 18
    · have hw := hw.1 hc18
      refine lv_tableIn (pc := 33) (tgt := 686) C.1 C.2.1 dL_law_33 (by rw [show (mm_I (mm_and (sx v3) 31)).toInt = 18 from hc18]; decide) (by rw [show (mm_I (mm_and (sx v3) 31)).toInt = 18 from hc18]; decide) (by rw [show (mm_I (mm_and (sx v3) 31)).toInt = 18 from hc18]; first | done | rfl) (by decide) ?_
      refine lv_aload_n (pc := 686) C.1 C.2.1 dL_law_686 rfl (lv_at hl 1 rfl) ?_
      refine g_calli (pc := 687) w (mm_runV (ci := 10) (q := (RX10, TX10, 10)) (As := []) (rest := []) C w (c_X10_lot l G 0 ok_0 s1 _ hw) ok_0 rfl rfl cv_X10_lot ml_L_91 ⟨Nat.le_of_ble_eq_true rfl, Nat.le_of_ble_eq_true rfl⟩ ⟨Nat.le_of_ble_eq_true rfl, Nat.le_of_ble_eq_true rfl⟩ rfl hl.1 rfl (Nat.le_of_ble_eq_true rfl) dL_law_687) (fun r_92 s_91 H locs hw w => ?_)
      refine lv_aload_n (pc := 690) C.1 C.2.1 dL_law_690 rfl (lv_at hl 2 rfl) ?_
      refine g_calli (pc := 691) w (mm_runV (ci := 11) (q := (RX11, TX11, 65)) (As := []) (rest := [.int (mm_I r_92)]) C w (c_X11_lot l G 211 ok_211 s_91 _ hw) ok_211 rfl rfl cv_X11_lot ml_L_94 ⟨Nat.le_of_ble_eq_true rfl, Nat.le_of_ble_eq_true rfl⟩ ⟨Nat.le_of_ble_eq_true rfl, Nat.le_of_ble_eq_true rfl⟩ rfl hl.1 rfl (Nat.le_of_ble_eq_true rfl) dL_law_691) (fun r_94 s_93 H locs hw w => ?_)
      refine g_icmp_eq (pc := 694) (tgt := 1185) C rfl rfl dL_law_694 (by decide) (fun hc => ?_) (fun hc => ?_)
      · have hw := hw.1 hc
        refine g_iinc (pc := 1185) (k := 3) C dL_law_1185 hl rfl (by decide) (fun v3_95 ev3_95 ls hl => ?_)
        have hw := hw v3_95 ev3_95
        have hl : lv_has ls 4 [(3, .int (mm_I v3_95)), (0, .ref b), (1, .ref (mm_ad G 0)), (2, .ref (mm_ad G 211))] := hl
        refine lv_goto (pc := 1188) (tgt := 18) C.1 C.2.1 dL_law_1188 (by decide) ?_
        exact hw  _ _ _ w (lv_sub hl [1, 2, 3, 0] rfl)
      · have hw := hw.2 hc
        refine lv_iconst (pc := 697) (v := mm_I 0) C.1 C.2.1 dL_law_697 rfl ?_
        exact hw.elim
    have hw := hw.2 hc18
    by_cases hc19 : n32 (mm_and (sx v3) 31) = 19
    · have hw := hw.1 hc19
      refine lv_tableIn (pc := 33) (tgt := 699) C.1 C.2.1 dL_law_33 (by rw [show (mm_I (mm_and (sx v3) 31)).toInt = 19 from hc19]; decide) (by rw [show (mm_I (mm_and (sx v3) 31)).toInt = 19 from hc19]; decide) (by rw [show (mm_I (mm_and (sx v3) 31)).toInt = 19 from hc19]; first | done | rfl) (by decide) ?_
      refine lv_aload_n (pc := 699) C.1 C.2.1 dL_law_699 rfl (lv_at hl 1 rfl) ?_
      refine g_calli (pc := 700) w (mm_runV (ci := 10) (q := (RX10, TX10, 10)) (As := []) (rest := []) C w (c_X10_best l G 0 ok_0 s1 _ hw) ok_0 rfl rfl cv_X10_best ml_L_95 ⟨Nat.le_of_ble_eq_true rfl, Nat.le_of_ble_eq_true rfl⟩ ⟨Nat.le_of_ble_eq_true rfl, Nat.le_of_ble_eq_true rfl⟩ rfl hl.1 rfl (Nat.le_of_ble_eq_true rfl) dL_law_700) (fun r_97 s_96 H locs hw w => ?_)
      refine lv_aload_n (pc := 703) C.1 C.2.1 dL_law_703 rfl (lv_at hl 2 rfl) ?_
      refine g_calli (pc := 704) w (mm_runV (ci := 11) (q := (RX11, TX11, 65)) (As := []) (rest := [.int (mm_I r_97)]) C w (c_X11_best l G 211 ok_211 s_96 _ hw) ok_211 rfl rfl cv_X11_best ml_L_98 ⟨Nat.le_of_ble_eq_true rfl, Nat.le_of_ble_eq_true rfl⟩ ⟨Nat.le_of_ble_eq_true rfl, Nat.le_of_ble_eq_true rfl⟩ rfl hl.1 rfl (Nat.le_of_ble_eq_true rfl) dL_law_704) (fun r_99 s_98 H locs hw w => ?_)
      refine g_icmp_eq (pc := 707) (tgt := 1185) C rfl rfl dL_law_707 (by decide) (fun hc => ?_) (fun hc => ?_)
      · have hw := hw.1 hc
        refine g_iinc (pc := 1185) (k := 3) C dL_law_1185 hl rfl (by decide) (fun v3_100 ev3_100 ls hl => ?_)
        have hw := hw v3_100 ev3_100
        have hl : lv_has ls 4 [(3, .int (mm_I v3_100)), (0, .ref b), (1, .ref (mm_ad G 0)), (2, .ref (mm_ad G 211))] := hl
        refine lv_goto (pc := 1188) (tgt := 18) C.1 C.2.1 dL_law_1188 (by decide) ?_
        exact hw  _ _ _ w (lv_sub hl [1, 2, 3, 0] rfl)
      · have hw := hw.2 hc
        refine lv_iconst (pc := 710) (v := mm_I 0) C.1 C.2.1 dL_law_710 rfl ?_
        exact hw.elim
    have hw := hw.2 hc19
    by_cases hc20 : n32 (mm_and (sx v3) 31) = 20
    · have hw := hw.1 hc20
      refine lv_tableIn (pc := 33) (tgt := 712) C.1 C.2.1 dL_law_33 (by rw [show (mm_I (mm_and (sx v3) 31)).toInt = 20 from hc20]; decide) (by rw [show (mm_I (mm_and (sx v3) 31)).toInt = 20 from hc20]; decide) (by rw [show (mm_I (mm_and (sx v3) 31)).toInt = 20 from hc20]; first | done | rfl) (by decide) ?_
      refine lv_aload_n (pc := 712) C.1 C.2.1 dL_law_712 rfl (lv_at hl 1 rfl) ?_
      refine lv_aload_n (pc := 713) C.1 C.2.1 dL_law_713 rfl (lv_at hl 0 rfl) ?_
      refine lv_iload_n (pc := 714) C.1 C.2.1 dL_law_714 rfl (lv_at hl 3 rfl) ?_
      refine lv_iconst (pc := 715) (v := mm_I 1) C.1 C.2.1 dL_law_715 rfl ?_
      refine g_iadd (pc := 716) C dL_law_716 ?_
      obtain ⟨hi, hw⟩ := hw
      refine g_sld (pc := 717) C w hX hbl hbA hL hsx hi dL_law_717 ?_
      refine lv_aload_n (pc := 718) C.1 C.2.1 dL_law_718 rfl (lv_at hl 0 rfl) ?_
      refine lv_iload_n (pc := 719) C.1 C.2.1 dL_law_719 rfl (lv_at hl 3 rfl) ?_
      refine lv_iconst (pc := 720) (v := mm_I 2) C.1 C.2.1 dL_law_720 rfl ?_
      refine g_iadd (pc := 721) C dL_law_721 ?_
      obtain ⟨hi, hw⟩ := hw
      refine g_sld (pc := 722) C w hX hbl hbA hL hsx hi dL_law_722 ?_
      refine g_calli (pc := 723) w (mm_runV (ci := 10) (q := (RX10, TX10, 10)) (As := [.int (mm_I (sx (v3 + 1))), .int (mm_I (sx (v3 + 2)))]) (rest := []) C w (c_X10_book l G 0 (sx (v3 + 1)) (sx (v3 + 2)) ok_0 s1 _ hw) ok_0 rfl rfl cv_X10_book ml_L_99 ⟨Nat.le_of_ble_eq_true rfl, Nat.le_of_ble_eq_true rfl⟩ ⟨Nat.le_of_ble_eq_true rfl, Nat.le_of_ble_eq_true rfl⟩ rfl hl.1 rfl (Nat.le_of_ble_eq_true rfl) dL_law_723) (fun r_102 s_101 H locs hw w => ?_)
      refine lv_aload_n (pc := 726) C.1 C.2.1 dL_law_726 rfl (lv_at hl 2 rfl) ?_
      refine lv_aload_n (pc := 727) C.1 C.2.1 dL_law_727 rfl (lv_at hl 0 rfl) ?_
      refine lv_iload_n (pc := 728) C.1 C.2.1 dL_law_728 rfl (lv_at hl 3 rfl) ?_
      refine lv_iconst (pc := 729) (v := mm_I 1) C.1 C.2.1 dL_law_729 rfl ?_
      refine g_iadd (pc := 730) C dL_law_730 ?_
      obtain ⟨hi, hw⟩ := hw
      refine g_sld (pc := 731) C w hX hbl hbA hL hsx hi dL_law_731 ?_
      refine lv_aload_n (pc := 732) C.1 C.2.1 dL_law_732 rfl (lv_at hl 0 rfl) ?_
      refine lv_iload_n (pc := 733) C.1 C.2.1 dL_law_733 rfl (lv_at hl 3 rfl) ?_
      refine lv_iconst (pc := 734) (v := mm_I 2) C.1 C.2.1 dL_law_734 rfl ?_
      refine g_iadd (pc := 735) C dL_law_735 ?_
      obtain ⟨hi, hw⟩ := hw
      refine g_sld (pc := 736) C w hX hbl hbA hL hsx hi dL_law_736 ?_
      refine g_calli (pc := 737) w (mm_runV (ci := 11) (q := (RX11, TX11, 65)) (As := [.int (mm_I (sx (v3 + 1))), .int (mm_I (sx (v3 + 2)))]) (rest := [.int (mm_I r_102)]) C w (c_X11_book l G 211 (sx (v3 + 1)) (sx (v3 + 2)) ok_211 s_101 _ hw) ok_211 rfl rfl cv_X11_book ml_L_102 ⟨Nat.le_of_ble_eq_true rfl, Nat.le_of_ble_eq_true rfl⟩ ⟨Nat.le_of_ble_eq_true rfl, Nat.le_of_ble_eq_true rfl⟩ rfl hl.1 rfl (Nat.le_of_ble_eq_true rfl) dL_law_737) (fun r_104 s_103 H locs hw w => ?_)
      refine g_icmp_eq (pc := 740) (tgt := 1185) C rfl rfl dL_law_740 (by decide) (fun hc => ?_) (fun hc => ?_)
      · have hw := hw.1 hc
        refine g_iinc (pc := 1185) (k := 3) C dL_law_1185 hl rfl (by decide) (fun v3_105 ev3_105 ls hl => ?_)
        have hw := hw v3_105 ev3_105
        have hl : lv_has ls 4 [(3, .int (mm_I v3_105)), (0, .ref b), (1, .ref (mm_ad G 0)), (2, .ref (mm_ad G 211))] := hl
        refine lv_goto (pc := 1188) (tgt := 18) C.1 C.2.1 dL_law_1188 (by decide) ?_
        exact hw  _ _ _ w (lv_sub hl [1, 2, 3, 0] rfl)
      · have hw := hw.2 hc
        refine lv_iconst (pc := 743) (v := mm_I 0) C.1 C.2.1 dL_law_743 rfl ?_
        exact hw.elim
    have hw := hw.2 hc20
    by_cases hc21 : n32 (mm_and (sx v3) 31) = 21
    · have hw := hw.1 hc21
      refine lv_tableIn (pc := 33) (tgt := 745) C.1 C.2.1 dL_law_33 (by rw [show (mm_I (mm_and (sx v3) 31)).toInt = 21 from hc21]; decide) (by rw [show (mm_I (mm_and (sx v3) 31)).toInt = 21 from hc21]; decide) (by rw [show (mm_I (mm_and (sx v3) 31)).toInt = 21 from hc21]; first | done | rfl) (by decide) ?_
      refine lv_aload_n (pc := 745) C.1 C.2.1 dL_law_745 rfl (lv_at hl 1 rfl) ?_
      refine lv_aload_n (pc := 746) C.1 C.2.1 dL_law_746 rfl (lv_at hl 0 rfl) ?_
      refine lv_iload_n (pc := 747) C.1 C.2.1 dL_law_747 rfl (lv_at hl 3 rfl) ?_
      refine lv_iconst (pc := 748) (v := mm_I 1) C.1 C.2.1 dL_law_748 rfl ?_
      refine g_iadd (pc := 749) C dL_law_749 ?_
      obtain ⟨hi, hw⟩ := hw
      refine g_sld (pc := 750) C w hX hbl hbA hL hsx hi dL_law_750 ?_
      refine lv_aload_n (pc := 751) C.1 C.2.1 dL_law_751 rfl (lv_at hl 0 rfl) ?_
      refine lv_iload_n (pc := 752) C.1 C.2.1 dL_law_752 rfl (lv_at hl 3 rfl) ?_
      refine lv_iconst (pc := 753) (v := mm_I 2) C.1 C.2.1 dL_law_753 rfl ?_
      refine g_iadd (pc := 754) C dL_law_754 ?_
      obtain ⟨hi, hw⟩ := hw
      refine g_sld (pc := 755) C w hX hbl hbA hL hsx hi dL_law_755 ?_
      refine g_calli (pc := 756) w (mm_runV (ci := 10) (q := (RX10, TX10, 10)) (As := [.int (mm_I (sx (v3 + 1))), .int (mm_I (sx (v3 + 2)))]) (rest := []) C w (c_X10_judge l G 0 (sx (v3 + 1)) (sx (v3 + 2)) ok_0 s1 _ hw) ok_0 rfl rfl cv_X10_judge ml_L_103 ⟨Nat.le_of_ble_eq_true rfl, Nat.le_of_ble_eq_true rfl⟩ ⟨Nat.le_of_ble_eq_true rfl, Nat.le_of_ble_eq_true rfl⟩ rfl hl.1 rfl (Nat.le_of_ble_eq_true rfl) dL_law_756) (fun r_107 s_106 H locs hw w => ?_)
      refine lv_aload_n (pc := 759) C.1 C.2.1 dL_law_759 rfl (lv_at hl 2 rfl) ?_
      refine lv_aload_n (pc := 760) C.1 C.2.1 dL_law_760 rfl (lv_at hl 0 rfl) ?_
      refine lv_iload_n (pc := 761) C.1 C.2.1 dL_law_761 rfl (lv_at hl 3 rfl) ?_
      refine lv_iconst (pc := 762) (v := mm_I 1) C.1 C.2.1 dL_law_762 rfl ?_
      refine g_iadd (pc := 763) C dL_law_763 ?_
      obtain ⟨hi, hw⟩ := hw
      refine g_sld (pc := 764) C w hX hbl hbA hL hsx hi dL_law_764 ?_
      refine lv_aload_n (pc := 765) C.1 C.2.1 dL_law_765 rfl (lv_at hl 0 rfl) ?_
      refine lv_iload_n (pc := 766) C.1 C.2.1 dL_law_766 rfl (lv_at hl 3 rfl) ?_
      refine lv_iconst (pc := 767) (v := mm_I 2) C.1 C.2.1 dL_law_767 rfl ?_
      refine g_iadd (pc := 768) C dL_law_768 ?_
      obtain ⟨hi, hw⟩ := hw
      refine g_sld (pc := 769) C w hX hbl hbA hL hsx hi dL_law_769 ?_
      refine g_calli (pc := 770) w (mm_runV (ci := 11) (q := (RX11, TX11, 65)) (As := [.int (mm_I (sx (v3 + 1))), .int (mm_I (sx (v3 + 2)))]) (rest := [.int (mm_I r_107)]) C w (c_X11_judge l G 211 (sx (v3 + 1)) (sx (v3 + 2)) ok_211 s_106 _ hw) ok_211 rfl rfl cv_X11_judge ml_L_106 ⟨Nat.le_of_ble_eq_true rfl, Nat.le_of_ble_eq_true rfl⟩ ⟨Nat.le_of_ble_eq_true rfl, Nat.le_of_ble_eq_true rfl⟩ rfl hl.1 rfl (Nat.le_of_ble_eq_true rfl) dL_law_770) (fun r_109 s_108 H locs hw w => ?_)
      refine g_icmp_eq (pc := 773) (tgt := 1185) C rfl rfl dL_law_773 (by decide) (fun hc => ?_) (fun hc => ?_)
      · have hw := hw.1 hc
        refine g_iinc (pc := 1185) (k := 3) C dL_law_1185 hl rfl (by decide) (fun v3_110 ev3_110 ls hl => ?_)
        have hw := hw v3_110 ev3_110
        have hl : lv_has ls 4 [(3, .int (mm_I v3_110)), (0, .ref b), (1, .ref (mm_ad G 0)), (2, .ref (mm_ad G 211))] := hl
        refine lv_goto (pc := 1188) (tgt := 18) C.1 C.2.1 dL_law_1188 (by decide) ?_
        exact hw  _ _ _ w (lv_sub hl [1, 2, 3, 0] rfl)
      · have hw := hw.2 hc
        refine lv_iconst (pc := 776) (v := mm_I 0) C.1 C.2.1 dL_law_776 rfl ?_
        exact hw.elim
    have hw := hw.2 hc21
    by_cases hc22 : n32 (mm_and (sx v3) 31) = 22
    · have hw := hw.1 hc22
      refine lv_tableIn (pc := 33) (tgt := 778) C.1 C.2.1 dL_law_33 (by rw [show (mm_I (mm_and (sx v3) 31)).toInt = 22 from hc22]; decide) (by rw [show (mm_I (mm_and (sx v3) 31)).toInt = 22 from hc22]; decide) (by rw [show (mm_I (mm_and (sx v3) 31)).toInt = 22 from hc22]; first | done | rfl) (by decide) ?_
      refine lv_aload_n (pc := 778) C.1 C.2.1 dL_law_778 rfl (lv_at hl 1 rfl) ?_
      refine lv_aload_n (pc := 779) C.1 C.2.1 dL_law_779 rfl (lv_at hl 0 rfl) ?_
      refine lv_iload_n (pc := 780) C.1 C.2.1 dL_law_780 rfl (lv_at hl 3 rfl) ?_
      refine lv_iconst (pc := 781) (v := mm_I 1) C.1 C.2.1 dL_law_781 rfl ?_
      refine g_iadd (pc := 782) C dL_law_782 ?_
      obtain ⟨hi, hw⟩ := hw
      refine g_sld (pc := 783) C w hX hbl hbA hL hsx hi dL_law_783 ?_
      refine lv_aload_n (pc := 784) C.1 C.2.1 dL_law_784 rfl (lv_at hl 0 rfl) ?_
      refine lv_iload_n (pc := 785) C.1 C.2.1 dL_law_785 rfl (lv_at hl 3 rfl) ?_
      refine lv_iconst (pc := 786) (v := mm_I 2) C.1 C.2.1 dL_law_786 rfl ?_
      refine g_iadd (pc := 787) C dL_law_787 ?_
      obtain ⟨hi, hw⟩ := hw
      refine g_sld (pc := 788) C w hX hbl hbA hL hsx hi dL_law_788 ?_
      refine lv_aload_n (pc := 789) C.1 C.2.1 dL_law_789 rfl (lv_at hl 0 rfl) ?_
      refine lv_iload_n (pc := 790) C.1 C.2.1 dL_law_790 rfl (lv_at hl 3 rfl) ?_
      refine lv_iconst (pc := 791) (v := mm_I 3) C.1 C.2.1 dL_law_791 rfl ?_
      refine g_iadd (pc := 792) C dL_law_792 ?_
      obtain ⟨hi, hw⟩ := hw
      refine g_sld (pc := 793) C w hX hbl hbA hL hsx hi dL_law_793 ?_
      refine lv_aload_n (pc := 794) C.1 C.2.1 dL_law_794 rfl (lv_at hl 0 rfl) ?_
      refine lv_iload_n (pc := 795) C.1 C.2.1 dL_law_795 rfl (lv_at hl 3 rfl) ?_
      refine lv_iconst (pc := 796) (v := mm_I 4) C.1 C.2.1 dL_law_796 rfl ?_
      refine g_iadd (pc := 797) C dL_law_797 ?_
      obtain ⟨hi, hw⟩ := hw
      refine g_sld (pc := 798) C w hX hbl hbA hL hsx hi dL_law_798 ?_
      refine lv_aload_n (pc := 799) C.1 C.2.1 dL_law_799 rfl (lv_at hl 0 rfl) ?_
      refine lv_iload_n (pc := 800) C.1 C.2.1 dL_law_800 rfl (lv_at hl 3 rfl) ?_
      refine lv_iconst (pc := 801) (v := mm_I 5) C.1 C.2.1 dL_law_801 rfl ?_
      refine g_iadd (pc := 802) C dL_law_802 ?_
      obtain ⟨hi, hw⟩ := hw
      refine g_sld (pc := 803) C w hX hbl hbA hL hsx hi dL_law_803 ?_
      refine g_calli (pc := 804) w (mm_runV (ci := 10) (q := (RX10, TX10, 10)) (As := [.int (mm_I (sx (v3 + 1))), .int (mm_I (sx (v3 + 2))), .int (mm_I (sx (v3 + 3))), .int (mm_I (sx (v3 + 4))), .int (mm_I (sx (v3 + 5)))]) (rest := []) C w (c_X10_value l G 0 (sx (v3 + 1)) (sx (v3 + 2)) (sx (v3 + 3)) (sx (v3 + 4)) (sx (v3 + 5)) ok_0 s1 _ hw) ok_0 rfl rfl cv_X10_value ml_L_107 ⟨Nat.le_of_ble_eq_true rfl, Nat.le_of_ble_eq_true rfl⟩ ⟨Nat.le_of_ble_eq_true rfl, Nat.le_of_ble_eq_true rfl⟩ rfl hl.1 rfl (Nat.le_of_ble_eq_true rfl) dL_law_804) (fun r_112 s_111 H locs hw w => ?_)
      refine lv_aload_n (pc := 807) C.1 C.2.1 dL_law_807 rfl (lv_at hl 2 rfl) ?_
      refine lv_aload_n (pc := 808) C.1 C.2.1 dL_law_808 rfl (lv_at hl 0 rfl) ?_
      refine lv_iload_n (pc := 809) C.1 C.2.1 dL_law_809 rfl (lv_at hl 3 rfl) ?_
      refine lv_iconst (pc := 810) (v := mm_I 1) C.1 C.2.1 dL_law_810 rfl ?_
      refine g_iadd (pc := 811) C dL_law_811 ?_
      obtain ⟨hi, hw⟩ := hw
      refine g_sld (pc := 812) C w hX hbl hbA hL hsx hi dL_law_812 ?_
      refine lv_aload_n (pc := 813) C.1 C.2.1 dL_law_813 rfl (lv_at hl 0 rfl) ?_
      refine lv_iload_n (pc := 814) C.1 C.2.1 dL_law_814 rfl (lv_at hl 3 rfl) ?_
      refine lv_iconst (pc := 815) (v := mm_I 2) C.1 C.2.1 dL_law_815 rfl ?_
      refine g_iadd (pc := 816) C dL_law_816 ?_
      obtain ⟨hi, hw⟩ := hw
      refine g_sld (pc := 817) C w hX hbl hbA hL hsx hi dL_law_817 ?_
      refine lv_aload_n (pc := 818) C.1 C.2.1 dL_law_818 rfl (lv_at hl 0 rfl) ?_
      refine lv_iload_n (pc := 819) C.1 C.2.1 dL_law_819 rfl (lv_at hl 3 rfl) ?_
      refine lv_iconst (pc := 820) (v := mm_I 3) C.1 C.2.1 dL_law_820 rfl ?_
      refine g_iadd (pc := 821) C dL_law_821 ?_
      obtain ⟨hi, hw⟩ := hw
      refine g_sld (pc := 822) C w hX hbl hbA hL hsx hi dL_law_822 ?_
      refine lv_aload_n (pc := 823) C.1 C.2.1 dL_law_823 rfl (lv_at hl 0 rfl) ?_
      refine lv_iload_n (pc := 824) C.1 C.2.1 dL_law_824 rfl (lv_at hl 3 rfl) ?_
      refine lv_iconst (pc := 825) (v := mm_I 4) C.1 C.2.1 dL_law_825 rfl ?_
      refine g_iadd (pc := 826) C dL_law_826 ?_
      obtain ⟨hi, hw⟩ := hw
      refine g_sld (pc := 827) C w hX hbl hbA hL hsx hi dL_law_827 ?_
      refine lv_aload_n (pc := 828) C.1 C.2.1 dL_law_828 rfl (lv_at hl 0 rfl) ?_
      refine lv_iload_n (pc := 829) C.1 C.2.1 dL_law_829 rfl (lv_at hl 3 rfl) ?_
      refine lv_iconst (pc := 830) (v := mm_I 5) C.1 C.2.1 dL_law_830 rfl ?_
      refine g_iadd (pc := 831) C dL_law_831 ?_
      obtain ⟨hi, hw⟩ := hw
      refine g_sld (pc := 832) C w hX hbl hbA hL hsx hi dL_law_832 ?_
      refine g_calli (pc := 833) w (mm_runV (ci := 11) (q := (RX11, TX11, 65)) (As := [.int (mm_I (sx (v3 + 1))), .int (mm_I (sx (v3 + 2))), .int (mm_I (sx (v3 + 3))), .int (mm_I (sx (v3 + 4))), .int (mm_I (sx (v3 + 5)))]) (rest := [.int (mm_I r_112)]) C w (c_X11_value l G 211 (sx (v3 + 1)) (sx (v3 + 2)) (sx (v3 + 3)) (sx (v3 + 4)) (sx (v3 + 5)) ok_211 s_111 _ hw) ok_211 rfl rfl cv_X11_value ml_L_110 ⟨Nat.le_of_ble_eq_true rfl, Nat.le_of_ble_eq_true rfl⟩ ⟨Nat.le_of_ble_eq_true rfl, Nat.le_of_ble_eq_true rfl⟩ rfl hl.1 rfl (Nat.le_of_ble_eq_true rfl) dL_law_833) (fun r_114 s_113 H locs hw w => ?_)
      refine g_icmp_eq (pc := 836) (tgt := 1185) C rfl rfl dL_law_836 (by decide) (fun hc => ?_) (fun hc => ?_)
      · have hw := hw.1 hc
        refine g_iinc (pc := 1185) (k := 3) C dL_law_1185 hl rfl (by decide) (fun v3_115 ev3_115 ls hl => ?_)
        have hw := hw v3_115 ev3_115
        have hl : lv_has ls 4 [(3, .int (mm_I v3_115)), (0, .ref b), (1, .ref (mm_ad G 0)), (2, .ref (mm_ad G 211))] := hl
        refine lv_goto (pc := 1188) (tgt := 18) C.1 C.2.1 dL_law_1188 (by decide) ?_
        exact hw  _ _ _ w (lv_sub hl [1, 2, 3, 0] rfl)
      · have hw := hw.2 hc
        refine lv_iconst (pc := 839) (v := mm_I 0) C.1 C.2.1 dL_law_839 rfl ?_
        exact hw.elim
    have hw := hw.2 hc22
    by_cases hc23 : n32 (mm_and (sx v3) 31) = 23
    · have hw := hw.1 hc23
      refine lv_tableIn (pc := 33) (tgt := 841) C.1 C.2.1 dL_law_33 (by rw [show (mm_I (mm_and (sx v3) 31)).toInt = 23 from hc23]; decide) (by rw [show (mm_I (mm_and (sx v3) 31)).toInt = 23 from hc23]; decide) (by rw [show (mm_I (mm_and (sx v3) 31)).toInt = 23 from hc23]; first | done | rfl) (by decide) ?_
      refine lv_aload_n (pc := 841) C.1 C.2.1 dL_law_841 rfl (lv_at hl 1 rfl) ?_
      refine lv_aload_n (pc := 842) C.1 C.2.1 dL_law_842 rfl (lv_at hl 0 rfl) ?_
      refine lv_iload_n (pc := 843) C.1 C.2.1 dL_law_843 rfl (lv_at hl 3 rfl) ?_
      refine lv_iconst (pc := 844) (v := mm_I 1) C.1 C.2.1 dL_law_844 rfl ?_
      refine g_iadd (pc := 845) C dL_law_845 ?_
      obtain ⟨hi, hw⟩ := hw
      refine g_sld (pc := 846) C w hX hbl hbA hL hsx hi dL_law_846 ?_
      refine lv_aload_n (pc := 847) C.1 C.2.1 dL_law_847 rfl (lv_at hl 0 rfl) ?_
      refine lv_iload_n (pc := 848) C.1 C.2.1 dL_law_848 rfl (lv_at hl 3 rfl) ?_
      refine lv_iconst (pc := 849) (v := mm_I 2) C.1 C.2.1 dL_law_849 rfl ?_
      refine g_iadd (pc := 850) C dL_law_850 ?_
      obtain ⟨hi, hw⟩ := hw
      refine g_sld (pc := 851) C w hX hbl hbA hL hsx hi dL_law_851 ?_
      refine lv_aload_n (pc := 852) C.1 C.2.1 dL_law_852 rfl (lv_at hl 0 rfl) ?_
      refine lv_iload_n (pc := 853) C.1 C.2.1 dL_law_853 rfl (lv_at hl 3 rfl) ?_
      refine lv_iconst (pc := 854) (v := mm_I 3) C.1 C.2.1 dL_law_854 rfl ?_
      refine g_iadd (pc := 855) C dL_law_855 ?_
      obtain ⟨hi, hw⟩ := hw
      refine g_sld (pc := 856) C w hX hbl hbA hL hsx hi dL_law_856 ?_
      refine lv_aload_n (pc := 857) C.1 C.2.1 dL_law_857 rfl (lv_at hl 0 rfl) ?_
      refine lv_iload_n (pc := 858) C.1 C.2.1 dL_law_858 rfl (lv_at hl 3 rfl) ?_
      refine lv_iconst (pc := 859) (v := mm_I 4) C.1 C.2.1 dL_law_859 rfl ?_
      refine g_iadd (pc := 860) C dL_law_860 ?_
      obtain ⟨hi, hw⟩ := hw
      refine g_sld (pc := 861) C w hX hbl hbA hL hsx hi dL_law_861 ?_
      refine g_calli (pc := 862) w (mm_runV (ci := 10) (q := (RX10, TX10, 10)) (As := [.int (mm_I (sx (v3 + 1))), .int (mm_I (sx (v3 + 2))), .int (mm_I (sx (v3 + 3))), .int (mm_I (sx (v3 + 4)))]) (rest := []) C w (c_X10_entering l G 0 (sx (v3 + 1)) (sx (v3 + 2)) (sx (v3 + 3)) (sx (v3 + 4)) ok_0 s1 _ hw) ok_0 rfl rfl cv_X10_entering ml_L_111 ⟨Nat.le_of_ble_eq_true rfl, Nat.le_of_ble_eq_true rfl⟩ ⟨Nat.le_of_ble_eq_true rfl, Nat.le_of_ble_eq_true rfl⟩ rfl hl.1 rfl (Nat.le_of_ble_eq_true rfl) dL_law_862) (fun r_117 s_116 H locs hw w => ?_)
      refine lv_aload_n (pc := 865) C.1 C.2.1 dL_law_865 rfl (lv_at hl 2 rfl) ?_
      refine lv_aload_n (pc := 866) C.1 C.2.1 dL_law_866 rfl (lv_at hl 0 rfl) ?_
      refine lv_iload_n (pc := 867) C.1 C.2.1 dL_law_867 rfl (lv_at hl 3 rfl) ?_
      refine lv_iconst (pc := 868) (v := mm_I 1) C.1 C.2.1 dL_law_868 rfl ?_
      refine g_iadd (pc := 869) C dL_law_869 ?_
      obtain ⟨hi, hw⟩ := hw
      refine g_sld (pc := 870) C w hX hbl hbA hL hsx hi dL_law_870 ?_
      refine lv_aload_n (pc := 871) C.1 C.2.1 dL_law_871 rfl (lv_at hl 0 rfl) ?_
      refine lv_iload_n (pc := 872) C.1 C.2.1 dL_law_872 rfl (lv_at hl 3 rfl) ?_
      refine lv_iconst (pc := 873) (v := mm_I 2) C.1 C.2.1 dL_law_873 rfl ?_
      refine g_iadd (pc := 874) C dL_law_874 ?_
      obtain ⟨hi, hw⟩ := hw
      refine g_sld (pc := 875) C w hX hbl hbA hL hsx hi dL_law_875 ?_
      refine lv_aload_n (pc := 876) C.1 C.2.1 dL_law_876 rfl (lv_at hl 0 rfl) ?_
      refine lv_iload_n (pc := 877) C.1 C.2.1 dL_law_877 rfl (lv_at hl 3 rfl) ?_
      refine lv_iconst (pc := 878) (v := mm_I 3) C.1 C.2.1 dL_law_878 rfl ?_
      refine g_iadd (pc := 879) C dL_law_879 ?_
      obtain ⟨hi, hw⟩ := hw
      refine g_sld (pc := 880) C w hX hbl hbA hL hsx hi dL_law_880 ?_
      refine lv_aload_n (pc := 881) C.1 C.2.1 dL_law_881 rfl (lv_at hl 0 rfl) ?_
      refine lv_iload_n (pc := 882) C.1 C.2.1 dL_law_882 rfl (lv_at hl 3 rfl) ?_
      refine lv_iconst (pc := 883) (v := mm_I 4) C.1 C.2.1 dL_law_883 rfl ?_
      refine g_iadd (pc := 884) C dL_law_884 ?_
      obtain ⟨hi, hw⟩ := hw
      refine g_sld (pc := 885) C w hX hbl hbA hL hsx hi dL_law_885 ?_
      refine g_calli (pc := 886) w (mm_runV (ci := 11) (q := (RX11, TX11, 65)) (As := [.int (mm_I (sx (v3 + 1))), .int (mm_I (sx (v3 + 2))), .int (mm_I (sx (v3 + 3))), .int (mm_I (sx (v3 + 4)))]) (rest := [.int (mm_I r_117)]) C w (c_X11_entering l G 211 (sx (v3 + 1)) (sx (v3 + 2)) (sx (v3 + 3)) (sx (v3 + 4)) ok_211 s_116 _ hw) ok_211 rfl rfl cv_X11_entering ml_L_115 ⟨Nat.le_of_ble_eq_true rfl, Nat.le_of_ble_eq_true rfl⟩ ⟨Nat.le_of_ble_eq_true rfl, Nat.le_of_ble_eq_true rfl⟩ rfl hl.1 rfl (Nat.le_of_ble_eq_true rfl) dL_law_886) (fun r_119 s_118 H locs hw w => ?_)
      refine g_icmp_eq (pc := 889) (tgt := 1185) C rfl rfl dL_law_889 (by decide) (fun hc => ?_) (fun hc => ?_)
      · have hw := hw.1 hc
        refine g_iinc (pc := 1185) (k := 3) C dL_law_1185 hl rfl (by decide) (fun v3_120 ev3_120 ls hl => ?_)
        have hw := hw v3_120 ev3_120
        have hl : lv_has ls 4 [(3, .int (mm_I v3_120)), (0, .ref b), (1, .ref (mm_ad G 0)), (2, .ref (mm_ad G 211))] := hl
        refine lv_goto (pc := 1188) (tgt := 18) C.1 C.2.1 dL_law_1188 (by decide) ?_
        exact hw  _ _ _ w (lv_sub hl [1, 2, 3, 0] rfl)
      · have hw := hw.2 hc
        refine lv_iconst (pc := 892) (v := mm_I 0) C.1 C.2.1 dL_law_892 rfl ?_
        exact hw.elim
    have hw := hw.2 hc23
    by_cases hc24 : n32 (mm_and (sx v3) 31) = 24
    · have hw := hw.1 hc24
      refine lv_tableIn (pc := 33) (tgt := 894) C.1 C.2.1 dL_law_33 (by rw [show (mm_I (mm_and (sx v3) 31)).toInt = 24 from hc24]; decide) (by rw [show (mm_I (mm_and (sx v3) 31)).toInt = 24 from hc24]; decide) (by rw [show (mm_I (mm_and (sx v3) 31)).toInt = 24 from hc24]; first | done | rfl) (by decide) ?_
      refine lv_aload_n (pc := 894) C.1 C.2.1 dL_law_894 rfl (lv_at hl 1 rfl) ?_
      refine lv_aload_n (pc := 895) C.1 C.2.1 dL_law_895 rfl (lv_at hl 0 rfl) ?_
      refine lv_iload_n (pc := 896) C.1 C.2.1 dL_law_896 rfl (lv_at hl 3 rfl) ?_
      refine lv_iconst (pc := 897) (v := mm_I 1) C.1 C.2.1 dL_law_897 rfl ?_
      refine g_iadd (pc := 898) C dL_law_898 ?_
      obtain ⟨hi, hw⟩ := hw
      refine g_sld (pc := 899) C w hX hbl hbA hL hsx hi dL_law_899 ?_
      refine lv_aload_n (pc := 900) C.1 C.2.1 dL_law_900 rfl (lv_at hl 0 rfl) ?_
      refine lv_iload_n (pc := 901) C.1 C.2.1 dL_law_901 rfl (lv_at hl 3 rfl) ?_
      refine lv_iconst (pc := 902) (v := mm_I 2) C.1 C.2.1 dL_law_902 rfl ?_
      refine g_iadd (pc := 903) C dL_law_903 ?_
      obtain ⟨hi, hw⟩ := hw
      refine g_sld (pc := 904) C w hX hbl hbA hL hsx hi dL_law_904 ?_
      refine lv_aload_n (pc := 905) C.1 C.2.1 dL_law_905 rfl (lv_at hl 0 rfl) ?_
      refine lv_iload_n (pc := 906) C.1 C.2.1 dL_law_906 rfl (lv_at hl 3 rfl) ?_
      refine lv_iconst (pc := 907) (v := mm_I 3) C.1 C.2.1 dL_law_907 rfl ?_
      refine g_iadd (pc := 908) C dL_law_908 ?_
      obtain ⟨hi, hw⟩ := hw
      refine g_sld (pc := 909) C w hX hbl hbA hL hsx hi dL_law_909 ?_
      refine lv_aload_n (pc := 910) C.1 C.2.1 dL_law_910 rfl (lv_at hl 0 rfl) ?_
      refine lv_iload_n (pc := 911) C.1 C.2.1 dL_law_911 rfl (lv_at hl 3 rfl) ?_
      refine lv_iconst (pc := 912) (v := mm_I 4) C.1 C.2.1 dL_law_912 rfl ?_
      refine g_iadd (pc := 913) C dL_law_913 ?_
      obtain ⟨hi, hw⟩ := hw
      refine g_sld (pc := 914) C w hX hbl hbA hL hsx hi dL_law_914 ?_
      refine lv_aload_n (pc := 915) C.1 C.2.1 dL_law_915 rfl (lv_at hl 0 rfl) ?_
      refine lv_iload_n (pc := 916) C.1 C.2.1 dL_law_916 rfl (lv_at hl 3 rfl) ?_
      refine lv_iconst (pc := 917) (v := mm_I 5) C.1 C.2.1 dL_law_917 rfl ?_
      refine g_iadd (pc := 918) C dL_law_918 ?_
      obtain ⟨hi, hw⟩ := hw
      refine g_sld (pc := 919) C w hX hbl hbA hL hsx hi dL_law_919 ?_
      refine g_calli (pc := 920) w (mm_runV (ci := 10) (q := (RX10, TX10, 10)) (As := [.int (mm_I (sx (v3 + 1))), .int (mm_I (sx (v3 + 2))), .int (mm_I (sx (v3 + 3))), .int (mm_I (sx (v3 + 4))), .int (mm_I (sx (v3 + 5)))]) (rest := []) C w (c_X10_when l G 0 (sx (v3 + 1)) (sx (v3 + 2)) (sx (v3 + 3)) (sx (v3 + 4)) (sx (v3 + 5)) ok_0 s1 _ hw) ok_0 rfl rfl cv_X10_when ml_L_116 ⟨Nat.le_of_ble_eq_true rfl, Nat.le_of_ble_eq_true rfl⟩ ⟨Nat.le_of_ble_eq_true rfl, Nat.le_of_ble_eq_true rfl⟩ rfl hl.1 rfl (Nat.le_of_ble_eq_true rfl) dL_law_920) (fun r_122 s_121 H locs hw w => ?_)
      refine lv_aload_n (pc := 923) C.1 C.2.1 dL_law_923 rfl (lv_at hl 2 rfl) ?_
      refine lv_aload_n (pc := 924) C.1 C.2.1 dL_law_924 rfl (lv_at hl 0 rfl) ?_
      refine lv_iload_n (pc := 925) C.1 C.2.1 dL_law_925 rfl (lv_at hl 3 rfl) ?_
      refine lv_iconst (pc := 926) (v := mm_I 1) C.1 C.2.1 dL_law_926 rfl ?_
      refine g_iadd (pc := 927) C dL_law_927 ?_
      obtain ⟨hi, hw⟩ := hw
      refine g_sld (pc := 928) C w hX hbl hbA hL hsx hi dL_law_928 ?_
      refine lv_aload_n (pc := 929) C.1 C.2.1 dL_law_929 rfl (lv_at hl 0 rfl) ?_
      refine lv_iload_n (pc := 930) C.1 C.2.1 dL_law_930 rfl (lv_at hl 3 rfl) ?_
      refine lv_iconst (pc := 931) (v := mm_I 2) C.1 C.2.1 dL_law_931 rfl ?_
      refine g_iadd (pc := 932) C dL_law_932 ?_
      obtain ⟨hi, hw⟩ := hw
      refine g_sld (pc := 933) C w hX hbl hbA hL hsx hi dL_law_933 ?_
      refine lv_aload_n (pc := 934) C.1 C.2.1 dL_law_934 rfl (lv_at hl 0 rfl) ?_
      refine lv_iload_n (pc := 935) C.1 C.2.1 dL_law_935 rfl (lv_at hl 3 rfl) ?_
      refine lv_iconst (pc := 936) (v := mm_I 3) C.1 C.2.1 dL_law_936 rfl ?_
      refine g_iadd (pc := 937) C dL_law_937 ?_
      obtain ⟨hi, hw⟩ := hw
      refine g_sld (pc := 938) C w hX hbl hbA hL hsx hi dL_law_938 ?_
      refine lv_aload_n (pc := 939) C.1 C.2.1 dL_law_939 rfl (lv_at hl 0 rfl) ?_
      refine lv_iload_n (pc := 940) C.1 C.2.1 dL_law_940 rfl (lv_at hl 3 rfl) ?_
      refine lv_iconst (pc := 941) (v := mm_I 4) C.1 C.2.1 dL_law_941 rfl ?_
      refine g_iadd (pc := 942) C dL_law_942 ?_
      obtain ⟨hi, hw⟩ := hw
      refine g_sld (pc := 943) C w hX hbl hbA hL hsx hi dL_law_943 ?_
      refine lv_aload_n (pc := 944) C.1 C.2.1 dL_law_944 rfl (lv_at hl 0 rfl) ?_
      refine lv_iload_n (pc := 945) C.1 C.2.1 dL_law_945 rfl (lv_at hl 3 rfl) ?_
      refine lv_iconst (pc := 946) (v := mm_I 5) C.1 C.2.1 dL_law_946 rfl ?_
      refine g_iadd (pc := 947) C dL_law_947 ?_
      obtain ⟨hi, hw⟩ := hw
      refine g_sld (pc := 948) C w hX hbl hbA hL hsx hi dL_law_948 ?_
      refine g_calli (pc := 949) w (mm_runV (ci := 11) (q := (RX11, TX11, 65)) (As := [.int (mm_I (sx (v3 + 1))), .int (mm_I (sx (v3 + 2))), .int (mm_I (sx (v3 + 3))), .int (mm_I (sx (v3 + 4))), .int (mm_I (sx (v3 + 5)))]) (rest := [.int (mm_I r_122)]) C w (c_X11_when l G 211 (sx (v3 + 1)) (sx (v3 + 2)) (sx (v3 + 3)) (sx (v3 + 4)) (sx (v3 + 5)) ok_211 s_121 _ hw) ok_211 rfl rfl cv_X11_when ml_L_119 ⟨Nat.le_of_ble_eq_true rfl, Nat.le_of_ble_eq_true rfl⟩ ⟨Nat.le_of_ble_eq_true rfl, Nat.le_of_ble_eq_true rfl⟩ rfl hl.1 rfl (Nat.le_of_ble_eq_true rfl) dL_law_949) (fun r_124 s_123 H locs hw w => ?_)
      refine g_icmp_eq (pc := 952) (tgt := 1185) C rfl rfl dL_law_952 (by decide) (fun hc => ?_) (fun hc => ?_)
      · have hw := hw.1 hc
        refine g_iinc (pc := 1185) (k := 3) C dL_law_1185 hl rfl (by decide) (fun v3_125 ev3_125 ls hl => ?_)
        have hw := hw v3_125 ev3_125
        have hl : lv_has ls 4 [(3, .int (mm_I v3_125)), (0, .ref b), (1, .ref (mm_ad G 0)), (2, .ref (mm_ad G 211))] := hl
        refine lv_goto (pc := 1188) (tgt := 18) C.1 C.2.1 dL_law_1188 (by decide) ?_
        exact hw  _ _ _ w (lv_sub hl [1, 2, 3, 0] rfl)
      · have hw := hw.2 hc
        refine lv_iconst (pc := 955) (v := mm_I 0) C.1 C.2.1 dL_law_955 rfl ?_
        exact hw.elim
    have hw := hw.2 hc24
    by_cases hc25 : n32 (mm_and (sx v3) 31) = 25
    · have hw := hw.1 hc25
      refine lv_tableIn (pc := 33) (tgt := 957) C.1 C.2.1 dL_law_33 (by rw [show (mm_I (mm_and (sx v3) 31)).toInt = 25 from hc25]; decide) (by rw [show (mm_I (mm_and (sx v3) 31)).toInt = 25 from hc25]; decide) (by rw [show (mm_I (mm_and (sx v3) 31)).toInt = 25 from hc25]; first | done | rfl) (by decide) ?_
      refine lv_aload_n (pc := 957) C.1 C.2.1 dL_law_957 rfl (lv_at hl 1 rfl) ?_
      refine lv_aload_n (pc := 958) C.1 C.2.1 dL_law_958 rfl (lv_at hl 0 rfl) ?_
      refine lv_iload_n (pc := 959) C.1 C.2.1 dL_law_959 rfl (lv_at hl 3 rfl) ?_
      refine lv_iconst (pc := 960) (v := mm_I 1) C.1 C.2.1 dL_law_960 rfl ?_
      refine g_iadd (pc := 961) C dL_law_961 ?_
      obtain ⟨hi, hw⟩ := hw
      refine g_sld (pc := 962) C w hX hbl hbA hL hsx hi dL_law_962 ?_
      refine lv_aload_n (pc := 963) C.1 C.2.1 dL_law_963 rfl (lv_at hl 0 rfl) ?_
      refine lv_iload_n (pc := 964) C.1 C.2.1 dL_law_964 rfl (lv_at hl 3 rfl) ?_
      refine lv_iconst (pc := 965) (v := mm_I 2) C.1 C.2.1 dL_law_965 rfl ?_
      refine g_iadd (pc := 966) C dL_law_966 ?_
      obtain ⟨hi, hw⟩ := hw
      refine g_sld (pc := 967) C w hX hbl hbA hL hsx hi dL_law_967 ?_
      refine lv_aload_n (pc := 968) C.1 C.2.1 dL_law_968 rfl (lv_at hl 0 rfl) ?_
      refine lv_iload_n (pc := 969) C.1 C.2.1 dL_law_969 rfl (lv_at hl 3 rfl) ?_
      refine lv_iconst (pc := 970) (v := mm_I 3) C.1 C.2.1 dL_law_970 rfl ?_
      refine g_iadd (pc := 971) C dL_law_971 ?_
      obtain ⟨hi, hw⟩ := hw
      refine g_sld (pc := 972) C w hX hbl hbA hL hsx hi dL_law_972 ?_
      refine lv_aload_n (pc := 973) C.1 C.2.1 dL_law_973 rfl (lv_at hl 0 rfl) ?_
      refine lv_iload_n (pc := 974) C.1 C.2.1 dL_law_974 rfl (lv_at hl 3 rfl) ?_
      refine lv_iconst (pc := 975) (v := mm_I 4) C.1 C.2.1 dL_law_975 rfl ?_
      refine g_iadd (pc := 976) C dL_law_976 ?_
      obtain ⟨hi, hw⟩ := hw
      refine g_sld (pc := 977) C w hX hbl hbA hL hsx hi dL_law_977 ?_
      refine g_calli (pc := 978) w (mm_runV (ci := 10) (q := (RX10, TX10, 10)) (As := [.int (mm_I (sx (v3 + 1))), .int (mm_I (sx (v3 + 2))), .int (mm_I (sx (v3 + 3))), .int (mm_I (sx (v3 + 4)))]) (rest := []) C w (c_X10_least l G 0 (sx (v3 + 1)) (sx (v3 + 2)) (sx (v3 + 3)) (sx (v3 + 4)) ok_0 s1 _ hw) ok_0 rfl rfl cv_X10_least ml_L_120 ⟨Nat.le_of_ble_eq_true rfl, Nat.le_of_ble_eq_true rfl⟩ ⟨Nat.le_of_ble_eq_true rfl, Nat.le_of_ble_eq_true rfl⟩ rfl hl.1 rfl (Nat.le_of_ble_eq_true rfl) dL_law_978) (fun r_127 s_126 H locs hw w => ?_)
      refine lv_aload_n (pc := 981) C.1 C.2.1 dL_law_981 rfl (lv_at hl 2 rfl) ?_
      refine lv_aload_n (pc := 982) C.1 C.2.1 dL_law_982 rfl (lv_at hl 0 rfl) ?_
      refine lv_iload_n (pc := 983) C.1 C.2.1 dL_law_983 rfl (lv_at hl 3 rfl) ?_
      refine lv_iconst (pc := 984) (v := mm_I 1) C.1 C.2.1 dL_law_984 rfl ?_
      refine g_iadd (pc := 985) C dL_law_985 ?_
      obtain ⟨hi, hw⟩ := hw
      refine g_sld (pc := 986) C w hX hbl hbA hL hsx hi dL_law_986 ?_
      refine lv_aload_n (pc := 987) C.1 C.2.1 dL_law_987 rfl (lv_at hl 0 rfl) ?_
      refine lv_iload_n (pc := 988) C.1 C.2.1 dL_law_988 rfl (lv_at hl 3 rfl) ?_
      refine lv_iconst (pc := 989) (v := mm_I 2) C.1 C.2.1 dL_law_989 rfl ?_
      refine g_iadd (pc := 990) C dL_law_990 ?_
      obtain ⟨hi, hw⟩ := hw
      refine g_sld (pc := 991) C w hX hbl hbA hL hsx hi dL_law_991 ?_
      refine lv_aload_n (pc := 992) C.1 C.2.1 dL_law_992 rfl (lv_at hl 0 rfl) ?_
      refine lv_iload_n (pc := 993) C.1 C.2.1 dL_law_993 rfl (lv_at hl 3 rfl) ?_
      refine lv_iconst (pc := 994) (v := mm_I 3) C.1 C.2.1 dL_law_994 rfl ?_
      refine g_iadd (pc := 995) C dL_law_995 ?_
      obtain ⟨hi, hw⟩ := hw
      refine g_sld (pc := 996) C w hX hbl hbA hL hsx hi dL_law_996 ?_
      refine lv_aload_n (pc := 997) C.1 C.2.1 dL_law_997 rfl (lv_at hl 0 rfl) ?_
      refine lv_iload_n (pc := 998) C.1 C.2.1 dL_law_998 rfl (lv_at hl 3 rfl) ?_
      refine lv_iconst (pc := 999) (v := mm_I 4) C.1 C.2.1 dL_law_999 rfl ?_
      refine g_iadd (pc := 1000) C dL_law_1000 ?_
      obtain ⟨hi, hw⟩ := hw
      refine g_sld (pc := 1001) C w hX hbl hbA hL hsx hi dL_law_1001 ?_
      refine g_calli (pc := 1002) w (mm_runV (ci := 11) (q := (RX11, TX11, 65)) (As := [.int (mm_I (sx (v3 + 1))), .int (mm_I (sx (v3 + 2))), .int (mm_I (sx (v3 + 3))), .int (mm_I (sx (v3 + 4)))]) (rest := [.int (mm_I r_127)]) C w (c_X11_least l G 211 (sx (v3 + 1)) (sx (v3 + 2)) (sx (v3 + 3)) (sx (v3 + 4)) ok_211 s_126 _ hw) ok_211 rfl rfl cv_X11_least ml_L_123 ⟨Nat.le_of_ble_eq_true rfl, Nat.le_of_ble_eq_true rfl⟩ ⟨Nat.le_of_ble_eq_true rfl, Nat.le_of_ble_eq_true rfl⟩ rfl hl.1 rfl (Nat.le_of_ble_eq_true rfl) dL_law_1002) (fun r_129 s_128 H locs hw w => ?_)
      refine g_icmp_eq (pc := 1005) (tgt := 1185) C rfl rfl dL_law_1005 (by decide) (fun hc => ?_) (fun hc => ?_)
      · have hw := hw.1 hc
        refine g_iinc (pc := 1185) (k := 3) C dL_law_1185 hl rfl (by decide) (fun v3_130 ev3_130 ls hl => ?_)
        have hw := hw v3_130 ev3_130
        have hl : lv_has ls 4 [(3, .int (mm_I v3_130)), (0, .ref b), (1, .ref (mm_ad G 0)), (2, .ref (mm_ad G 211))] := hl
        refine lv_goto (pc := 1188) (tgt := 18) C.1 C.2.1 dL_law_1188 (by decide) ?_
        exact hw  _ _ _ w (lv_sub hl [1, 2, 3, 0] rfl)
      · have hw := hw.2 hc
        refine lv_iconst (pc := 1008) (v := mm_I 0) C.1 C.2.1 dL_law_1008 rfl ?_
        exact hw.elim
    have hw := hw.2 hc25
    by_cases hc26 : n32 (mm_and (sx v3) 31) = 26
    · have hw := hw.1 hc26
      refine lv_tableIn (pc := 33) (tgt := 1010) C.1 C.2.1 dL_law_33 (by rw [show (mm_I (mm_and (sx v3) 31)).toInt = 26 from hc26]; decide) (by rw [show (mm_I (mm_and (sx v3) 31)).toInt = 26 from hc26]; decide) (by rw [show (mm_I (mm_and (sx v3) 31)).toInt = 26 from hc26]; first | done | rfl) (by decide) ?_
      refine lv_aload_n (pc := 1010) C.1 C.2.1 dL_law_1010 rfl (lv_at hl 1 rfl) ?_
      refine lv_aload_n (pc := 1011) C.1 C.2.1 dL_law_1011 rfl (lv_at hl 0 rfl) ?_
      refine lv_iload_n (pc := 1012) C.1 C.2.1 dL_law_1012 rfl (lv_at hl 3 rfl) ?_
      refine lv_iconst (pc := 1013) (v := mm_I 1) C.1 C.2.1 dL_law_1013 rfl ?_
      refine g_iadd (pc := 1014) C dL_law_1014 ?_
      obtain ⟨hi, hw⟩ := hw
      refine g_sld (pc := 1015) C w hX hbl hbA hL hsx hi dL_law_1015 ?_
      refine lv_aload_n (pc := 1016) C.1 C.2.1 dL_law_1016 rfl (lv_at hl 0 rfl) ?_
      refine lv_iload_n (pc := 1017) C.1 C.2.1 dL_law_1017 rfl (lv_at hl 3 rfl) ?_
      refine lv_iconst (pc := 1018) (v := mm_I 2) C.1 C.2.1 dL_law_1018 rfl ?_
      refine g_iadd (pc := 1019) C dL_law_1019 ?_
      obtain ⟨hi, hw⟩ := hw
      refine g_sld (pc := 1020) C w hX hbl hbA hL hsx hi dL_law_1020 ?_
      refine lv_aload_n (pc := 1021) C.1 C.2.1 dL_law_1021 rfl (lv_at hl 0 rfl) ?_
      refine lv_iload_n (pc := 1022) C.1 C.2.1 dL_law_1022 rfl (lv_at hl 3 rfl) ?_
      refine lv_iconst (pc := 1023) (v := mm_I 3) C.1 C.2.1 dL_law_1023 rfl ?_
      refine g_iadd (pc := 1024) C dL_law_1024 ?_
      obtain ⟨hi, hw⟩ := hw
      refine g_sld (pc := 1025) C w hX hbl hbA hL hsx hi dL_law_1025 ?_
      refine lv_aload_n (pc := 1026) C.1 C.2.1 dL_law_1026 rfl (lv_at hl 0 rfl) ?_
      refine lv_iload_n (pc := 1027) C.1 C.2.1 dL_law_1027 rfl (lv_at hl 3 rfl) ?_
      refine lv_iconst (pc := 1028) (v := mm_I 4) C.1 C.2.1 dL_law_1028 rfl ?_
      refine g_iadd (pc := 1029) C dL_law_1029 ?_
      obtain ⟨hi, hw⟩ := hw
      refine g_sld (pc := 1030) C w hX hbl hbA hL hsx hi dL_law_1030 ?_
      refine lv_aload_n (pc := 1031) C.1 C.2.1 dL_law_1031 rfl (lv_at hl 0 rfl) ?_
      refine lv_iload_n (pc := 1032) C.1 C.2.1 dL_law_1032 rfl (lv_at hl 3 rfl) ?_
      refine lv_iconst (pc := 1033) (v := mm_I 5) C.1 C.2.1 dL_law_1033 rfl ?_
      refine g_iadd (pc := 1034) C dL_law_1034 ?_
      obtain ⟨hi, hw⟩ := hw
      refine g_sld (pc := 1035) C w hX hbl hbA hL hsx hi dL_law_1035 ?_
      refine g_calli (pc := 1036) w (mm_runV (ci := 10) (q := (RX10, TX10, 10)) (As := [.int (mm_I (sx (v3 + 1))), .int (mm_I (sx (v3 + 2))), .int (mm_I (sx (v3 + 3))), .int (mm_I (sx (v3 + 4))), .int (mm_I (sx (v3 + 5)))]) (rest := []) C w (c_X10_send l G 0 (sx (v3 + 1)) (sx (v3 + 2)) (sx (v3 + 3)) (sx (v3 + 4)) (sx (v3 + 5)) ok_0 s1 _ hw) ok_0 rfl rfl cv_X10_send ml_L_124 ⟨Nat.le_of_ble_eq_true rfl, Nat.le_of_ble_eq_true rfl⟩ ⟨Nat.le_of_ble_eq_true rfl, Nat.le_of_ble_eq_true rfl⟩ rfl hl.1 rfl (Nat.le_of_ble_eq_true rfl) dL_law_1036) (fun r_132 s_131 H locs hw w => ?_)
      refine lv_aload_n (pc := 1039) C.1 C.2.1 dL_law_1039 rfl (lv_at hl 2 rfl) ?_
      refine lv_aload_n (pc := 1040) C.1 C.2.1 dL_law_1040 rfl (lv_at hl 0 rfl) ?_
      refine lv_iload_n (pc := 1041) C.1 C.2.1 dL_law_1041 rfl (lv_at hl 3 rfl) ?_
      refine lv_iconst (pc := 1042) (v := mm_I 1) C.1 C.2.1 dL_law_1042 rfl ?_
      refine g_iadd (pc := 1043) C dL_law_1043 ?_
      obtain ⟨hi, hw⟩ := hw
      refine g_sld (pc := 1044) C w hX hbl hbA hL hsx hi dL_law_1044 ?_
      refine lv_aload_n (pc := 1045) C.1 C.2.1 dL_law_1045 rfl (lv_at hl 0 rfl) ?_
      refine lv_iload_n (pc := 1046) C.1 C.2.1 dL_law_1046 rfl (lv_at hl 3 rfl) ?_
      refine lv_iconst (pc := 1047) (v := mm_I 2) C.1 C.2.1 dL_law_1047 rfl ?_
      refine g_iadd (pc := 1048) C dL_law_1048 ?_
      obtain ⟨hi, hw⟩ := hw
      refine g_sld (pc := 1049) C w hX hbl hbA hL hsx hi dL_law_1049 ?_
      refine lv_aload_n (pc := 1050) C.1 C.2.1 dL_law_1050 rfl (lv_at hl 0 rfl) ?_
      refine lv_iload_n (pc := 1051) C.1 C.2.1 dL_law_1051 rfl (lv_at hl 3 rfl) ?_
      refine lv_iconst (pc := 1052) (v := mm_I 3) C.1 C.2.1 dL_law_1052 rfl ?_
      refine g_iadd (pc := 1053) C dL_law_1053 ?_
      obtain ⟨hi, hw⟩ := hw
      refine g_sld (pc := 1054) C w hX hbl hbA hL hsx hi dL_law_1054 ?_
      refine lv_aload_n (pc := 1055) C.1 C.2.1 dL_law_1055 rfl (lv_at hl 0 rfl) ?_
      refine lv_iload_n (pc := 1056) C.1 C.2.1 dL_law_1056 rfl (lv_at hl 3 rfl) ?_
      refine lv_iconst (pc := 1057) (v := mm_I 4) C.1 C.2.1 dL_law_1057 rfl ?_
      refine g_iadd (pc := 1058) C dL_law_1058 ?_
      obtain ⟨hi, hw⟩ := hw
      refine g_sld (pc := 1059) C w hX hbl hbA hL hsx hi dL_law_1059 ?_
      refine lv_aload_n (pc := 1060) C.1 C.2.1 dL_law_1060 rfl (lv_at hl 0 rfl) ?_
      refine lv_iload_n (pc := 1061) C.1 C.2.1 dL_law_1061 rfl (lv_at hl 3 rfl) ?_
      refine lv_iconst (pc := 1062) (v := mm_I 5) C.1 C.2.1 dL_law_1062 rfl ?_
      refine g_iadd (pc := 1063) C dL_law_1063 ?_
      obtain ⟨hi, hw⟩ := hw
      refine g_sld (pc := 1064) C w hX hbl hbA hL hsx hi dL_law_1064 ?_
      refine g_calli (pc := 1065) w (mm_runV (ci := 11) (q := (RX11, TX11, 65)) (As := [.int (mm_I (sx (v3 + 1))), .int (mm_I (sx (v3 + 2))), .int (mm_I (sx (v3 + 3))), .int (mm_I (sx (v3 + 4))), .int (mm_I (sx (v3 + 5)))]) (rest := [.int (mm_I r_132)]) C w (c_X11_send l G 211 (sx (v3 + 1)) (sx (v3 + 2)) (sx (v3 + 3)) (sx (v3 + 4)) (sx (v3 + 5)) ok_211 s_131 _ hw) ok_211 rfl rfl cv_X11_send ml_L_127 ⟨Nat.le_of_ble_eq_true rfl, Nat.le_of_ble_eq_true rfl⟩ ⟨Nat.le_of_ble_eq_true rfl, Nat.le_of_ble_eq_true rfl⟩ rfl hl.1 rfl (Nat.le_of_ble_eq_true rfl) dL_law_1065) (fun r_134 s_133 H locs hw w => ?_)
      refine g_icmp_eq (pc := 1068) (tgt := 1185) C rfl rfl dL_law_1068 (by decide) (fun hc => ?_) (fun hc => ?_)
      · have hw := hw.1 hc
        refine g_iinc (pc := 1185) (k := 3) C dL_law_1185 hl rfl (by decide) (fun v3_135 ev3_135 ls hl => ?_)
        have hw := hw v3_135 ev3_135
        have hl : lv_has ls 4 [(3, .int (mm_I v3_135)), (0, .ref b), (1, .ref (mm_ad G 0)), (2, .ref (mm_ad G 211))] := hl
        refine lv_goto (pc := 1188) (tgt := 18) C.1 C.2.1 dL_law_1188 (by decide) ?_
        exact hw  _ _ _ w (lv_sub hl [1, 2, 3, 0] rfl)
      · have hw := hw.2 hc
        refine lv_iconst (pc := 1071) (v := mm_I 0) C.1 C.2.1 dL_law_1071 rfl ?_
        exact hw.elim
    have hw := hw.2 hc26
    by_cases hc27 : n32 (mm_and (sx v3) 31) = 27
    · have hw := hw.1 hc27
      refine lv_tableIn (pc := 33) (tgt := 1073) C.1 C.2.1 dL_law_33 (by rw [show (mm_I (mm_and (sx v3) 31)).toInt = 27 from hc27]; decide) (by rw [show (mm_I (mm_and (sx v3) 31)).toInt = 27 from hc27]; decide) (by rw [show (mm_I (mm_and (sx v3) 31)).toInt = 27 from hc27]; first | done | rfl) (by decide) ?_
      refine lv_aload_n (pc := 1073) C.1 C.2.1 dL_law_1073 rfl (lv_at hl 1 rfl) ?_
      refine lv_aload_n (pc := 1074) C.1 C.2.1 dL_law_1074 rfl (lv_at hl 0 rfl) ?_
      refine lv_iload_n (pc := 1075) C.1 C.2.1 dL_law_1075 rfl (lv_at hl 3 rfl) ?_
      refine lv_iconst (pc := 1076) (v := mm_I 1) C.1 C.2.1 dL_law_1076 rfl ?_
      refine g_iadd (pc := 1077) C dL_law_1077 ?_
      obtain ⟨hi, hw⟩ := hw
      refine g_sld (pc := 1078) C w hX hbl hbA hL hsx hi dL_law_1078 ?_
      refine lv_aload_n (pc := 1079) C.1 C.2.1 dL_law_1079 rfl (lv_at hl 0 rfl) ?_
      refine lv_iload_n (pc := 1080) C.1 C.2.1 dL_law_1080 rfl (lv_at hl 3 rfl) ?_
      refine lv_iconst (pc := 1081) (v := mm_I 2) C.1 C.2.1 dL_law_1081 rfl ?_
      refine g_iadd (pc := 1082) C dL_law_1082 ?_
      obtain ⟨hi, hw⟩ := hw
      refine g_sld (pc := 1083) C w hX hbl hbA hL hsx hi dL_law_1083 ?_
      refine lv_aload_n (pc := 1084) C.1 C.2.1 dL_law_1084 rfl (lv_at hl 0 rfl) ?_
      refine lv_iload_n (pc := 1085) C.1 C.2.1 dL_law_1085 rfl (lv_at hl 3 rfl) ?_
      refine lv_iconst (pc := 1086) (v := mm_I 3) C.1 C.2.1 dL_law_1086 rfl ?_
      refine g_iadd (pc := 1087) C dL_law_1087 ?_
      obtain ⟨hi, hw⟩ := hw
      refine g_sld (pc := 1088) C w hX hbl hbA hL hsx hi dL_law_1088 ?_
      refine g_calli (pc := 1089) w (mm_runV (ci := 10) (q := (RX10, TX10, 10)) (As := [.int (mm_I (sx (v3 + 1))), .int (mm_I (sx (v3 + 2))), .int (mm_I (sx (v3 + 3)))]) (rest := []) C w (c_X10_out l G 0 (sx (v3 + 1)) (sx (v3 + 2)) (sx (v3 + 3)) ok_0 s1 _ hw) ok_0 rfl rfl cv_X10_out ml_L_128 ⟨Nat.le_of_ble_eq_true rfl, Nat.le_of_ble_eq_true rfl⟩ ⟨Nat.le_of_ble_eq_true rfl, Nat.le_of_ble_eq_true rfl⟩ rfl hl.1 rfl (Nat.le_of_ble_eq_true rfl) dL_law_1089) (fun r_137 s_136 H locs hw w => ?_)
      refine lv_aload_n (pc := 1092) C.1 C.2.1 dL_law_1092 rfl (lv_at hl 2 rfl) ?_
      refine lv_aload_n (pc := 1093) C.1 C.2.1 dL_law_1093 rfl (lv_at hl 0 rfl) ?_
      refine lv_iload_n (pc := 1094) C.1 C.2.1 dL_law_1094 rfl (lv_at hl 3 rfl) ?_
      refine lv_iconst (pc := 1095) (v := mm_I 1) C.1 C.2.1 dL_law_1095 rfl ?_
      refine g_iadd (pc := 1096) C dL_law_1096 ?_
      obtain ⟨hi, hw⟩ := hw
      refine g_sld (pc := 1097) C w hX hbl hbA hL hsx hi dL_law_1097 ?_
      refine lv_aload_n (pc := 1098) C.1 C.2.1 dL_law_1098 rfl (lv_at hl 0 rfl) ?_
      refine lv_iload_n (pc := 1099) C.1 C.2.1 dL_law_1099 rfl (lv_at hl 3 rfl) ?_
      refine lv_iconst (pc := 1100) (v := mm_I 2) C.1 C.2.1 dL_law_1100 rfl ?_
      refine g_iadd (pc := 1101) C dL_law_1101 ?_
      obtain ⟨hi, hw⟩ := hw
      refine g_sld (pc := 1102) C w hX hbl hbA hL hsx hi dL_law_1102 ?_
      refine lv_aload_n (pc := 1103) C.1 C.2.1 dL_law_1103 rfl (lv_at hl 0 rfl) ?_
      refine lv_iload_n (pc := 1104) C.1 C.2.1 dL_law_1104 rfl (lv_at hl 3 rfl) ?_
      refine lv_iconst (pc := 1105) (v := mm_I 3) C.1 C.2.1 dL_law_1105 rfl ?_
      refine g_iadd (pc := 1106) C dL_law_1106 ?_
      obtain ⟨hi, hw⟩ := hw
      refine g_sld (pc := 1107) C w hX hbl hbA hL hsx hi dL_law_1107 ?_
      refine g_calli (pc := 1108) w (mm_runV (ci := 11) (q := (RX11, TX11, 65)) (As := [.int (mm_I (sx (v3 + 1))), .int (mm_I (sx (v3 + 2))), .int (mm_I (sx (v3 + 3)))]) (rest := [.int (mm_I r_137)]) C w (c_X11_out l G 211 (sx (v3 + 1)) (sx (v3 + 2)) (sx (v3 + 3)) ok_211 s_136 _ hw) ok_211 rfl rfl cv_X11_out ml_L_131 ⟨Nat.le_of_ble_eq_true rfl, Nat.le_of_ble_eq_true rfl⟩ ⟨Nat.le_of_ble_eq_true rfl, Nat.le_of_ble_eq_true rfl⟩ rfl hl.1 rfl (Nat.le_of_ble_eq_true rfl) dL_law_1108) (fun r_139 s_138 H locs hw w => ?_)
      refine g_icmp_eq (pc := 1111) (tgt := 1185) C rfl rfl dL_law_1111 (by decide) (fun hc => ?_) (fun hc => ?_)
      · have hw := hw.1 hc
        refine g_iinc (pc := 1185) (k := 3) C dL_law_1185 hl rfl (by decide) (fun v3_140 ev3_140 ls hl => ?_)
        have hw := hw v3_140 ev3_140
        have hl : lv_has ls 4 [(3, .int (mm_I v3_140)), (0, .ref b), (1, .ref (mm_ad G 0)), (2, .ref (mm_ad G 211))] := hl
        refine lv_goto (pc := 1188) (tgt := 18) C.1 C.2.1 dL_law_1188 (by decide) ?_
        exact hw  _ _ _ w (lv_sub hl [1, 2, 3, 0] rfl)
      · have hw := hw.2 hc
        refine lv_iconst (pc := 1114) (v := mm_I 0) C.1 C.2.1 dL_law_1114 rfl ?_
        exact hw.elim
    have hw := hw.2 hc27
    by_cases hc28 : n32 (mm_and (sx v3) 31) = 28
    · have hw := hw.1 hc28
      refine lv_tableIn (pc := 33) (tgt := 1116) C.1 C.2.1 dL_law_33 (by rw [show (mm_I (mm_and (sx v3) 31)).toInt = 28 from hc28]; decide) (by rw [show (mm_I (mm_and (sx v3) 31)).toInt = 28 from hc28]; decide) (by rw [show (mm_I (mm_and (sx v3) 31)).toInt = 28 from hc28]; first | done | rfl) (by decide) ?_
      refine lv_aload_n (pc := 1116) C.1 C.2.1 dL_law_1116 rfl (lv_at hl 1 rfl) ?_
      refine lv_aload_n (pc := 1117) C.1 C.2.1 dL_law_1117 rfl (lv_at hl 0 rfl) ?_
      refine lv_iload_n (pc := 1118) C.1 C.2.1 dL_law_1118 rfl (lv_at hl 3 rfl) ?_
      refine lv_iconst (pc := 1119) (v := mm_I 1) C.1 C.2.1 dL_law_1119 rfl ?_
      refine g_iadd (pc := 1120) C dL_law_1120 ?_
      obtain ⟨hi, hw⟩ := hw
      refine g_sld (pc := 1121) C w hX hbl hbA hL hsx hi dL_law_1121 ?_
      refine g_calli (pc := 1122) w (mm_runV (ci := 10) (q := (RX10, TX10, 10)) (As := [.int (mm_I (sx (v3 + 1)))]) (rest := []) C w (c_X10_image l G 0 (sx (v3 + 1)) ok_0 s1 _ hw) ok_0 rfl rfl cv_X10_image ml_L_132 ⟨Nat.le_of_ble_eq_true rfl, Nat.le_of_ble_eq_true rfl⟩ ⟨Nat.le_of_ble_eq_true rfl, Nat.le_of_ble_eq_true rfl⟩ rfl hl.1 rfl (Nat.le_of_ble_eq_true rfl) dL_law_1122) (fun r_142 s_141 H locs hw w => ?_)
      refine lv_aload_n (pc := 1125) C.1 C.2.1 dL_law_1125 rfl (lv_at hl 2 rfl) ?_
      refine lv_aload_n (pc := 1126) C.1 C.2.1 dL_law_1126 rfl (lv_at hl 0 rfl) ?_
      refine lv_iload_n (pc := 1127) C.1 C.2.1 dL_law_1127 rfl (lv_at hl 3 rfl) ?_
      refine lv_iconst (pc := 1128) (v := mm_I 1) C.1 C.2.1 dL_law_1128 rfl ?_
      refine g_iadd (pc := 1129) C dL_law_1129 ?_
      obtain ⟨hi, hw⟩ := hw
      refine g_sld (pc := 1130) C w hX hbl hbA hL hsx hi dL_law_1130 ?_
      refine g_calli (pc := 1131) w (mm_runV (ci := 11) (q := (RX11, TX11, 65)) (As := [.int (mm_I (sx (v3 + 1)))]) (rest := [.int (mm_I r_142)]) C w (c_X11_image l G 211 (sx (v3 + 1)) ok_211 s_141 _ hw) ok_211 rfl rfl cv_X11_image ml_L_135 ⟨Nat.le_of_ble_eq_true rfl, Nat.le_of_ble_eq_true rfl⟩ ⟨Nat.le_of_ble_eq_true rfl, Nat.le_of_ble_eq_true rfl⟩ rfl hl.1 rfl (Nat.le_of_ble_eq_true rfl) dL_law_1131) (fun r_144 s_143 H locs hw w => ?_)
      refine g_icmp_eq (pc := 1134) (tgt := 1185) C rfl rfl dL_law_1134 (by decide) (fun hc => ?_) (fun hc => ?_)
      · have hw := hw.1 hc
        refine g_iinc (pc := 1185) (k := 3) C dL_law_1185 hl rfl (by decide) (fun v3_145 ev3_145 ls hl => ?_)
        have hw := hw v3_145 ev3_145
        have hl : lv_has ls 4 [(3, .int (mm_I v3_145)), (0, .ref b), (1, .ref (mm_ad G 0)), (2, .ref (mm_ad G 211))] := hl
        refine lv_goto (pc := 1188) (tgt := 18) C.1 C.2.1 dL_law_1188 (by decide) ?_
        exact hw  _ _ _ w (lv_sub hl [1, 2, 3, 0] rfl)
      · have hw := hw.2 hc
        refine lv_iconst (pc := 1137) (v := mm_I 0) C.1 C.2.1 dL_law_1137 rfl ?_
        exact hw.elim
    have hw := hw.2 hc28
    by_cases hc29 : n32 (mm_and (sx v3) 31) = 29
    · have hw := hw.1 hc29
      refine lv_tableIn (pc := 33) (tgt := 1139) C.1 C.2.1 dL_law_33 (by rw [show (mm_I (mm_and (sx v3) 31)).toInt = 29 from hc29]; decide) (by rw [show (mm_I (mm_and (sx v3) 31)).toInt = 29 from hc29]; decide) (by rw [show (mm_I (mm_and (sx v3) 31)).toInt = 29 from hc29]; first | done | rfl) (by decide) ?_
      refine lv_aload_n (pc := 1139) C.1 C.2.1 dL_law_1139 rfl (lv_at hl 1 rfl) ?_
      refine lv_aload_n (pc := 1140) C.1 C.2.1 dL_law_1140 rfl (lv_at hl 0 rfl) ?_
      refine lv_iload_n (pc := 1141) C.1 C.2.1 dL_law_1141 rfl (lv_at hl 3 rfl) ?_
      refine lv_iconst (pc := 1142) (v := mm_I 1) C.1 C.2.1 dL_law_1142 rfl ?_
      refine g_iadd (pc := 1143) C dL_law_1143 ?_
      obtain ⟨hi, hw⟩ := hw
      refine g_sld (pc := 1144) C w hX hbl hbA hL hsx hi dL_law_1144 ?_
      refine g_calli (pc := 1145) w (mm_runV (ci := 10) (q := (RX10, TX10, 10)) (As := [.int (mm_I (sx (v3 + 1)))]) (rest := []) C w (c_X10_on l G 0 (sx (v3 + 1)) ok_0 s1 _ hw) ok_0 rfl rfl cv_X10_on ml_L_136 ⟨Nat.le_of_ble_eq_true rfl, Nat.le_of_ble_eq_true rfl⟩ ⟨Nat.le_of_ble_eq_true rfl, Nat.le_of_ble_eq_true rfl⟩ rfl hl.1 rfl (Nat.le_of_ble_eq_true rfl) dL_law_1145) (fun r_147 s_146 H locs hw w => ?_)
      refine lv_aload_n (pc := 1148) C.1 C.2.1 dL_law_1148 rfl (lv_at hl 2 rfl) ?_
      refine lv_aload_n (pc := 1149) C.1 C.2.1 dL_law_1149 rfl (lv_at hl 0 rfl) ?_
      refine lv_iload_n (pc := 1150) C.1 C.2.1 dL_law_1150 rfl (lv_at hl 3 rfl) ?_
      refine lv_iconst (pc := 1151) (v := mm_I 1) C.1 C.2.1 dL_law_1151 rfl ?_
      refine g_iadd (pc := 1152) C dL_law_1152 ?_
      obtain ⟨hi, hw⟩ := hw
      refine g_sld (pc := 1153) C w hX hbl hbA hL hsx hi dL_law_1153 ?_
      refine g_calli (pc := 1154) w (mm_runV (ci := 11) (q := (RX11, TX11, 65)) (As := [.int (mm_I (sx (v3 + 1)))]) (rest := [.int (mm_I r_147)]) C w (c_X11_on l G 211 (sx (v3 + 1)) ok_211 s_146 _ hw) ok_211 rfl rfl cv_X11_on ml_L_139 ⟨Nat.le_of_ble_eq_true rfl, Nat.le_of_ble_eq_true rfl⟩ ⟨Nat.le_of_ble_eq_true rfl, Nat.le_of_ble_eq_true rfl⟩ rfl hl.1 rfl (Nat.le_of_ble_eq_true rfl) dL_law_1154) (fun r_149 s_148 H locs hw w => ?_)
      refine g_icmp_eq (pc := 1157) (tgt := 1185) C rfl rfl dL_law_1157 (by decide) (fun hc => ?_) (fun hc => ?_)
      · have hw := hw.1 hc
        refine g_iinc (pc := 1185) (k := 3) C dL_law_1185 hl rfl (by decide) (fun v3_150 ev3_150 ls hl => ?_)
        have hw := hw v3_150 ev3_150
        have hl : lv_has ls 4 [(3, .int (mm_I v3_150)), (0, .ref b), (1, .ref (mm_ad G 0)), (2, .ref (mm_ad G 211))] := hl
        refine lv_goto (pc := 1188) (tgt := 18) C.1 C.2.1 dL_law_1188 (by decide) ?_
        exact hw  _ _ _ w (lv_sub hl [1, 2, 3, 0] rfl)
      · have hw := hw.2 hc
        refine lv_iconst (pc := 1160) (v := mm_I 0) C.1 C.2.1 dL_law_1160 rfl ?_
        exact hw.elim
    have hw := hw.2 hc29
    by_cases hc30 : n32 (mm_and (sx v3) 31) = 30
    · have hw := hw.1 hc30
      refine lv_tableIn (pc := 33) (tgt := 1162) C.1 C.2.1 dL_law_33 (by rw [show (mm_I (mm_and (sx v3) 31)).toInt = 30 from hc30]; decide) (by rw [show (mm_I (mm_and (sx v3) 31)).toInt = 30 from hc30]; decide) (by rw [show (mm_I (mm_and (sx v3) 31)).toInt = 30 from hc30]; first | done | rfl) (by decide) ?_
      refine lv_aload_n (pc := 1162) C.1 C.2.1 dL_law_1162 rfl (lv_at hl 1 rfl) ?_
      refine lv_aload_n (pc := 1163) C.1 C.2.1 dL_law_1163 rfl (lv_at hl 0 rfl) ?_
      refine lv_iload_n (pc := 1164) C.1 C.2.1 dL_law_1164 rfl (lv_at hl 3 rfl) ?_
      refine lv_iconst (pc := 1165) (v := mm_I 1) C.1 C.2.1 dL_law_1165 rfl ?_
      refine g_iadd (pc := 1166) C dL_law_1166 ?_
      obtain ⟨hi, hw⟩ := hw
      refine g_sld (pc := 1167) C w hX hbl hbA hL hsx hi dL_law_1167 ?_
      refine g_calli (pc := 1168) w (mm_runV (ci := 10) (q := (RX10, TX10, 10)) (As := [.int (mm_I (sx (v3 + 1)))]) (rest := []) C w (c_X10_count l G 0 (sx (v3 + 1)) ok_0 s1 _ hw) ok_0 rfl rfl cv_X10_count ml_L_140 ⟨Nat.le_of_ble_eq_true rfl, Nat.le_of_ble_eq_true rfl⟩ ⟨Nat.le_of_ble_eq_true rfl, Nat.le_of_ble_eq_true rfl⟩ rfl hl.1 rfl (Nat.le_of_ble_eq_true rfl) dL_law_1168) (fun r_152 s_151 H locs hw w => ?_)
      refine lv_aload_n (pc := 1171) C.1 C.2.1 dL_law_1171 rfl (lv_at hl 2 rfl) ?_
      refine lv_aload_n (pc := 1172) C.1 C.2.1 dL_law_1172 rfl (lv_at hl 0 rfl) ?_
      refine lv_iload_n (pc := 1173) C.1 C.2.1 dL_law_1173 rfl (lv_at hl 3 rfl) ?_
      refine lv_iconst (pc := 1174) (v := mm_I 1) C.1 C.2.1 dL_law_1174 rfl ?_
      refine g_iadd (pc := 1175) C dL_law_1175 ?_
      obtain ⟨hi, hw⟩ := hw
      refine g_sld (pc := 1176) C w hX hbl hbA hL hsx hi dL_law_1176 ?_
      refine g_calli (pc := 1177) w (mm_runV (ci := 11) (q := (RX11, TX11, 65)) (As := [.int (mm_I (sx (v3 + 1)))]) (rest := [.int (mm_I r_152)]) C w (c_X11_count l G 211 (sx (v3 + 1)) ok_211 s_151 _ hw) ok_211 rfl rfl cv_X11_count ml_L_143 ⟨Nat.le_of_ble_eq_true rfl, Nat.le_of_ble_eq_true rfl⟩ ⟨Nat.le_of_ble_eq_true rfl, Nat.le_of_ble_eq_true rfl⟩ rfl hl.1 rfl (Nat.le_of_ble_eq_true rfl) dL_law_1177) (fun r_154 s_153 H locs hw w => ?_)
      refine g_icmp_eq (pc := 1180) (tgt := 1185) C rfl rfl dL_law_1180 (by decide) (fun hc => ?_) (fun hc => ?_)
      · have hw := hw.1 hc
        refine g_iinc (pc := 1185) (k := 3) C dL_law_1185 hl rfl (by decide) (fun v3_155 ev3_155 ls hl => ?_)
        have hw := hw v3_155 ev3_155
        have hl : lv_has ls 4 [(3, .int (mm_I v3_155)), (0, .ref b), (1, .ref (mm_ad G 0)), (2, .ref (mm_ad G 211))] := hl
        refine lv_goto (pc := 1188) (tgt := 18) C.1 C.2.1 dL_law_1188 (by decide) ?_
        exact hw  _ _ _ w (lv_sub hl [1, 2, 3, 0] rfl)
      · have hw := hw.2 hc
        refine lv_iconst (pc := 1183) (v := mm_I 0) C.1 C.2.1 dL_law_1183 rfl ?_
        exact hw.elim
    have hw := hw.2 hc30
    refine lv_tableOut (pc := 33) (tgt := 1185) C.1 C.2.1 dL_law_33 (mo_0_30 hc0 hc1 hc2 hc3 hc4 hc5 hc6 hc7 hc8 hc9 hc10 hc11 hc12 hc13 hc14 hc15 hc16 hc17 hc18 hc19 hc20 hc21 hc22 hc23 hc24 hc25 hc26 hc27 hc28 hc29 hc30) (by decide) ?_
    refine g_iinc (pc := 1185) (k := 3) C dL_law_1185 hl rfl (by decide) (fun v3_156 ev3_156 ls hl => ?_)
    have hw := hw v3_156 ev3_156
    have hl : lv_has ls 4 [(3, .int (mm_I v3_156)), (0, .ref b), (1, .ref (mm_ad G 0)), (2, .ref (mm_ad G 211))] := hl
    refine lv_goto (pc := 1188) (tgt := 18) C.1 C.2.1 dL_law_1188 (by decide) ?_
    exact hw  _ _ _ w (lv_sub hl [1, 2, 3, 0] rfl)
