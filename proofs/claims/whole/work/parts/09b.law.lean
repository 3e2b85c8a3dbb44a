theorem lki_1 : Int32.ofInt (1) = (1 : Int32) := by decide +kernel
theorem lki_2 : Int32.ofInt (2) = (2 : Int32) := by decide +kernel
theorem lki_3 : Int32.ofInt (3) = (3 : Int32) := by decide +kernel
theorem lki_4 : Int32.ofInt (4) = (4 : Int32) := by decide +kernel
theorem lwc_X8_yard : Cond.code yX8_yard cX8_yard 8 (some .int) ∈ BW := bw2 49 rfl rfl
theorem lmv_13 : MV RL 13 RX8 yX8_yard cX8_yard 8 (some .int) 4 := mv_of (bw2 46 rfl rfl) (bw2 47 rfl rfl) (bw2 48 rfl rfl) (bw1 1 rfl rfl) lwc_X8_yard ⟨rfl, by decide +kernel, by decide +kernel, by decide +kernel⟩ (by decide)
theorem lwc_X9_yard : Cond.code yX9_yard cX9_yard 6 (some .int) ∈ BW := bw4 138 rfl rfl
theorem lmv_17 : MV RL 17 RX9 yX9_yard cX9_yard 6 (some .int) 4 := mv_of (bw4 135 rfl rfl) (bw4 136 rfl rfl) (bw4 137 rfl rfl) (bw1 9 rfl rfl) lwc_X9_yard ⟨rfl, by decide +kernel, by decide +kernel, by decide +kernel⟩ (by decide)
theorem lwc_X8_at : Cond.code yX8_at cX8_at 3 (some .int) ∈ BW := bw2 156 rfl rfl
theorem lmv_18 : MV RL 18 RX8 yX8_at cX8_at 3 (some .int) 1 := mv_of (bw2 153 rfl rfl) (bw2 154 rfl rfl) (bw2 155 rfl rfl) (bw1 1 rfl rfl) lwc_X8_at ⟨rfl, by decide +kernel, by decide +kernel, by decide +kernel⟩ (by decide)
theorem lwc_X9_at : Cond.code yX9_at cX9_at 3 (some .int) ∈ BW := bw4 185 rfl rfl
theorem lmv_22 : MV RL 22 RX9 yX9_at cX9_at 3 (some .int) 1 := mv_of (bw4 182 rfl rfl) (bw4 183 rfl rfl) (bw4 184 rfl rfl) (bw1 9 rfl rfl) lwc_X9_at ⟨rfl, by decide +kernel, by decide +kernel, by decide +kernel⟩ (by decide)
theorem lwc_X8_ofBlock : Cond.code yX8_ofBlock cX8_ofBlock 3 (some .int) ∈ BW := bw2 175 rfl rfl
theorem lmv_23 : MV RL 23 RX8 yX8_ofBlock cX8_ofBlock 3 (some .int) 2 := mv_of (bw2 172 rfl rfl) (bw2 173 rfl rfl) (bw2 174 rfl rfl) (bw1 1 rfl rfl) lwc_X8_ofBlock ⟨rfl, by decide +kernel, by decide +kernel, by decide +kernel⟩ (by decide)
theorem lwc_X9_ofBlock : Cond.code yX9_ofBlock cX9_ofBlock 3 (some .int) ∈ BW := bw4 197 rfl rfl
theorem lmv_27 : MV RL 27 RX9 yX9_ofBlock cX9_ofBlock 3 (some .int) 2 := mv_of (bw4 194 rfl rfl) (bw4 195 rfl rfl) (bw4 196 rfl rfl) (bw1 9 rfl rfl) lwc_X9_ofBlock ⟨rfl, by decide +kernel, by decide +kernel, by decide +kernel⟩ (by decide)
theorem lwc_X8_push : Cond.code yX8_push cX8_push 4 (some .int) ∈ BW := bw2 187 rfl rfl
theorem lmv_28 : MV RL 28 RX8 yX8_push cX8_push 4 (some .int) 2 := mv_of (bw2 184 rfl rfl) (bw2 185 rfl rfl) (bw2 186 rfl rfl) (bw1 1 rfl rfl) lwc_X8_push ⟨rfl, by decide +kernel, by decide +kernel, by decide +kernel⟩ (by decide)
theorem lwc_X9_push : Cond.code yX9_push cX9_push 5 (some .int) ∈ BW := bw4 205 rfl rfl
theorem lmv_31 : MV RL 31 RX9 yX9_push cX9_push 5 (some .int) 2 := mv_of (bw4 202 rfl rfl) (bw4 203 rfl rfl) (bw4 204 rfl rfl) (bw1 9 rfl rfl) lwc_X9_push ⟨rfl, by decide +kernel, by decide +kernel, by decide +kernel⟩ (by decide)
theorem lwc_X8_would : Cond.code yX8_would cX8_would 4 (some .int) ∈ BW := bw2 229 rfl rfl
theorem lmv_32 : MV RL 32 RX8 yX8_would cX8_would 4 (some .int) 2 := mv_of (bw2 226 rfl rfl) (bw2 227 rfl rfl) (bw2 228 rfl rfl) (bw1 1 rfl rfl) lwc_X8_would ⟨rfl, by decide +kernel, by decide +kernel, by decide +kernel⟩ (by decide)
theorem lwc_X9_would : Cond.code yX9_would cX9_would 5 (some .int) ∈ BW := bw4 233 rfl rfl
theorem lmv_35 : MV RL 35 RX9 yX9_would cX9_would 5 (some .int) 2 := mv_of (bw4 230 rfl rfl) (bw4 231 rfl rfl) (bw4 232 rfl rfl) (bw1 9 rfl rfl) lwc_X9_would ⟨rfl, by decide +kernel, by decide +kernel, by decide +kernel⟩ (by decide)
theorem lwc_X8_tracks : Cond.code yX8_tracks cX8_tracks 3 (some .long) ∈ BW := bw2 233 rfl rfl
theorem lmv_36 : MV RL 36 RX8 yX8_tracks cX8_tracks 3 (some .long) 2 := mv_of (bw2 230 rfl rfl) (bw2 231 rfl rfl) (bw2 232 rfl rfl) (bw1 1 rfl rfl) lwc_X8_tracks ⟨rfl, by decide +kernel, by decide +kernel, by decide +kernel⟩ (by decide)
theorem lwc_X9_tracks : Cond.code yX9_tracks cX9_tracks 3 (some .long) ∈ BW := bw4 237 rfl rfl
theorem lmv_40 : MV RL 40 RX9 yX9_tracks cX9_tracks 3 (some .long) 2 := mv_of (bw4 234 rfl rfl) (bw4 235 rfl rfl) (bw4 236 rfl rfl) (bw1 9 rfl rfl) lwc_X9_tracks ⟨rfl, by decide +kernel, by decide +kernel, by decide +kernel⟩ (by decide)
theorem lwc_X8_undo : Cond.code yX8_undo cX8_undo 3 (some .int) ∈ BW := bw2 238 rfl rfl
theorem lmv_41 : MV RL 41 RX8 yX8_undo cX8_undo 3 (some .int) 1 := mv_of (bw2 235 rfl rfl) (bw2 236 rfl rfl) (bw2 237 rfl rfl) (bw1 1 rfl rfl) lwc_X8_undo ⟨rfl, by decide +kernel, by decide +kernel, by decide +kernel⟩ (by decide)
theorem lwc_X9_undo : Cond.code yX9_undo cX9_undo 4 (some .int) ∈ BW := bw5 5 rfl rfl
theorem lmv_44 : MV RL 44 RX9 yX9_undo cX9_undo 4 (some .int) 1 := mv_of (bw5 2 rfl rfl) (bw5 3 rfl rfl) (bw5 4 rfl rfl) (bw1 9 rfl rfl) lwc_X9_undo ⟨rfl, by decide +kernel, by decide +kernel, by decide +kernel⟩ (by decide)
theorem lwc_X8_keep : Cond.code yX8_keep cX8_keep 2 (some .int) ∈ BW := bw3 2 rfl rfl
theorem lmv_45 : MV RL 45 RX8 yX8_keep cX8_keep 2 (some .int) 1 := mv_of (bw2 239 rfl rfl) (bw3 0 rfl rfl) (bw3 1 rfl rfl) (bw1 1 rfl rfl) lwc_X8_keep ⟨rfl, by decide +kernel, by decide +kernel, by decide +kernel⟩ (by decide)
theorem lwc_X9_keep : Cond.code yX9_keep cX9_keep 3 (some .int) ∈ BW := bw5 9 rfl rfl
theorem lmv_48 : MV RL 48 RX9 yX9_keep cX9_keep 3 (some .int) 1 := mv_of (bw5 6 rfl rfl) (bw5 7 rfl rfl) (bw5 8 rfl rfl) (bw1 9 rfl rfl) lwc_X9_keep ⟨rfl, by decide +kernel, by decide +kernel, by decide +kernel⟩ (by decide)
theorem lwc_X8_back : Cond.code yX8_back cX8_back 2 (some .int) ∈ BW := bw3 6 rfl rfl
theorem lmv_49 : MV RL 49 RX8 yX8_back cX8_back 2 (some .int) 1 := mv_of (bw3 3 rfl rfl) (bw3 4 rfl rfl) (bw3 5 rfl rfl) (bw1 1 rfl rfl) lwc_X8_back ⟨rfl, by decide +kernel, by decide +kernel, by decide +kernel⟩ (by decide)
theorem lwc_X9_back : Cond.code yX9_back cX9_back 3 (some .int) ∈ BW := bw5 13 rfl rfl
theorem lmv_52 : MV RL 52 RX9 yX9_back cX9_back 3 (some .int) 1 := mv_of (bw5 10 rfl rfl) (bw5 11 rfl rfl) (bw5 12 rfl rfl) (bw1 9 rfl rfl) lwc_X9_back ⟨rfl, by decide +kernel, by decide +kernel, by decide +kernel⟩ (by decide)
theorem lwc_X8_fewest : Cond.code yX8_fewest cX8_fewest 4 (some .int) ∈ BW := bw3 10 rfl rfl
theorem lmv_53 : MV RL 53 RX8 yX8_fewest cX8_fewest 4 (some .int) 2 := mv_of (bw3 7 rfl rfl) (bw3 8 rfl rfl) (bw3 9 rfl rfl) (bw1 1 rfl rfl) lwc_X8_fewest ⟨rfl, by decide +kernel, by decide +kernel, by decide +kernel⟩ (by decide)
theorem lwc_X9_fewest : Cond.code yX9_fewest cX9_fewest 7 (some .int) ∈ BW := bw5 17 rfl rfl
theorem lmv_56 : MV RL 56 RX9 yX9_fewest cX9_fewest 7 (some .int) 2 := mv_of (bw5 14 rfl rfl) (bw5 15 rfl rfl) (bw5 16 rfl rfl) (bw1 9 rfl rfl) lwc_X9_fewest ⟨rfl, by decide +kernel, by decide +kernel, by decide +kernel⟩ (by decide)
theorem lwc_X8_won : Cond.code yX8_won cX8_won 2 (some .int) ∈ BW := bw3 49 rfl rfl
theorem lmv_57 : MV RL 57 RX8 yX8_won cX8_won 2 (some .int) 1 := mv_of (bw3 46 rfl rfl) (bw3 47 rfl rfl) (bw3 48 rfl rfl) (bw1 1 rfl rfl) lwc_X8_won ⟨rfl, by decide +kernel, by decide +kernel, by decide +kernel⟩ (by decide)
theorem lwc_X9_won : Cond.code yX9_won cX9_won 2 (some .int) ∈ BW := bw5 48 rfl rfl
theorem lmv_60 : MV RL 60 RX9 yX9_won cX9_won 2 (some .int) 1 := mv_of (bw5 45 rfl rfl) (bw5 46 rfl rfl) (bw5 47 rfl rfl) (bw1 9 rfl rfl) lwc_X9_won ⟨rfl, by decide +kernel, by decide +kernel, by decide +kernel⟩ (by decide)
theorem lwc_X8_first : Cond.code yX8_first cX8_first 2 (some .int) ∈ BW := bw3 67 rfl rfl
theorem lmv_61 : MV RL 61 RX8 yX8_first cX8_first 2 (some .int) 1 := mv_of (bw3 64 rfl rfl) (bw3 65 rfl rfl) (bw3 66 rfl rfl) (bw1 1 rfl rfl) lwc_X8_first ⟨rfl, by decide +kernel, by decide +kernel, by decide +kernel⟩ (by decide)
theorem lwc_X9_first : Cond.code yX9_first cX9_first 3 (some .int) ∈ BW := bw5 80 rfl rfl
theorem lmv_64 : MV RL 64 RX9 yX9_first cX9_first 3 (some .int) 1 := mv_of (bw5 77 rfl rfl) (bw5 78 rfl rfl) (bw5 79 rfl rfl) (bw1 9 rfl rfl) lwc_X9_first ⟨rfl, by decide +kernel, by decide +kernel, by decide +kernel⟩ (by decide)
theorem lkb_32 : (Int8.ofInt (32)).toInt32 = (32 : Int32) := by decide +kernel
theorem lcl_65 : Jvm.Cond.constantLong RL 65 (4294967295 : Int64) ∈ BW := bw5 167 rfl rfl
theorem lwc_X8_rows : Cond.code yX8_rows cX8_rows 6 (some .int) ∈ BW := bw3 71 rfl rfl
theorem lmv_67 : MV RL 67 RX8 yX8_rows cX8_rows 6 (some .int) 3 := mv_of (bw3 68 rfl rfl) (bw3 69 rfl rfl) (bw3 70 rfl rfl) (bw1 1 rfl rfl) lwc_X8_rows ⟨rfl, by decide +kernel, by decide +kernel, by decide +kernel⟩ (by decide)
theorem lwc_X9_rows : Cond.code yX9_rows cX9_rows 9 (some .int) ∈ BW := bw5 84 rfl rfl
theorem lmv_71 : MV RL 71 RX9 yX9_rows cX9_rows 9 (some .int) 3 := mv_of (bw5 81 rfl rfl) (bw5 82 rfl rfl) (bw5 83 rfl rfl) (bw1 9 rfl rfl) lwc_X9_rows ⟨rfl, by decide +kernel, by decide +kernel, by decide +kernel⟩ (by decide)
theorem lwc_X8_sand : Cond.code yX8_sand cX8_sand 6 (some .int) ∈ BW := bw3 97 rfl rfl
theorem lmv_72 : MV RL 72 RX8 yX8_sand cX8_sand 6 (some .int) 4 := mv_of (bw3 94 rfl rfl) (bw3 95 rfl rfl) (bw3 96 rfl rfl) (bw1 1 rfl rfl) lwc_X8_sand ⟨rfl, by decide +kernel, by decide +kernel, by decide +kernel⟩ (by decide)
theorem lwc_X9_sand : Cond.code yX9_sand cX9_sand 10 (some .int) ∈ BW := bw5 93 rfl rfl
theorem lmv_75 : MV RL 75 RX9 yX9_sand cX9_sand 10 (some .int) 4 := mv_of (bw5 90 rfl rfl) (bw5 91 rfl rfl) (bw5 92 rfl rfl) (bw1 9 rfl rfl) lwc_X9_sand ⟨rfl, by decide +kernel, by decide +kernel, by decide +kernel⟩ (by decide)
theorem lwc_X8_thaw : Cond.code yX8_thaw cX8_thaw 7 (some .int) ∈ BW := bw3 118 rfl rfl
theorem lmv_76 : MV RL 76 RX8 yX8_thaw cX8_thaw 7 (some .int) 1 := mv_of (bw3 115 rfl rfl) (bw3 116 rfl rfl) (bw3 117 rfl rfl) (bw1 1 rfl rfl) lwc_X8_thaw ⟨rfl, by decide +kernel, by decide +kernel, by decide +kernel⟩ (by decide)
theorem lwc_X9_thaw : Cond.code yX9_thaw cX9_thaw 5 (some .int) ∈ BW := bw5 105 rfl rfl
theorem lmv_79 : MV RL 79 RX9 yX9_thaw cX9_thaw 5 (some .int) 1 := mv_of (bw5 102 rfl rfl) (bw5 103 rfl rfl) (bw5 104 rfl rfl) (bw1 9 rfl rfl) lwc_X9_thaw ⟨rfl, by decide +kernel, by decide +kernel, by decide +kernel⟩ (by decide)
theorem lwc_X8_sheet : Cond.code yX8_sheet cX8_sheet 5 (some .int) ∈ BW := bw3 123 rfl rfl
theorem lmv_80 : MV RL 80 RX8 yX8_sheet cX8_sheet 5 (some .int) 3 := mv_of (bw3 120 rfl rfl) (bw3 121 rfl rfl) (bw3 122 rfl rfl) (bw1 1 rfl rfl) lwc_X8_sheet ⟨rfl, by decide +kernel, by decide +kernel, by decide +kernel⟩ (by decide)
theorem lwc_X9_sheet : Cond.code yX9_sheet cX9_sheet 5 (some .int) ∈ BW := bw5 110 rfl rfl
theorem lmv_84 : MV RL 84 RX9 yX9_sheet cX9_sheet 5 (some .int) 3 := mv_of (bw5 107 rfl rfl) (bw5 108 rfl rfl) (bw5 109 rfl rfl) (bw1 9 rfl rfl) lwc_X9_sheet ⟨rfl, by decide +kernel, by decide +kernel, by decide +kernel⟩ (by decide)
theorem lwc_X8_lose : Cond.code yX8_lose cX8_lose 3 (some .int) ∈ BW := bw3 132 rfl rfl
theorem lmv_85 : MV RL 85 RX8 yX8_lose cX8_lose 3 (some .int) 1 := mv_of (bw3 129 rfl rfl) (bw3 130 rfl rfl) (bw3 131 rfl rfl) (bw1 1 rfl rfl) lwc_X8_lose ⟨rfl, by decide +kernel, by decide +kernel, by decide +kernel⟩ (by decide)
theorem lwc_X9_lose : Cond.code yX9_lose cX9_lose 3 (some .int) ∈ BW := bw5 114 rfl rfl
theorem lmv_88 : MV RL 88 RX9 yX9_lose cX9_lose 3 (some .int) 1 := mv_of (bw5 111 rfl rfl) (bw5 112 rfl rfl) (bw5 113 rfl rfl) (bw1 9 rfl rfl) lwc_X9_lose ⟨rfl, by decide +kernel, by decide +kernel, by decide +kernel⟩ (by decide)
theorem lwc_X8_put : Cond.code yX8_put cX8_put 5 (some .int) ∈ BW := bw3 141 rfl rfl
theorem lmv_89 : MV RL 89 RX8 yX8_put cX8_put 5 (some .int) 3 := mv_of (bw3 138 rfl rfl) (bw3 139 rfl rfl) (bw3 140 rfl rfl) (bw1 1 rfl rfl) lwc_X8_put ⟨rfl, by decide +kernel, by decide +kernel, by decide +kernel⟩ (by decide)
theorem lwc_X9_put : Cond.code yX9_put cX9_put 4 (some .int) ∈ BW := bw5 118 rfl rfl
theorem lmv_92 : MV RL 92 RX9 yX9_put cX9_put 4 (some .int) 3 := mv_of (bw5 115 rfl rfl) (bw5 116 rfl rfl) (bw5 117 rfl rfl) (bw1 9 rfl rfl) lwc_X9_put ⟨rfl, by decide +kernel, by decide +kernel, by decide +kernel⟩ (by decide)
theorem lwc_X8_cell : Cond.code yX8_cell cX8_cell 6 (some .long) ∈ BW := bw3 154 rfl rfl
theorem lmv_93 : MV RL 93 RX8 yX8_cell cX8_cell 6 (some .long) 3 := mv_of (bw3 151 rfl rfl) (bw3 152 rfl rfl) (bw3 153 rfl rfl) (bw1 1 rfl rfl) lwc_X8_cell ⟨rfl, by decide +kernel, by decide +kernel, by decide +kernel⟩ (by decide)
theorem lwc_X9_cell : Cond.code yX9_cell cX9_cell 4 (some .long) ∈ BW := bw5 126 rfl rfl
theorem lmv_97 : MV RL 97 RX9 yX9_cell cX9_cell 4 (some .long) 3 := mv_of (bw5 123 rfl rfl) (bw5 124 rfl rfl) (bw5 125 rfl rfl) (bw1 9 rfl rfl) lwc_X9_cell ⟨rfl, by decide +kernel, by decide +kernel, by decide +kernel⟩ (by decide)
theorem lki_5 : Int32.ofInt (5) = (5 : Int32) := by decide +kernel
theorem lwc_X8_copy : Cond.code yX8_copy cX8_copy 8 (some .int) ∈ BW := bw3 159 rfl rfl
theorem lmv_98 : MV RL 98 RX8 yX8_copy cX8_copy 8 (some .int) 5 := mv_of (bw3 156 rfl rfl) (bw3 157 rfl rfl) (bw3 158 rfl rfl) (bw1 1 rfl rfl) lwc_X8_copy ⟨rfl, by decide +kernel, by decide +kernel, by decide +kernel⟩ (by decide)
theorem lwc_X9_copy : Cond.code yX9_copy cX9_copy 7 (some .int) ∈ BW := bw5 134 rfl rfl
theorem lmv_102 : MV RL 102 RX9 yX9_copy cX9_copy 7 (some .int) 5 := mv_of (bw5 131 rfl rfl) (bw5 132 rfl rfl) (bw5 133 rfl rfl) (bw1 9 rfl rfl) lwc_X9_copy ⟨rfl, by decide +kernel, by decide +kernel, by decide +kernel⟩ (by decide)
theorem lwc_X8_tell : Cond.code yX8_tell cX8_tell 2 (some .int) ∈ BW := bw3 166 rfl rfl
theorem lmv_103 : MV RL 103 RX8 yX8_tell cX8_tell 2 (some .int) 1 := mv_of (bw3 163 rfl rfl) (bw3 164 rfl rfl) (bw3 165 rfl rfl) (bw1 1 rfl rfl) lwc_X8_tell ⟨rfl, by decide +kernel, by decide +kernel, by decide +kernel⟩ (by decide)
theorem lwc_X9_tell : Cond.code yX9_tell cX9_tell 4 (some .int) ∈ BW := bw5 138 rfl rfl
theorem lmv_106 : MV RL 106 RX9 yX9_tell cX9_tell 4 (some .int) 1 := mv_of (bw5 135 rfl rfl) (bw5 136 rfl rfl) (bw5 137 rfl rfl) (bw1 9 rfl rfl) lwc_X9_tell ⟨rfl, by decide +kernel, by decide +kernel, by decide +kernel⟩ (by decide)
theorem lwc_X8_kick : Cond.code yX8_kick cX8_kick 3 (some .int) ∈ BW := bw3 187 rfl rfl
theorem lmv_107 : MV RL 107 RX8 yX8_kick cX8_kick 3 (some .int) 1 := mv_of (bw3 184 rfl rfl) (bw3 185 rfl rfl) (bw3 186 rfl rfl) (bw1 1 rfl rfl) lwc_X8_kick ⟨rfl, by decide +kernel, by decide +kernel, by decide +kernel⟩ (by decide)
theorem lwc_X9_kick : Cond.code yX9_kick cX9_kick 2 (some .int) ∈ BW := bw5 146 rfl rfl
theorem lmv_110 : MV RL 110 RX9 yX9_kick cX9_kick 2 (some .int) 1 := mv_of (bw5 143 rfl rfl) (bw5 144 rfl rfl) (bw5 145 rfl rfl) (bw1 9 rfl rfl) lwc_X9_kick ⟨rfl, by decide +kernel, by decide +kernel, by decide +kernel⟩ (by decide)
theorem lwc_X8_as : Cond.code yX8_as cX8_as 3 (some .int) ∈ BW := bw3 191 rfl rfl
theorem lmv_111 : MV RL 111 RX8 yX8_as cX8_as 3 (some .int) 2 := mv_of (bw3 188 rfl rfl) (bw3 189 rfl rfl) (bw3 190 rfl rfl) (bw1 1 rfl rfl) lwc_X8_as ⟨rfl, by decide +kernel, by decide +kernel, by decide +kernel⟩ (by decide)
theorem lwc_X9_as : Cond.code yX9_as cX9_as 3 (some .int) ∈ BW := bw5 150 rfl rfl
theorem lmv_114 : MV RL 114 RX9 yX9_as cX9_as 3 (some .int) 2 := mv_of (bw5 147 rfl rfl) (bw5 148 rfl rfl) (bw5 149 rfl rfl) (bw1 9 rfl rfl) lwc_X9_as ⟨rfl, by decide +kernel, by decide +kernel, by decide +kernel⟩ (by decide)
theorem lwc_X8_trace : Cond.code yX8_trace cX8_trace 1 (some .int) ∈ BW := bw3 195 rfl rfl
theorem lmv_115 : MV RL 115 RX8 yX8_trace cX8_trace 1 (some .int) 0 := mv_of (bw3 192 rfl rfl) (bw3 193 rfl rfl) (bw3 194 rfl rfl) (bw1 1 rfl rfl) lwc_X8_trace ⟨rfl, by decide +kernel, by decide +kernel, by decide +kernel⟩ (by decide)
theorem lwc_X9_trace : Cond.code yX9_trace cX9_trace 1 (some .int) ∈ BW := bw5 154 rfl rfl
theorem lmv_119 : MV RL 119 RX9 yX9_trace cX9_trace 1 (some .int) 0 := mv_of (bw5 151 rfl rfl) (bw5 152 rfl rfl) (bw5 153 rfl rfl) (bw1 9 rfl rfl) lwc_X9_trace ⟨rfl, by decide +kernel, by decide +kernel, by decide +kernel⟩ (by decide)
theorem lwc_X8_fault : Cond.code yX8_fault cX8_fault 1 (some .int) ∈ BW := bw3 199 rfl rfl
theorem lmv_120 : MV RL 120 RX8 yX8_fault cX8_fault 1 (some .int) 0 := mv_of (bw3 196 rfl rfl) (bw3 197 rfl rfl) (bw3 198 rfl rfl) (bw1 1 rfl rfl) lwc_X8_fault ⟨rfl, by decide +kernel, by decide +kernel, by decide +kernel⟩ (by decide)
theorem lwc_X9_fault : Cond.code yX9_fault cX9_fault 1 (some .int) ∈ BW := bw5 158 rfl rfl
theorem lmv_123 : MV RL 123 RX9 yX9_fault cX9_fault 1 (some .int) 0 := mv_of (bw5 155 rfl rfl) (bw5 156 rfl rfl) (bw5 157 rfl rfl) (bw1 9 rfl rfl) lwc_X9_fault ⟨rfl, by decide +kernel, by decide +kernel, by decide +kernel⟩ (by decide)
theorem lwc_X8_many : Cond.code yX8_many cX8_many 2 (some .int) ∈ BW := bw3 203 rfl rfl
theorem lmv_124 : MV RL 124 RX8 yX8_many cX8_many 2 (some .int) 1 := mv_of (bw3 200 rfl rfl) (bw3 201 rfl rfl) (bw3 202 rfl rfl) (bw1 1 rfl rfl) lwc_X8_many ⟨rfl, by decide +kernel, by decide +kernel, by decide +kernel⟩ (by decide)
theorem lwc_X9_many : Cond.code yX9_many cX9_many 2 (some .int) ∈ BW := bw5 162 rfl rfl
theorem lmv_127 : MV RL 127 RX9 yX9_many cX9_many 2 (some .int) 1 := mv_of (bw5 159 rfl rfl) (bw5 160 rfl rfl) (bw5 161 rfl rfl) (bw1 9 rfl rfl) lwc_X9_many ⟨rfl, by decide +kernel, by decide +kernel, by decide +kernel⟩ (by decide)
theorem lkb_6 : (Int8.ofInt (6)).toInt32 = (6 : Int32) := by decide +kernel
theorem lkb_31 : (Int8.ofInt (31)).toInt32 = (31 : Int32) := by decide +kernel
theorem lki_0 : Int32.ofInt (0) = (0 : Int32) := by decide +kernel
def Sim_yard (Rel : Mem → Mem → Prop) : Prop := ∀ (σ τ : Mem) (a0 : Int32) (a1 : Int32) (a2 : Int32) (a3 : Int32), Rel σ τ → ∃ (r : Int32) (σ2 τ2 : Mem), FX8_yard σ a0 a1 a2 a3 = some (r, σ2) ∧ FX9_yard τ a0 a1 a2 a3 = some (r, τ2) ∧ Rel σ2 τ2
set_option maxHeartbeats 4000000 in
set_option maxRecDepth 100000 in
theorem lawc_0 {Rel : Mem → Mem → Prop} (hs : Sim_yard Rel) {Y : LX} {σ τ : Mem} {x3 : Int32} (hR : Rel σ τ) (hb1 : vp_in (x3 + (1 : Int32)) (yL Y)) (hb2 : vp_in (x3 + (2 : Int32)) (yL Y)) (hb3 : vp_in (x3 + (3 : Int32)) (yL Y)) (hb4 : vp_in (x3 + (4 : Int32)) (yL Y)) (hb5 : vp_in (x3 + (5 : Int32)) (yL Y)) (k : ∀ σ2 τ2, Rel σ2 τ2 → JL Y σ2 τ2 1002 [(0, .ref (yb Y)), (1, .ref (yX Y 0)), (2, .ref (yM Y 0)), (3, .int x3)] []) : JL Y σ τ 152 [(0, .ref (yb Y)), (1, .ref (yX Y 0)), (2, .ref (yM Y 0)), (3, .int x3)] [] := by
  obtain ⟨r, σ2, τ2, h1, h2, hR2⟩ := hs σ τ (yxs Y ((x3 + (1 : Int32))).toNatClampNeg) (yxs Y ((x3 + (2 : Int32))).toNatClampNeg) (yxs Y ((x3 + (3 : Int32))).toNatClampNeg) (yxs Y ((x3 + (4 : Int32))).toNatClampNeg) hR
  refine q_aload_n 1 dL_law_152 rfl rfl rfl ?_
  refine q_aload_n 0 dL_law_153 rfl rfl rfl ?_
  refine q_iload_n 3 dL_law_154 rfl rfl rfl ?_
  refine q_iconst dL_law_155 rfl lki_1 ?_
  refine q_iadd dL_law_156 rfl ?_
  refine q_sld hb1 dL_law_157 rfl ?_
  refine q_aload_n 0 dL_law_158 rfl rfl rfl ?_
  refine q_iload_n 3 dL_law_159 rfl rfl rfl ?_
  refine q_iconst dL_law_160 rfl lki_2 ?_
  refine q_iadd dL_law_161 rfl ?_
  refine q_sld hb2 dL_law_162 rfl ?_
  refine q_aload_n 0 dL_law_163 rfl rfl rfl ?_
  refine q_iload_n 3 dL_law_164 rfl rfl rfl ?_
  refine q_iconst dL_law_165 rfl lki_3 ?_
  refine q_iadd dL_law_166 rfl ?_
  refine q_sld hb3 dL_law_167 rfl ?_
  refine q_aload_n 0 dL_law_168 rfl rfl rfl ?_
  refine q_iload_n 3 dL_law_169 rfl rfl rfl ?_
  refine q_iconst dL_law_170 rfl lki_4 ?_
  refine q_iadd dL_law_171 rfl ?_
  refine q_sld hb4 dL_law_172 rfl ?_
  refine q_callX [.int (yxs Y ((x3 + (1 : Int32))).toNatClampNeg), .int (yxs Y ((x3 + (2 : Int32))).toNatClampNeg), .int (yxs Y ((x3 + (3 : Int32))).toNatClampNeg), .int (yxs Y ((x3 + (4 : Int32))).toNatClampNeg)] [] [.int r] (coX8_yard σ (yxs Y ((x3 + (1 : Int32))).toNatClampNeg) (yxs Y ((x3 + (2 : Int32))).toNatClampNeg) (yxs Y ((x3 + (3 : Int32))).toNatClampNeg) (yxs Y ((x3 + (4 : Int32))).toNatClampNeg) r σ2 h1) lmv_13 (by decide) rfl rfl rfl (Nat.le_of_ble_eq_true rfl) rfl dL_law_173 rfl ?_
  refine q_aload_n 2 dL_law_176 rfl rfl rfl ?_
  refine q_aload_n 0 dL_law_177 rfl rfl rfl ?_
  refine q_iload_n 3 dL_law_178 rfl rfl rfl ?_
  refine q_iconst dL_law_179 rfl lki_1 ?_
  refine q_iadd dL_law_180 rfl ?_
  refine q_sld hb1 dL_law_181 rfl ?_
  refine q_aload_n 0 dL_law_182 rfl rfl rfl ?_
  refine q_iload_n 3 dL_law_183 rfl rfl rfl ?_
  refine q_iconst dL_law_184 rfl lki_2 ?_
  refine q_iadd dL_law_185 rfl ?_
  refine q_sld hb2 dL_law_186 rfl ?_
  refine q_aload_n 0 dL_law_187 rfl rfl rfl ?_
  refine q_iload_n 3 dL_law_188 rfl rfl rfl ?_
  refine q_iconst dL_law_189 rfl lki_3 ?_
  refine q_iadd dL_law_190 rfl ?_
  refine q_sld hb3 dL_law_191 rfl ?_
  refine q_aload_n 0 dL_law_192 rfl rfl rfl ?_
  refine q_iload_n 3 dL_law_193 rfl rfl rfl ?_
  refine q_iconst dL_law_194 rfl lki_4 ?_
  refine q_iadd dL_law_195 rfl ?_
  refine q_sld hb4 dL_law_196 rfl ?_
  refine q_callM [.int (yxs Y ((x3 + (1 : Int32))).toNatClampNeg), .int (yxs Y ((x3 + (2 : Int32))).toNatClampNeg), .int (yxs Y ((x3 + (3 : Int32))).toNatClampNeg), .int (yxs Y ((x3 + (4 : Int32))).toNatClampNeg)] [.int r] [.int r, .int r] (coX9_yard τ (yxs Y ((x3 + (1 : Int32))).toNatClampNeg) (yxs Y ((x3 + (2 : Int32))).toNatClampNeg) (yxs Y ((x3 + (3 : Int32))).toNatClampNeg) (yxs Y ((x3 + (4 : Int32))).toNatClampNeg) r τ2 h2) lmv_17 (by decide) rfl rfl rfl (Nat.le_of_ble_eq_true rfl) rfl dL_law_197 rfl ?_
  refine q_eqT dL_law_200 rfl ?_
  exact k _ _ hR2
def Sim_at (Rel : Mem → Mem → Prop) : Prop := ∀ (σ τ : Mem) (a0 : Int32), Rel σ τ → ∃ (r : Int32) (σ2 τ2 : Mem), FX8_at σ a0 = some (r, σ2) ∧ FX9_at τ a0 = some (r, τ2) ∧ Rel σ2 τ2
set_option maxHeartbeats 4000000 in
set_option maxRecDepth 100000 in
theorem lawc_1 {Rel : Mem → Mem → Prop} (hs : Sim_at Rel) {Y : LX} {σ τ : Mem} {x3 : Int32} (hR : Rel σ τ) (hb1 : vp_in (x3 + (1 : Int32)) (yL Y)) (hb2 : vp_in (x3 + (2 : Int32)) (yL Y)) (hb3 : vp_in (x3 + (3 : Int32)) (yL Y)) (hb4 : vp_in (x3 + (4 : Int32)) (yL Y)) (hb5 : vp_in (x3 + (5 : Int32)) (yL Y)) (k : ∀ σ2 τ2, Rel σ2 τ2 → JL Y σ2 τ2 1002 [(0, .ref (yb Y)), (1, .ref (yX Y 0)), (2, .ref (yM Y 0)), (3, .int x3)] []) : JL Y σ τ 205 [(0, .ref (yb Y)), (1, .ref (yX Y 0)), (2, .ref (yM Y 0)), (3, .int x3)] [] := by
  obtain ⟨r, σ2, τ2, h1, h2, hR2⟩ := hs σ τ (yxs Y ((x3 + (1 : Int32))).toNatClampNeg) hR
  refine q_aload_n 1 dL_law_205 rfl rfl rfl ?_
  refine q_aload_n 0 dL_law_206 rfl rfl rfl ?_
  refine q_iload_n 3 dL_law_207 rfl rfl rfl ?_
  refine q_iconst dL_law_208 rfl lki_1 ?_
  refine q_iadd dL_law_209 rfl ?_
  refine q_sld hb1 dL_law_210 rfl ?_
  refine q_callX [.int (yxs Y ((x3 + (1 : Int32))).toNatClampNeg)] [] [.int r] (coX8_at σ (yxs Y ((x3 + (1 : Int32))).toNatClampNeg) r σ2 h1) lmv_18 (by decide) rfl rfl rfl (Nat.le_of_ble_eq_true rfl) rfl dL_law_211 rfl ?_
  refine q_aload_n 2 dL_law_214 rfl rfl rfl ?_
  refine q_aload_n 0 dL_law_215 rfl rfl rfl ?_
  refine q_iload_n 3 dL_law_216 rfl rfl rfl ?_
  refine q_iconst dL_law_217 rfl lki_1 ?_
  refine q_iadd dL_law_218 rfl ?_
  refine q_sld hb1 dL_law_219 rfl ?_
  refine q_callM [.int (yxs Y ((x3 + (1 : Int32))).toNatClampNeg)] [.int r] [.int r, .int r] (coX9_at τ (yxs Y ((x3 + (1 : Int32))).toNatClampNeg) r τ2 h2) lmv_22 (by decide) rfl rfl rfl (Nat.le_of_ble_eq_true rfl) rfl dL_law_220 rfl ?_
  refine q_eqT dL_law_223 rfl ?_
  exact k _ _ hR2
def Sim_ofBlock (Rel : Mem → Mem → Prop) : Prop := ∀ (σ τ : Mem) (a0 : Int32) (a1 : Int32), Rel σ τ → ∃ (r : Int32) (σ2 τ2 : Mem), FX8_ofBlock σ a0 a1 = some (r, σ2) ∧ FX9_ofBlock τ a0 a1 = some (r, τ2) ∧ Rel σ2 τ2
set_option maxHeartbeats 4000000 in
set_option maxRecDepth 100000 in
theorem lawc_2 {Rel : Mem → Mem → Prop} (hs : Sim_ofBlock Rel) {Y : LX} {σ τ : Mem} {x3 : Int32} (hR : Rel σ τ) (hb1 : vp_in (x3 + (1 : Int32)) (yL Y)) (hb2 : vp_in (x3 + (2 : Int32)) (yL Y)) (hb3 : vp_in (x3 + (3 : Int32)) (yL Y)) (hb4 : vp_in (x3 + (4 : Int32)) (yL Y)) (hb5 : vp_in (x3 + (5 : Int32)) (yL Y)) (k : ∀ σ2 τ2, Rel σ2 τ2 → JL Y σ2 τ2 1002 [(0, .ref (yb Y)), (1, .ref (yX Y 0)), (2, .ref (yM Y 0)), (3, .int x3)] []) : JL Y σ τ 228 [(0, .ref (yb Y)), (1, .ref (yX Y 0)), (2, .ref (yM Y 0)), (3, .int x3)] [] := by
  obtain ⟨r, σ2, τ2, h1, h2, hR2⟩ := hs σ τ (yxs Y ((x3 + (1 : Int32))).toNatClampNeg) (yxs Y ((x3 + (2 : Int32))).toNatClampNeg) hR
  refine q_aload_n 1 dL_law_228 rfl rfl rfl ?_
  refine q_aload_n 0 dL_law_229 rfl rfl rfl ?_
  refine q_iload_n 3 dL_law_230 rfl rfl rfl ?_
  refine q_iconst dL_law_231 rfl lki_1 ?_
  refine q_iadd dL_law_232 rfl ?_
  refine q_sld hb1 dL_law_233 rfl ?_
  refine q_aload_n 0 dL_law_234 rfl rfl rfl ?_
  refine q_iload_n 3 dL_law_235 rfl rfl rfl ?_
  refine q_iconst dL_law_236 rfl lki_2 ?_
  refine q_iadd dL_law_237 rfl ?_
  refine q_sld hb2 dL_law_238 rfl ?_
  refine q_callX [.int (yxs Y ((x3 + (1 : Int32))).toNatClampNeg), .int (yxs Y ((x3 + (2 : Int32))).toNatClampNeg)] [] [.int r] (coX8_ofBlock σ (yxs Y ((x3 + (1 : Int32))).toNatClampNeg) (yxs Y ((x3 + (2 : Int32))).toNatClampNeg) r σ2 h1) lmv_23 (by decide) rfl rfl rfl (Nat.le_of_ble_eq_true rfl) rfl dL_law_239 rfl ?_
  refine q_aload_n 2 dL_law_242 rfl rfl rfl ?_
  refine q_aload_n 0 dL_law_243 rfl rfl rfl ?_
  refine q_iload_n 3 dL_law_244 rfl rfl rfl ?_
  refine q_iconst dL_law_245 rfl lki_1 ?_
  refine q_iadd dL_law_246 rfl ?_
  refine q_sld hb1 dL_law_247 rfl ?_
  refine q_aload_n 0 dL_law_248 rfl rfl rfl ?_
  refine q_iload_n 3 dL_law_249 rfl rfl rfl ?_
  refine q_iconst dL_law_250 rfl lki_2 ?_
  refine q_iadd dL_law_251 rfl ?_
  refine q_sld hb2 dL_law_252 rfl ?_
  refine q_callM [.int (yxs Y ((x3 + (1 : Int32))).toNatClampNeg), .int (yxs Y ((x3 + (2 : Int32))).toNatClampNeg)] [.int r] [.int r, .int r] (coX9_ofBlock τ (yxs Y ((x3 + (1 : Int32))).toNatClampNeg) (yxs Y ((x3 + (2 : Int32))).toNatClampNeg) r τ2 h2) lmv_27 (by decide) rfl rfl rfl (Nat.le_of_ble_eq_true rfl) rfl dL_law_253 rfl ?_
  refine q_eqT dL_law_256 rfl ?_
  exact k _ _ hR2
def Sim_push (Rel : Mem → Mem → Prop) : Prop := ∀ (σ τ : Mem) (a0 : Int32) (a1 : Int32), Rel σ τ → ∃ (r : Int32) (σ2 τ2 : Mem), FX8_push σ a0 a1 = some (r, σ2) ∧ FX9_push τ a0 a1 = some (r, τ2) ∧ Rel σ2 τ2
set_option maxHeartbeats 4000000 in
set_option maxRecDepth 100000 in
theorem lawc_3 {Rel : Mem → Mem → Prop} (hs : Sim_push Rel) {Y : LX} {σ τ : Mem} {x3 : Int32} (hR : Rel σ τ) (hb1 : vp_in (x3 + (1 : Int32)) (yL Y)) (hb2 : vp_in (x3 + (2 : Int32)) (yL Y)) (hb3 : vp_in (x3 + (3 : Int32)) (yL Y)) (hb4 : vp_in (x3 + (4 : Int32)) (yL Y)) (hb5 : vp_in (x3 + (5 : Int32)) (yL Y)) (k : ∀ σ2 τ2, Rel σ2 τ2 → JL Y σ2 τ2 1002 [(0, .ref (yb Y)), (1, .ref (yX Y 0)), (2, .ref (yM Y 0)), (3, .int x3)] []) : JL Y σ τ 261 [(0, .ref (yb Y)), (1, .ref (yX Y 0)), (2, .ref (yM Y 0)), (3, .int x3)] [] := by
  obtain ⟨r, σ2, τ2, h1, h2, hR2⟩ := hs σ τ (yxs Y ((x3 + (1 : Int32))).toNatClampNeg) (yxs Y ((x3 + (2 : Int32))).toNatClampNeg) hR
  refine q_aload_n 1 dL_law_261 rfl rfl rfl ?_
  refine q_aload_n 0 dL_law_262 rfl rfl rfl ?_
  refine q_iload_n 3 dL_law_263 rfl rfl rfl ?_
  refine q_iconst dL_law_264 rfl lki_1 ?_
  refine q_iadd dL_law_265 rfl ?_
  refine q_sld hb1 dL_law_266 rfl ?_
  refine q_aload_n 0 dL_law_267 rfl rfl rfl ?_
  refine q_iload_n 3 dL_law_268 rfl rfl rfl ?_
  refine q_iconst dL_law_269 rfl lki_2 ?_
  refine q_iadd dL_law_270 rfl ?_
  refine q_sld hb2 dL_law_271 rfl ?_
  refine q_callX [.int (yxs Y ((x3 + (1 : Int32))).toNatClampNeg), .int (yxs Y ((x3 + (2 : Int32))).toNatClampNeg)] [] [.int r] (coX8_push σ (yxs Y ((x3 + (1 : Int32))).toNatClampNeg) (yxs Y ((x3 + (2 : Int32))).toNatClampNeg) r σ2 h1) lmv_28 (by decide) rfl rfl rfl (Nat.le_of_ble_eq_true rfl) rfl dL_law_272 rfl ?_
  refine q_aload_n 2 dL_law_275 rfl rfl rfl ?_
  refine q_aload_n 0 dL_law_276 rfl rfl rfl ?_
  refine q_iload_n 3 dL_law_277 rfl rfl rfl ?_
  refine q_iconst dL_law_278 rfl lki_1 ?_
  refine q_iadd dL_law_279 rfl ?_
  refine q_sld hb1 dL_law_280 rfl ?_
  refine q_aload_n 0 dL_law_281 rfl rfl rfl ?_
  refine q_iload_n 3 dL_law_282 rfl rfl rfl ?_
  refine q_iconst dL_law_283 rfl lki_2 ?_
  refine q_iadd dL_law_284 rfl ?_
  refine q_sld hb2 dL_law_285 rfl ?_
  refine q_callM [.int (yxs Y ((x3 + (1 : Int32))).toNatClampNeg), .int (yxs Y ((x3 + (2 : Int32))).toNatClampNeg)] [.int r] [.int r, .int r] (coX9_push τ (yxs Y ((x3 + (1 : Int32))).toNatClampNeg) (yxs Y ((x3 + (2 : Int32))).toNatClampNeg) r τ2 h2) lmv_31 (by decide) rfl rfl rfl (Nat.le_of_ble_eq_true rfl) rfl dL_law_286 rfl ?_
  refine q_eqT dL_law_289 rfl ?_
  exact k _ _ hR2
def Sim_would (Rel : Mem → Mem → Prop) : Prop := ∀ (σ τ : Mem) (a0 : Int32) (a1 : Int32), Rel σ τ → ∃ (r : Int32) (σ2 τ2 : Mem), FX8_would σ a0 a1 = some (r, σ2) ∧ FX9_would τ a0 a1 = some (r, τ2) ∧ Rel σ2 τ2
set_option maxHeartbeats 4000000 in
set_option maxRecDepth 100000 in
theorem lawc_4 {Rel : Mem → Mem → Prop} (hs : Sim_would Rel) {Y : LX} {σ τ : Mem} {x3 : Int32} (hR : Rel σ τ) (hb1 : vp_in (x3 + (1 : Int32)) (yL Y)) (hb2 : vp_in (x3 + (2 : Int32)) (yL Y)) (hb3 : vp_in (x3 + (3 : Int32)) (yL Y)) (hb4 : vp_in (x3 + (4 : Int32)) (yL Y)) (hb5 : vp_in (x3 + (5 : Int32)) (yL Y)) (k : ∀ σ2 τ2, Rel σ2 τ2 → JL Y σ2 τ2 1002 [(0, .ref (yb Y)), (1, .ref (yX Y 0)), (2, .ref (yM Y 0)), (3, .int x3)] []) : JL Y σ τ 294 [(0, .ref (yb Y)), (1, .ref (yX Y 0)), (2, .ref (yM Y 0)), (3, .int x3)] [] := by
  obtain ⟨r, σ2, τ2, h1, h2, hR2⟩ := hs σ τ (yxs Y ((x3 + (1 : Int32))).toNatClampNeg) (yxs Y ((x3 + (2 : Int32))).toNatClampNeg) hR
  refine q_aload_n 1 dL_law_294 rfl rfl rfl ?_
  refine q_aload_n 0 dL_law_295 rfl rfl rfl ?_
  refine q_iload_n 3 dL_law_296 rfl rfl rfl ?_
  refine q_iconst dL_law_297 rfl lki_1 ?_
  refine q_iadd dL_law_298 rfl ?_
  refine q_sld hb1 dL_law_299 rfl ?_
  refine q_aload_n 0 dL_law_300 rfl rfl rfl ?_
  refine q_iload_n 3 dL_law_301 rfl rfl rfl ?_
  refine q_iconst dL_law_302 rfl lki_2 ?_
  refine q_iadd dL_law_303 rfl ?_
  refine q_sld hb2 dL_law_304 rfl ?_
  refine q_callX [.int (yxs Y ((x3 + (1 : Int32))).toNatClampNeg), .int (yxs Y ((x3 + (2 : Int32))).toNatClampNeg)] [] [.int r] (coX8_would σ (yxs Y ((x3 + (1 : Int32))).toNatClampNeg) (yxs Y ((x3 + (2 : Int32))).toNatClampNeg) r σ2 h1) lmv_32 (by decide) rfl rfl rfl (Nat.le_of_ble_eq_true rfl) rfl dL_law_305 rfl ?_
  refine q_aload_n 2 dL_law_308 rfl rfl rfl ?_
  refine q_aload_n 0 dL_law_309 rfl rfl rfl ?_
  refine q_iload_n 3 dL_law_310 rfl rfl rfl ?_
  refine q_iconst dL_law_311 rfl lki_1 ?_
  refine q_iadd dL_law_312 rfl ?_
  refine q_sld hb1 dL_law_313 rfl ?_
  refine q_aload_n 0 dL_law_314 rfl rfl rfl ?_
  refine q_iload_n 3 dL_law_315 rfl rfl rfl ?_
  refine q_iconst dL_law_316 rfl lki_2 ?_
  refine q_iadd dL_law_317 rfl ?_
  refine q_sld hb2 dL_law_318 rfl ?_
  refine q_callM [.int (yxs Y ((x3 + (1 : Int32))).toNatClampNeg), .int (yxs Y ((x3 + (2 : Int32))).toNatClampNeg)] [.int r] [.int r, .int r] (coX9_would τ (yxs Y ((x3 + (1 : Int32))).toNatClampNeg) (yxs Y ((x3 + (2 : Int32))).toNatClampNeg) r τ2 h2) lmv_35 (by decide) rfl rfl rfl (Nat.le_of_ble_eq_true rfl) rfl dL_law_319 rfl ?_
  refine q_eqT dL_law_322 rfl ?_
  exact k _ _ hR2
def Sim_tracks (Rel : Mem → Mem → Prop) : Prop := ∀ (σ τ : Mem) (a0 : Int32) (a1 : Int32), Rel σ τ → ∃ (r : Int64) (σ2 τ2 : Mem), FX8_tracks σ a0 a1 = some (r, σ2) ∧ FX9_tracks τ a0 a1 = some (r, τ2) ∧ Rel σ2 τ2
set_option maxHeartbeats 4000000 in
set_option maxRecDepth 100000 in
theorem lawc_5 {Rel : Mem → Mem → Prop} (hs : Sim_tracks Rel) {Y : LX} {σ τ : Mem} {x3 : Int32} (hR : Rel σ τ) (hb1 : vp_in (x3 + (1 : Int32)) (yL Y)) (hb2 : vp_in (x3 + (2 : Int32)) (yL Y)) (hb3 : vp_in (x3 + (3 : Int32)) (yL Y)) (hb4 : vp_in (x3 + (4 : Int32)) (yL Y)) (hb5 : vp_in (x3 + (5 : Int32)) (yL Y)) (k : ∀ σ2 τ2, Rel σ2 τ2 → JL Y σ2 τ2 1002 [(0, .ref (yb Y)), (1, .ref (yX Y 0)), (2, .ref (yM Y 0)), (3, .int x3)] []) : JL Y σ τ 327 [(0, .ref (yb Y)), (1, .ref (yX Y 0)), (2, .ref (yM Y 0)), (3, .int x3)] [] := by
  obtain ⟨r, σ2, τ2, h1, h2, hR2⟩ := hs σ τ (yxs Y ((x3 + (1 : Int32))).toNatClampNeg) (yxs Y ((x3 + (2 : Int32))).toNatClampNeg) hR
  refine q_aload_n 1 dL_law_327 rfl rfl rfl ?_
  refine q_aload_n 0 dL_law_328 rfl rfl rfl ?_
  refine q_iload_n 3 dL_law_329 rfl rfl rfl ?_
  refine q_iconst dL_law_330 rfl lki_1 ?_
  refine q_iadd dL_law_331 rfl ?_
  refine q_sld hb1 dL_law_332 rfl ?_
  refine q_aload_n 0 dL_law_333 rfl rfl rfl ?_
  refine q_iload_n 3 dL_law_334 rfl rfl rfl ?_
  refine q_iconst dL_law_335 rfl lki_2 ?_
  refine q_iadd dL_law_336 rfl ?_
  refine q_sld hb2 dL_law_337 rfl ?_
  refine q_callX [.int (yxs Y ((x3 + (1 : Int32))).toNatClampNeg), .int (yxs Y ((x3 + (2 : Int32))).toNatClampNeg)] [] [.long r] (coX8_tracks σ (yxs Y ((x3 + (1 : Int32))).toNatClampNeg) (yxs Y ((x3 + (2 : Int32))).toNatClampNeg) r σ2 h1) lmv_36 (by decide) rfl rfl rfl (Nat.le_of_ble_eq_true rfl) rfl dL_law_338 rfl ?_
  refine q_aload_n 2 dL_law_341 rfl rfl rfl ?_
  refine q_aload_n 0 dL_law_342 rfl rfl rfl ?_
  refine q_iload_n 3 dL_law_343 rfl rfl rfl ?_
  refine q_iconst dL_law_344 rfl lki_1 ?_
  refine q_iadd dL_law_345 rfl ?_
  refine q_sld hb1 dL_law_346 rfl ?_
  refine q_aload_n 0 dL_law_347 rfl rfl rfl ?_
  refine q_iload_n 3 dL_law_348 rfl rfl rfl ?_
  refine q_iconst dL_law_349 rfl lki_2 ?_
  refine q_iadd dL_law_350 rfl ?_
  refine q_sld hb2 dL_law_351 rfl ?_
  refine q_callM [.int (yxs Y ((x3 + (1 : Int32))).toNatClampNeg), .int (yxs Y ((x3 + (2 : Int32))).toNatClampNeg)] [.long r] [.long r, .long r] (coX9_tracks τ (yxs Y ((x3 + (1 : Int32))).toNatClampNeg) (yxs Y ((x3 + (2 : Int32))).toNatClampNeg) r τ2 h2) lmv_40 (by decide) rfl rfl rfl (Nat.le_of_ble_eq_true rfl) rfl dL_law_352 rfl ?_
  refine q_leqT dL_law_355 rfl dL_law_356 rfl ?_
  exact k _ _ hR2
def Sim_undo (Rel : Mem → Mem → Prop) : Prop := ∀ (σ τ : Mem) (a0 : Int32), Rel σ τ → ∃ (r : Int32) (σ2 τ2 : Mem), FX8_undo σ a0 = some (r, σ2) ∧ FX9_undo τ a0 = some (r, τ2) ∧ Rel σ2 τ2
set_option maxHeartbeats 4000000 in
set_option maxRecDepth 100000 in
theorem lawc_6 {Rel : Mem → Mem → Prop} (hs : Sim_undo Rel) {Y : LX} {σ τ : Mem} {x3 : Int32} (hR : Rel σ τ) (hb1 : vp_in (x3 + (1 : Int32)) (yL Y)) (hb2 : vp_in (x3 + (2 : Int32)) (yL Y)) (hb3 : vp_in (x3 + (3 : Int32)) (yL Y)) (hb4 : vp_in (x3 + (4 : Int32)) (yL Y)) (hb5 : vp_in (x3 + (5 : Int32)) (yL Y)) (k : ∀ σ2 τ2, Rel σ2 τ2 → JL Y σ2 τ2 1002 [(0, .ref (yb Y)), (1, .ref (yX Y 0)), (2, .ref (yM Y 0)), (3, .int x3)] []) : JL Y σ τ 361 [(0, .ref (yb Y)), (1, .ref (yX Y 0)), (2, .ref (yM Y 0)), (3, .int x3)] [] := by
  obtain ⟨r, σ2, τ2, h1, h2, hR2⟩ := hs σ τ (yxs Y ((x3 + (1 : Int32))).toNatClampNeg) hR
  refine q_aload_n 1 dL_law_361 rfl rfl rfl ?_
  refine q_aload_n 0 dL_law_362 rfl rfl rfl ?_
  refine q_iload_n 3 dL_law_363 rfl rfl rfl ?_
  refine q_iconst dL_law_364 rfl lki_1 ?_
  refine q_iadd dL_law_365 rfl ?_
  refine q_sld hb1 dL_law_366 rfl ?_
  refine q_callX [.int (yxs Y ((x3 + (1 : Int32))).toNatClampNeg)] [] [.int r] (coX8_undo σ (yxs Y ((x3 + (1 : Int32))).toNatClampNeg) r σ2 h1) lmv_41 (by decide) rfl rfl rfl (Nat.le_of_ble_eq_true rfl) rfl dL_law_367 rfl ?_
  refine q_aload_n 2 dL_law_370 rfl rfl rfl ?_
  refine q_aload_n 0 dL_law_371 rfl rfl rfl ?_
  refine q_iload_n 3 dL_law_372 rfl rfl rfl ?_
  refine q_iconst dL_law_373 rfl lki_1 ?_
  refine q_iadd dL_law_374 rfl ?_
  refine q_sld hb1 dL_law_375 rfl ?_
  refine q_callM [.int (yxs Y ((x3 + (1 : Int32))).toNatClampNeg)] [.int r] [.int r, .int r] (coX9_undo τ (yxs Y ((x3 + (1 : Int32))).toNatClampNeg) r τ2 h2) lmv_44 (by decide) rfl rfl rfl (Nat.le_of_ble_eq_true rfl) rfl dL_law_376 rfl ?_
  refine q_eqT dL_law_379 rfl ?_
  exact k _ _ hR2
def Sim_keep (Rel : Mem → Mem → Prop) : Prop := ∀ (σ τ : Mem) (a0 : Int32), Rel σ τ → ∃ (r : Int32) (σ2 τ2 : Mem), FX8_keep σ a0 = some (r, σ2) ∧ FX9_keep τ a0 = some (r, τ2) ∧ Rel σ2 τ2
set_option maxHeartbeats 4000000 in
set_option maxRecDepth 100000 in
theorem lawc_7 {Rel : Mem → Mem → Prop} (hs : Sim_keep Rel) {Y : LX} {σ τ : Mem} {x3 : Int32} (hR : Rel σ τ) (hb1 : vp_in (x3 + (1 : Int32)) (yL Y)) (hb2 : vp_in (x3 + (2 : Int32)) (yL Y)) (hb3 : vp_in (x3 + (3 : Int32)) (yL Y)) (hb4 : vp_in (x3 + (4 : Int32)) (yL Y)) (hb5 : vp_in (x3 + (5 : Int32)) (yL Y)) (k : ∀ σ2 τ2, Rel σ2 τ2 → JL Y σ2 τ2 1002 [(0, .ref (yb Y)), (1, .ref (yX Y 0)), (2, .ref (yM Y 0)), (3, .int x3)] []) : JL Y σ τ 384 [(0, .ref (yb Y)), (1, .ref (yX Y 0)), (2, .ref (yM Y 0)), (3, .int x3)] [] := by
  obtain ⟨r, σ2, τ2, h1, h2, hR2⟩ := hs σ τ (yxs Y ((x3 + (1 : Int32))).toNatClampNeg) hR
  refine q_aload_n 1 dL_law_384 rfl rfl rfl ?_
  refine q_aload_n 0 dL_law_385 rfl rfl rfl ?_
  refine q_iload_n 3 dL_law_386 rfl rfl rfl ?_
  refine q_iconst dL_law_387 rfl lki_1 ?_
  refine q_iadd dL_law_388 rfl ?_
  refine q_sld hb1 dL_law_389 rfl ?_
  refine q_callX [.int (yxs Y ((x3 + (1 : Int32))).toNatClampNeg)] [] [.int r] (coX8_keep σ (yxs Y ((x3 + (1 : Int32))).toNatClampNeg) r σ2 h1) lmv_45 (by decide) rfl rfl rfl (Nat.le_of_ble_eq_true rfl) rfl dL_law_390 rfl ?_
  refine q_aload_n 2 dL_law_393 rfl rfl rfl ?_
  refine q_aload_n 0 dL_law_394 rfl rfl rfl ?_
  refine q_iload_n 3 dL_law_395 rfl rfl rfl ?_
  refine q_iconst dL_law_396 rfl lki_1 ?_
  refine q_iadd dL_law_397 rfl ?_
  refine q_sld hb1 dL_law_398 rfl ?_
  refine q_callM [.int (yxs Y ((x3 + (1 : Int32))).toNatClampNeg)] [.int r] [.int r, .int r] (coX9_keep τ (yxs Y ((x3 + (1 : Int32))).toNatClampNeg) r τ2 h2) lmv_48 (by decide) rfl rfl rfl (Nat.le_of_ble_eq_true rfl) rfl dL_law_399 rfl ?_
  refine q_eqT dL_law_402 rfl ?_
  exact k _ _ hR2
def Sim_back (Rel : Mem → Mem → Prop) : Prop := ∀ (σ τ : Mem) (a0 : Int32), Rel σ τ → ∃ (r : Int32) (σ2 τ2 : Mem), FX8_back σ a0 = some (r, σ2) ∧ FX9_back τ a0 = some (r, τ2) ∧ Rel σ2 τ2
set_option maxHeartbeats 4000000 in
set_option maxRecDepth 100000 in
theorem lawc_8 {Rel : Mem → Mem → Prop} (hs : Sim_back Rel) {Y : LX} {σ τ : Mem} {x3 : Int32} (hR : Rel σ τ) (hb1 : vp_in (x3 + (1 : Int32)) (yL Y)) (hb2 : vp_in (x3 + (2 : Int32)) (yL Y)) (hb3 : vp_in (x3 + (3 : Int32)) (yL Y)) (hb4 : vp_in (x3 + (4 : Int32)) (yL Y)) (hb5 : vp_in (x3 + (5 : Int32)) (yL Y)) (k : ∀ σ2 τ2, Rel σ2 τ2 → JL Y σ2 τ2 1002 [(0, .ref (yb Y)), (1, .ref (yX Y 0)), (2, .ref (yM Y 0)), (3, .int x3)] []) : JL Y σ τ 407 [(0, .ref (yb Y)), (1, .ref (yX Y 0)), (2, .ref (yM Y 0)), (3, .int x3)] [] := by
  obtain ⟨r, σ2, τ2, h1, h2, hR2⟩ := hs σ τ (yxs Y ((x3 + (1 : Int32))).toNatClampNeg) hR
  refine q_aload_n 1 dL_law_407 rfl rfl rfl ?_
  refine q_aload_n 0 dL_law_408 rfl rfl rfl ?_
  refine q_iload_n 3 dL_law_409 rfl rfl rfl ?_
  refine q_iconst dL_law_410 rfl lki_1 ?_
  refine q_iadd dL_law_411 rfl ?_
  refine q_sld hb1 dL_law_412 rfl ?_
  refine q_callX [.int (yxs Y ((x3 + (1 : Int32))).toNatClampNeg)] [] [.int r] (coX8_back σ (yxs Y ((x3 + (1 : Int32))).toNatClampNeg) r σ2 h1) lmv_49 (by decide) rfl rfl rfl (Nat.le_of_ble_eq_true rfl) rfl dL_law_413 rfl ?_
  refine q_aload_n 2 dL_law_416 rfl rfl rfl ?_
  refine q_aload_n 0 dL_law_417 rfl rfl rfl ?_
  refine q_iload_n 3 dL_law_418 rfl rfl rfl ?_
  refine q_iconst dL_law_419 rfl lki_1 ?_
  refine q_iadd dL_law_420 rfl ?_
  refine q_sld hb1 dL_law_421 rfl ?_
  refine q_callM [.int (yxs Y ((x3 + (1 : Int32))).toNatClampNeg)] [.int r] [.int r, .int r] (coX9_back τ (yxs Y ((x3 + (1 : Int32))).toNatClampNeg) r τ2 h2) lmv_52 (by decide) rfl rfl rfl (Nat.le_of_ble_eq_true rfl) rfl dL_law_422 rfl ?_
  refine q_eqT dL_law_425 rfl ?_
  exact k _ _ hR2
def Sim_fewest (Rel : Mem → Mem → Prop) : Prop := ∀ (σ τ : Mem) (a0 : Int32) (a1 : Int32), Rel σ τ → ∃ (r : Int32) (σ2 τ2 : Mem), FX8_fewest σ a0 a1 = some (r, σ2) ∧ FX9_fewest τ a0 a1 = some (r, τ2) ∧ Rel σ2 τ2
set_option maxHeartbeats 4000000 in
set_option maxRecDepth 100000 in
theorem lawc_9 {Rel : Mem → Mem → Prop} (hs : Sim_fewest Rel) {Y : LX} {σ τ : Mem} {x3 : Int32} (hR : Rel σ τ) (hb1 : vp_in (x3 + (1 : Int32)) (yL Y)) (hb2 : vp_in (x3 + (2 : Int32)) (yL Y)) (hb3 : vp_in (x3 + (3 : Int32)) (yL Y)) (hb4 : vp_in (x3 + (4 : Int32)) (yL Y)) (hb5 : vp_in (x3 + (5 : Int32)) (yL Y)) (k : ∀ σ2 τ2, Rel σ2 τ2 → JL Y σ2 τ2 1002 [(0, .ref (yb Y)), (1, .ref (yX Y 0)), (2, .ref (yM Y 0)), (3, .int x3)] []) : JL Y σ τ 430 [(0, .ref (yb Y)), (1, .ref (yX Y 0)), (2, .ref (yM Y 0)), (3, .int x3)] [] := by
  obtain ⟨r, σ2, τ2, h1, h2, hR2⟩ := hs σ τ (yxs Y ((x3 + (1 : Int32))).toNatClampNeg) (yxs Y ((x3 + (2 : Int32))).toNatClampNeg) hR
  refine q_aload_n 1 dL_law_430 rfl rfl rfl ?_
  refine q_aload_n 0 dL_law_431 rfl rfl rfl ?_
  refine q_iload_n 3 dL_law_432 rfl rfl rfl ?_
  refine q_iconst dL_law_433 rfl lki_1 ?_
  refine q_iadd dL_law_434 rfl ?_
  refine q_sld hb1 dL_law_435 rfl ?_
  refine q_aload_n 0 dL_law_436 rfl rfl rfl ?_
  refine q_iload_n 3 dL_law_437 rfl rfl rfl ?_
  refine q_iconst dL_law_438 rfl lki_2 ?_
  refine q_iadd dL_law_439 rfl ?_
  refine q_sld hb2 dL_law_440 rfl ?_
  refine q_callX [.int (yxs Y ((x3 + (1 : Int32))).toNatClampNeg), .int (yxs Y ((x3 + (2 : Int32))).toNatClampNeg)] [] [.int r] (coX8_fewest σ (yxs Y ((x3 + (1 : Int32))).toNatClampNeg) (yxs Y ((x3 + (2 : Int32))).toNatClampNeg) r σ2 h1) lmv_53 (by decide) rfl rfl rfl (Nat.le_of_ble_eq_true rfl) rfl dL_law_441 rfl ?_
  refine q_aload_n 2 dL_law_444 rfl rfl rfl ?_
  refine q_aload_n 0 dL_law_445 rfl rfl rfl ?_
  refine q_iload_n 3 dL_law_446 rfl rfl rfl ?_
  refine q_iconst dL_law_447 rfl lki_1 ?_
  refine q_iadd dL_law_448 rfl ?_
  refine q_sld hb1 dL_law_449 rfl ?_
  refine q_aload_n 0 dL_law_450 rfl rfl rfl ?_
  refine q_iload_n 3 dL_law_451 rfl rfl rfl ?_
  refine q_iconst dL_law_452 rfl lki_2 ?_
  refine q_iadd dL_law_453 rfl ?_
  refine q_sld hb2 dL_law_454 rfl ?_
  refine q_callM [.int (yxs Y ((x3 + (1 : Int32))).toNatClampNeg), .int (yxs Y ((x3 + (2 : Int32))).toNatClampNeg)] [.int r] [.int r, .int r] (coX9_fewest τ (yxs Y ((x3 + (1 : Int32))).toNatClampNeg) (yxs Y ((x3 + (2 : Int32))).toNatClampNeg) r τ2 h2) lmv_56 (by decide) rfl rfl rfl (Nat.le_of_ble_eq_true rfl) rfl dL_law_455 rfl ?_
  refine q_eqT dL_law_458 rfl ?_
  exact k _ _ hR2
def Sim_won (Rel : Mem → Mem → Prop) : Prop := ∀ (σ τ : Mem) (a0 : Int32), Rel σ τ → ∃ (r : Int32) (σ2 τ2 : Mem), FX8_won σ a0 = some (r, σ2) ∧ FX9_won τ a0 = some (r, τ2) ∧ Rel σ2 τ2
set_option maxHeartbeats 4000000 in
set_option maxRecDepth 100000 in
theorem lawc_10 {Rel : Mem → Mem → Prop} (hs : Sim_won Rel) {Y : LX} {σ τ : Mem} {x3 : Int32} (hR : Rel σ τ) (hb1 : vp_in (x3 + (1 : Int32)) (yL Y)) (hb2 : vp_in (x3 + (2 : Int32)) (yL Y)) (hb3 : vp_in (x3 + (3 : Int32)) (yL Y)) (hb4 : vp_in (x3 + (4 : Int32)) (yL Y)) (hb5 : vp_in (x3 + (5 : Int32)) (yL Y)) (k : ∀ σ2 τ2, Rel σ2 τ2 → JL Y σ2 τ2 1002 [(0, .ref (yb Y)), (1, .ref (yX Y 0)), (2, .ref (yM Y 0)), (3, .int x3)] []) : JL Y σ τ 463 [(0, .ref (yb Y)), (1, .ref (yX Y 0)), (2, .ref (yM Y 0)), (3, .int x3)] [] := by
  obtain ⟨r, σ2, τ2, h1, h2, hR2⟩ := hs σ τ (yxs Y ((x3 + (1 : Int32))).toNatClampNeg) hR
  refine q_aload_n 1 dL_law_463 rfl rfl rfl ?_
  refine q_aload_n 0 dL_law_464 rfl rfl rfl ?_
  refine q_iload_n 3 dL_law_465 rfl rfl rfl ?_
  refine q_iconst dL_law_466 rfl lki_1 ?_
  refine q_iadd dL_law_467 rfl ?_
  refine q_sld hb1 dL_law_468 rfl ?_
  refine q_callX [.int (yxs Y ((x3 + (1 : Int32))).toNatClampNeg)] [] [.int r] (coX8_won σ (yxs Y ((x3 + (1 : Int32))).toNatClampNeg) r σ2 h1) lmv_57 (by decide) rfl rfl rfl (Nat.le_of_ble_eq_true rfl) rfl dL_law_469 rfl ?_
  refine q_aload_n 2 dL_law_472 rfl rfl rfl ?_
  refine q_aload_n 0 dL_law_473 rfl rfl rfl ?_
  refine q_iload_n 3 dL_law_474 rfl rfl rfl ?_
  refine q_iconst dL_law_475 rfl lki_1 ?_
  refine q_iadd dL_law_476 rfl ?_
  refine q_sld hb1 dL_law_477 rfl ?_
  refine q_callM [.int (yxs Y ((x3 + (1 : Int32))).toNatClampNeg)] [.int r] [.int r, .int r] (coX9_won τ (yxs Y ((x3 + (1 : Int32))).toNatClampNeg) r τ2 h2) lmv_60 (by decide) rfl rfl rfl (Nat.le_of_ble_eq_true rfl) rfl dL_law_478 rfl ?_
  refine q_eqT dL_law_481 rfl ?_
  exact k _ _ hR2
def Sim_first (Rel : Mem → Mem → Prop) : Prop := ∀ (σ τ : Mem) (a0 : Int32), Rel σ τ → ∃ (r : Int32) (σ2 τ2 : Mem), FX8_first σ a0 = some (r, σ2) ∧ FX9_first τ a0 = some (r, τ2) ∧ Rel σ2 τ2
set_option maxHeartbeats 4000000 in
set_option maxRecDepth 100000 in
theorem lawc_11 {Rel : Mem → Mem → Prop} (hs : Sim_first Rel) {Y : LX} {σ τ : Mem} {x3 : Int32} (hR : Rel σ τ) (hb1 : vp_in (x3 + (1 : Int32)) (yL Y)) (hb2 : vp_in (x3 + (2 : Int32)) (yL Y)) (hb3 : vp_in (x3 + (3 : Int32)) (yL Y)) (hb4 : vp_in (x3 + (4 : Int32)) (yL Y)) (hb5 : vp_in (x3 + (5 : Int32)) (yL Y)) (k : ∀ σ2 τ2, Rel σ2 τ2 → JL Y σ2 τ2 1002 [(0, .ref (yb Y)), (1, .ref (yX Y 0)), (2, .ref (yM Y 0)), (3, .int x3)] []) : JL Y σ τ 486 [(0, .ref (yb Y)), (1, .ref (yX Y 0)), (2, .ref (yM Y 0)), (3, .int x3)] [] := by
  obtain ⟨r, σ2, τ2, h1, h2, hR2⟩ := hs σ τ (yxs Y ((x3 + (1 : Int32))).toNatClampNeg) hR
  refine q_aload_n 1 dL_law_486 rfl rfl rfl ?_
  refine q_aload_n 0 dL_law_487 rfl rfl rfl ?_
  refine q_iload_n 3 dL_law_488 rfl rfl rfl ?_
  refine q_iconst dL_law_489 rfl lki_1 ?_
  refine q_iadd dL_law_490 rfl ?_
  refine q_sld hb1 dL_law_491 rfl ?_
  refine q_callX [.int (yxs Y ((x3 + (1 : Int32))).toNatClampNeg)] [] [.int r] (coX8_first σ (yxs Y ((x3 + (1 : Int32))).toNatClampNeg) r σ2 h1) lmv_61 (by decide) rfl rfl rfl (Nat.le_of_ble_eq_true rfl) rfl dL_law_492 rfl ?_
  refine q_aload_n 2 dL_law_495 rfl rfl rfl ?_
  refine q_aload_n 0 dL_law_496 rfl rfl rfl ?_
  refine q_iload_n 3 dL_law_497 rfl rfl rfl ?_
  refine q_iconst dL_law_498 rfl lki_1 ?_
  refine q_iadd dL_law_499 rfl ?_
  refine q_sld hb1 dL_law_500 rfl ?_
  refine q_callM [.int (yxs Y ((x3 + (1 : Int32))).toNatClampNeg)] [.int r] [.int r, .int r] (coX9_first τ (yxs Y ((x3 + (1 : Int32))).toNatClampNeg) r τ2 h2) lmv_64 (by decide) rfl rfl rfl (Nat.le_of_ble_eq_true rfl) rfl dL_law_501 rfl ?_
  refine q_eqT dL_law_504 rfl ?_
  exact k _ _ hR2
def Sim_rows (Rel : Mem → Mem → Prop) : Prop := ∀ (σ τ : Mem) (a0 : Int32) (a1 : Int64) (a2 : Int32), Rel σ τ → ∃ (r : Int32) (σ2 τ2 : Mem), FX8_rows σ a0 a1 a2 = some (r, σ2) ∧ FX9_rows τ a0 a1 a2 = some (r, τ2) ∧ Rel σ2 τ2
set_option maxHeartbeats 4000000 in
set_option maxRecDepth 100000 in
theorem lawc_12 {Rel : Mem → Mem → Prop} (hs : Sim_rows Rel) {Y : LX} {σ τ : Mem} {x3 : Int32} (hR : Rel σ τ) (hb1 : vp_in (x3 + (1 : Int32)) (yL Y)) (hb2 : vp_in (x3 + (2 : Int32)) (yL Y)) (hb3 : vp_in (x3 + (3 : Int32)) (yL Y)) (hb4 : vp_in (x3 + (4 : Int32)) (yL Y)) (hb5 : vp_in (x3 + (5 : Int32)) (yL Y)) (k : ∀ σ2 τ2, Rel σ2 τ2 → JL Y σ2 τ2 1002 [(0, .ref (yb Y)), (1, .ref (yX Y 0)), (2, .ref (yM Y 0)), (3, .int x3)] []) : JL Y σ τ 509 [(0, .ref (yb Y)), (1, .ref (yX Y 0)), (2, .ref (yM Y 0)), (3, .int x3)] [] := by
  obtain ⟨r, σ2, τ2, h1, h2, hR2⟩ := hs σ τ (yxs Y ((x3 + (1 : Int32))).toNatClampNeg) ((((yxs Y ((x3 + (2 : Int32))).toNatClampNeg)).toInt64 <<< (((32 : Int32)).toInt64 &&& 63)) ||| (((yxs Y ((x3 + (3 : Int32))).toNatClampNeg)).toInt64 &&& (4294967295 : Int64))) (yxs Y ((x3 + (4 : Int32))).toNatClampNeg) hR
  refine q_aload_n 1 dL_law_509 rfl rfl rfl ?_
  refine q_aload_n 0 dL_law_510 rfl rfl rfl ?_
  refine q_iload_n 3 dL_law_511 rfl rfl rfl ?_
  refine q_iconst dL_law_512 rfl lki_1 ?_
  refine q_iadd dL_law_513 rfl ?_
  refine q_sld hb1 dL_law_514 rfl ?_
  refine q_aload_n 0 dL_law_515 rfl rfl rfl ?_
  refine q_iload_n 3 dL_law_516 rfl rfl rfl ?_
  refine q_iconst dL_law_517 rfl lki_2 ?_
  refine q_iadd dL_law_518 rfl ?_
  refine q_sld hb2 dL_law_519 rfl ?_
  refine q_i2l dL_law_520 rfl ?_
  refine q_bipush dL_law_521 rfl lkb_32 ?_
  refine q_lshl dL_law_523 rfl ?_
  refine q_aload_n 0 dL_law_524 rfl rfl rfl ?_
  refine q_iload_n 3 dL_law_525 rfl rfl rfl ?_
  refine q_iconst dL_law_526 rfl lki_3 ?_
  refine q_iadd dL_law_527 rfl ?_
  refine q_sld hb3 dL_law_528 rfl ?_
  refine q_i2l dL_law_529 rfl ?_
  refine q_ldc2 dL_law_530 rfl lcl_65 ?_
  refine q_land dL_law_533 rfl ?_
  refine q_lor dL_law_534 rfl ?_
  refine q_aload_n 0 dL_law_535 rfl rfl rfl ?_
  refine q_iload_n 3 dL_law_536 rfl rfl rfl ?_
  refine q_iconst dL_law_537 rfl lki_4 ?_
  refine q_iadd dL_law_538 rfl ?_
  refine q_sld hb4 dL_law_539 rfl ?_
  refine q_callX [.int (yxs Y ((x3 + (1 : Int32))).toNatClampNeg), .long ((((yxs Y ((x3 + (2 : Int32))).toNatClampNeg)).toInt64 <<< (((32 : Int32)).toInt64 &&& 63)) ||| (((yxs Y ((x3 + (3 : Int32))).toNatClampNeg)).toInt64 &&& (4294967295 : Int64))), .int (yxs Y ((x3 + (4 : Int32))).toNatClampNeg)] [] [.int r] (coX8_rows σ (yxs Y ((x3 + (1 : Int32))).toNatClampNeg) ((((yxs Y ((x3 + (2 : Int32))).toNatClampNeg)).toInt64 <<< (((32 : Int32)).toInt64 &&& 63)) ||| (((yxs Y ((x3 + (3 : Int32))).toNatClampNeg)).toInt64 &&& (4294967295 : Int64))) (yxs Y ((x3 + (4 : Int32))).toNatClampNeg) r σ2 h1) lmv_67 (by decide) rfl rfl rfl (Nat.le_of_ble_eq_true rfl) rfl dL_law_540 rfl ?_
  refine q_aload_n 2 dL_law_543 rfl rfl rfl ?_
  refine q_aload_n 0 dL_law_544 rfl rfl rfl ?_
  refine q_iload_n 3 dL_law_545 rfl rfl rfl ?_
  refine q_iconst dL_law_546 rfl lki_1 ?_
  refine q_iadd dL_law_547 rfl ?_
  refine q_sld hb1 dL_law_548 rfl ?_
  refine q_aload_n 0 dL_law_549 rfl rfl rfl ?_
  refine q_iload_n 3 dL_law_550 rfl rfl rfl ?_
  refine q_iconst dL_law_551 rfl lki_2 ?_
  refine q_iadd dL_law_552 rfl ?_
  refine q_sld hb2 dL_law_553 rfl ?_
  refine q_i2l dL_law_554 rfl ?_
  refine q_bipush dL_law_555 rfl lkb_32 ?_
  refine q_lshl dL_law_557 rfl ?_
  refine q_aload_n 0 dL_law_558 rfl rfl rfl ?_
  refine q_iload_n 3 dL_law_559 rfl rfl rfl ?_
  refine q_iconst dL_law_560 rfl lki_3 ?_
  refine q_iadd dL_law_561 rfl ?_
  refine q_sld hb3 dL_law_562 rfl ?_
  refine q_i2l dL_law_563 rfl ?_
  refine q_ldc2 dL_law_564 rfl lcl_65 ?_
  refine q_land dL_law_567 rfl ?_
  refine q_lor dL_law_568 rfl ?_
  refine q_aload_n 0 dL_law_569 rfl rfl rfl ?_
  refine q_iload_n 3 dL_law_570 rfl rfl rfl ?_
  refine q_iconst dL_law_571 rfl lki_4 ?_
  refine q_iadd dL_law_572 rfl ?_
  refine q_sld hb4 dL_law_573 rfl ?_
  refine q_callM [.int (yxs Y ((x3 + (1 : Int32))).toNatClampNeg), .long ((((yxs Y ((x3 + (2 : Int32))).toNatClampNeg)).toInt64 <<< (((32 : Int32)).toInt64 &&& 63)) ||| (((yxs Y ((x3 + (3 : Int32))).toNatClampNeg)).toInt64 &&& (4294967295 : Int64))), .int (yxs Y ((x3 + (4 : Int32))).toNatClampNeg)] [.int r] [.int r, .int r] (coX9_rows τ (yxs Y ((x3 + (1 : Int32))).toNatClampNeg) ((((yxs Y ((x3 + (2 : Int32))).toNatClampNeg)).toInt64 <<< (((32 : Int32)).toInt64 &&& 63)) ||| (((yxs Y ((x3 + (3 : Int32))).toNatClampNeg)).toInt64 &&& (4294967295 : Int64))) (yxs Y ((x3 + (4 : Int32))).toNatClampNeg) r τ2 h2) lmv_71 (by decide) rfl rfl rfl (Nat.le_of_ble_eq_true rfl) rfl dL_law_574 rfl ?_
  refine q_eqT dL_law_577 rfl ?_
  exact k _ _ hR2
def Sim_sand (Rel : Mem → Mem → Prop) : Prop := ∀ (σ τ : Mem) (a0 : Int32) (a1 : Int32) (a2 : Int32) (a3 : Int32), Rel σ τ → ∃ (r : Int32) (σ2 τ2 : Mem), FX8_sand σ a0 a1 a2 a3 = some (r, σ2) ∧ FX9_sand τ a0 a1 a2 a3 = some (r, τ2) ∧ Rel σ2 τ2
set_option maxHeartbeats 4000000 in
set_option maxRecDepth 100000 in
theorem lawc_13 {Rel : Mem → Mem → Prop} (hs : Sim_sand Rel) {Y : LX} {σ τ : Mem} {x3 : Int32} (hR : Rel σ τ) (hb1 : vp_in (x3 + (1 : Int32)) (yL Y)) (hb2 : vp_in (x3 + (2 : Int32)) (yL Y)) (hb3 : vp_in (x3 + (3 : Int32)) (yL Y)) (hb4 : vp_in (x3 + (4 : Int32)) (yL Y)) (hb5 : vp_in (x3 + (5 : Int32)) (yL Y)) (k : ∀ σ2 τ2, Rel σ2 τ2 → JL Y σ2 τ2 1002 [(0, .ref (yb Y)), (1, .ref (yX Y 0)), (2, .ref (yM Y 0)), (3, .int x3)] []) : JL Y σ τ 582 [(0, .ref (yb Y)), (1, .ref (yX Y 0)), (2, .ref (yM Y 0)), (3, .int x3)] [] := by
  obtain ⟨r, σ2, τ2, h1, h2, hR2⟩ := hs σ τ (yxs Y ((x3 + (1 : Int32))).toNatClampNeg) (yxs Y ((x3 + (2 : Int32))).toNatClampNeg) (yxs Y ((x3 + (3 : Int32))).toNatClampNeg) (yxs Y ((x3 + (4 : Int32))).toNatClampNeg) hR
  refine q_aload_n 1 dL_law_582 rfl rfl rfl ?_
  refine q_aload_n 0 dL_law_583 rfl rfl rfl ?_
  refine q_iload_n 3 dL_law_584 rfl rfl rfl ?_
  refine q_iconst dL_law_585 rfl lki_1 ?_
  refine q_iadd dL_law_586 rfl ?_
  refine q_sld hb1 dL_law_587 rfl ?_
  refine q_aload_n 0 dL_law_588 rfl rfl rfl ?_
  refine q_iload_n 3 dL_law_589 rfl rfl rfl ?_
  refine q_iconst dL_law_590 rfl lki_2 ?_
  refine q_iadd dL_law_591 rfl ?_
  refine q_sld hb2 dL_law_592 rfl ?_
  refine q_aload_n 0 dL_law_593 rfl rfl rfl ?_
  refine q_iload_n 3 dL_law_594 rfl rfl rfl ?_
  refine q_iconst dL_law_595 rfl lki_3 ?_
  refine q_iadd dL_law_596 rfl ?_
  refine q_sld hb3 dL_law_597 rfl ?_
  refine q_aload_n 0 dL_law_598 rfl rfl rfl ?_
  refine q_iload_n 3 dL_law_599 rfl rfl rfl ?_
  refine q_iconst dL_law_600 rfl lki_4 ?_
  refine q_iadd dL_law_601 rfl ?_
  refine q_sld hb4 dL_law_602 rfl ?_
  refine q_callX [.int (yxs Y ((x3 + (1 : Int32))).toNatClampNeg), .int (yxs Y ((x3 + (2 : Int32))).toNatClampNeg), .int (yxs Y ((x3 + (3 : Int32))).toNatClampNeg), .int (yxs Y ((x3 + (4 : Int32))).toNatClampNeg)] [] [.int r] (coX8_sand σ (yxs Y ((x3 + (1 : Int32))).toNatClampNeg) (yxs Y ((x3 + (2 : Int32))).toNatClampNeg) (yxs Y ((x3 + (3 : Int32))).toNatClampNeg) (yxs Y ((x3 + (4 : Int32))).toNatClampNeg) r σ2 h1) lmv_72 (by decide) rfl rfl rfl (Nat.le_of_ble_eq_true rfl) rfl dL_law_603 rfl ?_
  refine q_aload_n 2 dL_law_606 rfl rfl rfl ?_
  refine q_aload_n 0 dL_law_607 rfl rfl rfl ?_
  refine q_iload_n 3 dL_law_608 rfl rfl rfl ?_
  refine q_iconst dL_law_609 rfl lki_1 ?_
  refine q_iadd dL_law_610 rfl ?_
  refine q_sld hb1 dL_law_611 rfl ?_
  refine q_aload_n 0 dL_law_612 rfl rfl rfl ?_
  refine q_iload_n 3 dL_law_613 rfl rfl rfl ?_
  refine q_iconst dL_law_614 rfl lki_2 ?_
  refine q_iadd dL_law_615 rfl ?_
  refine q_sld hb2 dL_law_616 rfl ?_
  refine q_aload_n 0 dL_law_617 rfl rfl rfl ?_
  refine q_iload_n 3 dL_law_618 rfl rfl rfl ?_
  refine q_iconst dL_law_619 rfl lki_3 ?_
  refine q_iadd dL_law_620 rfl ?_
  refine q_sld hb3 dL_law_621 rfl ?_
  refine q_aload_n 0 dL_law_622 rfl rfl rfl ?_
  refine q_iload_n 3 dL_law_623 rfl rfl rfl ?_
  refine q_iconst dL_law_624 rfl lki_4 ?_
  refine q_iadd dL_law_625 rfl ?_
  refine q_sld hb4 dL_law_626 rfl ?_
  refine q_callM [.int (yxs Y ((x3 + (1 : Int32))).toNatClampNeg), .int (yxs Y ((x3 + (2 : Int32))).toNatClampNeg), .int (yxs Y ((x3 + (3 : Int32))).toNatClampNeg), .int (yxs Y ((x3 + (4 : Int32))).toNatClampNeg)] [.int r] [.int r, .int r] (coX9_sand τ (yxs Y ((x3 + (1 : Int32))).toNatClampNeg) (yxs Y ((x3 + (2 : Int32))).toNatClampNeg) (yxs Y ((x3 + (3 : Int32))).toNatClampNeg) (yxs Y ((x3 + (4 : Int32))).toNatClampNeg) r τ2 h2) lmv_75 (by decide) rfl rfl rfl (Nat.le_of_ble_eq_true rfl) rfl dL_law_627 rfl ?_
  refine q_eqT dL_law_630 rfl ?_
  exact k _ _ hR2
def Sim_thaw (Rel : Mem → Mem → Prop) : Prop := ∀ (σ τ : Mem) (a0 : Int32), Rel σ τ → ∃ (r : Int32) (σ2 τ2 : Mem), FX8_thaw σ a0 = some (r, σ2) ∧ FX9_thaw τ a0 = some (r, τ2) ∧ Rel σ2 τ2
set_option maxHeartbeats 4000000 in
set_option maxRecDepth 100000 in
theorem lawc_14 {Rel : Mem → Mem → Prop} (hs : Sim_thaw Rel) {Y : LX} {σ τ : Mem} {x3 : Int32} (hR : Rel σ τ) (hb1 : vp_in (x3 + (1 : Int32)) (yL Y)) (hb2 : vp_in (x3 + (2 : Int32)) (yL Y)) (hb3 : vp_in (x3 + (3 : Int32)) (yL Y)) (hb4 : vp_in (x3 + (4 : Int32)) (yL Y)) (hb5 : vp_in (x3 + (5 : Int32)) (yL Y)) (k : ∀ σ2 τ2, Rel σ2 τ2 → JL Y σ2 τ2 1002 [(0, .ref (yb Y)), (1, .ref (yX Y 0)), (2, .ref (yM Y 0)), (3, .int x3)] []) : JL Y σ τ 635 [(0, .ref (yb Y)), (1, .ref (yX Y 0)), (2, .ref (yM Y 0)), (3, .int x3)] [] := by
  obtain ⟨r, σ2, τ2, h1, h2, hR2⟩ := hs σ τ (yxs Y ((x3 + (1 : Int32))).toNatClampNeg) hR
  refine q_aload_n 1 dL_law_635 rfl rfl rfl ?_
  refine q_aload_n 0 dL_law_636 rfl rfl rfl ?_
  refine q_iload_n 3 dL_law_637 rfl rfl rfl ?_
  refine q_iconst dL_law_638 rfl lki_1 ?_
  refine q_iadd dL_law_639 rfl ?_
  refine q_sld hb1 dL_law_640 rfl ?_
  refine q_callX [.int (yxs Y ((x3 + (1 : Int32))).toNatClampNeg)] [] [.int r] (coX8_thaw σ (yxs Y ((x3 + (1 : Int32))).toNatClampNeg) r σ2 h1) lmv_76 (by decide) rfl rfl rfl (Nat.le_of_ble_eq_true rfl) rfl dL_law_641 rfl ?_
  refine q_aload_n 2 dL_law_644 rfl rfl rfl ?_
  refine q_aload_n 0 dL_law_645 rfl rfl rfl ?_
  refine q_iload_n 3 dL_law_646 rfl rfl rfl ?_
  refine q_iconst dL_law_647 rfl lki_1 ?_
  refine q_iadd dL_law_648 rfl ?_
  refine q_sld hb1 dL_law_649 rfl ?_
  refine q_callM [.int (yxs Y ((x3 + (1 : Int32))).toNatClampNeg)] [.int r] [.int r, .int r] (coX9_thaw τ (yxs Y ((x3 + (1 : Int32))).toNatClampNeg) r τ2 h2) lmv_79 (by decide) rfl rfl rfl (Nat.le_of_ble_eq_true rfl) rfl dL_law_650 rfl ?_
  refine q_eqT dL_law_653 rfl ?_
  exact k _ _ hR2
def Sim_sheet (Rel : Mem → Mem → Prop) : Prop := ∀ (σ τ : Mem) (a0 : Int32) (a1 : Int32) (a2 : Int32), Rel σ τ → ∃ (r : Int32) (σ2 τ2 : Mem), FX8_sheet σ a0 a1 a2 = some (r, σ2) ∧ FX9_sheet τ a0 a1 a2 = some (r, τ2) ∧ Rel σ2 τ2
set_option maxHeartbeats 4000000 in
set_option maxRecDepth 100000 in
theorem lawc_15 {Rel : Mem → Mem → Prop} (hs : Sim_sheet Rel) {Y : LX} {σ τ : Mem} {x3 : Int32} (hR : Rel σ τ) (hb1 : vp_in (x3 + (1 : Int32)) (yL Y)) (hb2 : vp_in (x3 + (2 : Int32)) (yL Y)) (hb3 : vp_in (x3 + (3 : Int32)) (yL Y)) (hb4 : vp_in (x3 + (4 : Int32)) (yL Y)) (hb5 : vp_in (x3 + (5 : Int32)) (yL Y)) (k : ∀ σ2 τ2, Rel σ2 τ2 → JL Y σ2 τ2 1002 [(0, .ref (yb Y)), (1, .ref (yX Y 0)), (2, .ref (yM Y 0)), (3, .int x3)] []) : JL Y σ τ 658 [(0, .ref (yb Y)), (1, .ref (yX Y 0)), (2, .ref (yM Y 0)), (3, .int x3)] [] := by
  obtain ⟨r, σ2, τ2, h1, h2, hR2⟩ := hs σ τ (yxs Y ((x3 + (1 : Int32))).toNatClampNeg) (yxs Y ((x3 + (2 : Int32))).toNatClampNeg) (yxs Y ((x3 + (3 : Int32))).toNatClampNeg) hR
  refine q_aload_n 1 dL_law_658 rfl rfl rfl ?_
  refine q_aload_n 0 dL_law_659 rfl rfl rfl ?_
  refine q_iload_n 3 dL_law_660 rfl rfl rfl ?_
  refine q_iconst dL_law_661 rfl lki_1 ?_
  refine q_iadd dL_law_662 rfl ?_
  refine q_sld hb1 dL_law_663 rfl ?_
  refine q_aload_n 0 dL_law_664 rfl rfl rfl ?_
  refine q_iload_n 3 dL_law_665 rfl rfl rfl ?_
  refine q_iconst dL_law_666 rfl lki_2 ?_
  refine q_iadd dL_law_667 rfl ?_
  refine q_sld hb2 dL_law_668 rfl ?_
  refine q_aload_n 0 dL_law_669 rfl rfl rfl ?_
  refine q_iload_n 3 dL_law_670 rfl rfl rfl ?_
  refine q_iconst dL_law_671 rfl lki_3 ?_
  refine q_iadd dL_law_672 rfl ?_
  refine q_sld hb3 dL_law_673 rfl ?_
  refine q_callX [.int (yxs Y ((x3 + (1 : Int32))).toNatClampNeg), .int (yxs Y ((x3 + (2 : Int32))).toNatClampNeg), .int (yxs Y ((x3 + (3 : Int32))).toNatClampNeg)] [] [.int r] (coX8_sheet σ (yxs Y ((x3 + (1 : Int32))).toNatClampNeg) (yxs Y ((x3 + (2 : Int32))).toNatClampNeg) (yxs Y ((x3 + (3 : Int32))).toNatClampNeg) r σ2 h1) lmv_80 (by decide) rfl rfl rfl (Nat.le_of_ble_eq_true rfl) rfl dL_law_674 rfl ?_
  refine q_aload_n 2 dL_law_677 rfl rfl rfl ?_
  refine q_aload_n 0 dL_law_678 rfl rfl rfl ?_
  refine q_iload_n 3 dL_law_679 rfl rfl rfl ?_
  refine q_iconst dL_law_680 rfl lki_1 ?_
  refine q_iadd dL_law_681 rfl ?_
  refine q_sld hb1 dL_law_682 rfl ?_
  refine q_aload_n 0 dL_law_683 rfl rfl rfl ?_
  refine q_iload_n 3 dL_law_684 rfl rfl rfl ?_
  refine q_iconst dL_law_685 rfl lki_2 ?_
  refine q_iadd dL_law_686 rfl ?_
  refine q_sld hb2 dL_law_687 rfl ?_
  refine q_aload_n 0 dL_law_688 rfl rfl rfl ?_
  refine q_iload_n 3 dL_law_689 rfl rfl rfl ?_
  refine q_iconst dL_law_690 rfl lki_3 ?_
  refine q_iadd dL_law_691 rfl ?_
  refine q_sld hb3 dL_law_692 rfl ?_
  refine q_callM [.int (yxs Y ((x3 + (1 : Int32))).toNatClampNeg), .int (yxs Y ((x3 + (2 : Int32))).toNatClampNeg), .int (yxs Y ((x3 + (3 : Int32))).toNatClampNeg)] [.int r] [.int r, .int r] (coX9_sheet τ (yxs Y ((x3 + (1 : Int32))).toNatClampNeg) (yxs Y ((x3 + (2 : Int32))).toNatClampNeg) (yxs Y ((x3 + (3 : Int32))).toNatClampNeg) r τ2 h2) lmv_84 (by decide) rfl rfl rfl (Nat.le_of_ble_eq_true rfl) rfl dL_law_693 rfl ?_
  refine q_eqT dL_law_696 rfl ?_
  exact k _ _ hR2
def Sim_lose (Rel : Mem → Mem → Prop) : Prop := ∀ (σ τ : Mem) (a0 : Int32), Rel σ τ → ∃ (r : Int32) (σ2 τ2 : Mem), FX8_lose σ a0 = some (r, σ2) ∧ FX9_lose τ a0 = some (r, τ2) ∧ Rel σ2 τ2
set_option maxHeartbeats 4000000 in
set_option maxRecDepth 100000 in
theorem lawc_16 {Rel : Mem → Mem → Prop} (hs : Sim_lose Rel) {Y : LX} {σ τ : Mem} {x3 : Int32} (hR : Rel σ τ) (hb1 : vp_in (x3 + (1 : Int32)) (yL Y)) (hb2 : vp_in (x3 + (2 : Int32)) (yL Y)) (hb3 : vp_in (x3 + (3 : Int32)) (yL Y)) (hb4 : vp_in (x3 + (4 : Int32)) (yL Y)) (hb5 : vp_in (x3 + (5 : Int32)) (yL Y)) (k : ∀ σ2 τ2, Rel σ2 τ2 → JL Y σ2 τ2 1002 [(0, .ref (yb Y)), (1, .ref (yX Y 0)), (2, .ref (yM Y 0)), (3, .int x3)] []) : JL Y σ τ 701 [(0, .ref (yb Y)), (1, .ref (yX Y 0)), (2, .ref (yM Y 0)), (3, .int x3)] [] := by
  obtain ⟨r, σ2, τ2, h1, h2, hR2⟩ := hs σ τ (yxs Y ((x3 + (1 : Int32))).toNatClampNeg) hR
  refine q_aload_n 1 dL_law_701 rfl rfl rfl ?_
  refine q_aload_n 0 dL_law_702 rfl rfl rfl ?_
  refine q_iload_n 3 dL_law_703 rfl rfl rfl ?_
  refine q_iconst dL_law_704 rfl lki_1 ?_
  refine q_iadd dL_law_705 rfl ?_
  refine q_sld hb1 dL_law_706 rfl ?_
  refine q_callX [.int (yxs Y ((x3 + (1 : Int32))).toNatClampNeg)] [] [.int r] (coX8_lose σ (yxs Y ((x3 + (1 : Int32))).toNatClampNeg) r σ2 h1) lmv_85 (by decide) rfl rfl rfl (Nat.le_of_ble_eq_true rfl) rfl dL_law_707 rfl ?_
  refine q_aload_n 2 dL_law_710 rfl rfl rfl ?_
  refine q_aload_n 0 dL_law_711 rfl rfl rfl ?_
  refine q_iload_n 3 dL_law_712 rfl rfl rfl ?_
  refine q_iconst dL_law_713 rfl lki_1 ?_
  refine q_iadd dL_law_714 rfl ?_
  refine q_sld hb1 dL_law_715 rfl ?_
  refine q_callM [.int (yxs Y ((x3 + (1 : Int32))).toNatClampNeg)] [.int r] [.int r, .int r] (coX9_lose τ (yxs Y ((x3 + (1 : Int32))).toNatClampNeg) r τ2 h2) lmv_88 (by decide) rfl rfl rfl (Nat.le_of_ble_eq_true rfl) rfl dL_law_716 rfl ?_
  refine q_eqT dL_law_719 rfl ?_
  exact k _ _ hR2
def Sim_put (Rel : Mem → Mem → Prop) : Prop := ∀ (σ τ : Mem) (a0 : Int32) (a1 : Int32) (a2 : Int32), Rel σ τ → ∃ (r : Int32) (σ2 τ2 : Mem), FX8_put σ a0 a1 a2 = some (r, σ2) ∧ FX9_put τ a0 a1 a2 = some (r, τ2) ∧ Rel σ2 τ2
set_option maxHeartbeats 4000000 in
set_option maxRecDepth 100000 in
theorem lawc_17 {Rel : Mem → Mem → Prop} (hs : Sim_put Rel) {Y : LX} {σ τ : Mem} {x3 : Int32} (hR : Rel σ τ) (hb1 : vp_in (x3 + (1 : Int32)) (yL Y)) (hb2 : vp_in (x3 + (2 : Int32)) (yL Y)) (hb3 : vp_in (x3 + (3 : Int32)) (yL Y)) (hb4 : vp_in (x3 + (4 : Int32)) (yL Y)) (hb5 : vp_in (x3 + (5 : Int32)) (yL Y)) (k : ∀ σ2 τ2, Rel σ2 τ2 → JL Y σ2 τ2 1002 [(0, .ref (yb Y)), (1, .ref (yX Y 0)), (2, .ref (yM Y 0)), (3, .int x3)] []) : JL Y σ τ 724 [(0, .ref (yb Y)), (1, .ref (yX Y 0)), (2, .ref (yM Y 0)), (3, .int x3)] [] := by
  obtain ⟨r, σ2, τ2, h1, h2, hR2⟩ := hs σ τ (yxs Y ((x3 + (1 : Int32))).toNatClampNeg) (yxs Y ((x3 + (2 : Int32))).toNatClampNeg) (yxs Y ((x3 + (3 : Int32))).toNatClampNeg) hR
  refine q_aload_n 1 dL_law_724 rfl rfl rfl ?_
  refine q_aload_n 0 dL_law_725 rfl rfl rfl ?_
  refine q_iload_n 3 dL_law_726 rfl rfl rfl ?_
  refine q_iconst dL_law_727 rfl lki_1 ?_
  refine q_iadd dL_law_728 rfl ?_
  refine q_sld hb1 dL_law_729 rfl ?_
  refine q_aload_n 0 dL_law_730 rfl rfl rfl ?_
  refine q_iload_n 3 dL_law_731 rfl rfl rfl ?_
  refine q_iconst dL_law_732 rfl lki_2 ?_
  refine q_iadd dL_law_733 rfl ?_
  refine q_sld hb2 dL_law_734 rfl ?_
  refine q_aload_n 0 dL_law_735 rfl rfl rfl ?_
  refine q_iload_n 3 dL_law_736 rfl rfl rfl ?_
  refine q_iconst dL_law_737 rfl lki_3 ?_
  refine q_iadd dL_law_738 rfl ?_
  refine q_sld hb3 dL_law_739 rfl ?_
  refine q_callX [.int (yxs Y ((x3 + (1 : Int32))).toNatClampNeg), .int (yxs Y ((x3 + (2 : Int32))).toNatClampNeg), .int (yxs Y ((x3 + (3 : Int32))).toNatClampNeg)] [] [.int r] (coX8_put σ (yxs Y ((x3 + (1 : Int32))).toNatClampNeg) (yxs Y ((x3 + (2 : Int32))).toNatClampNeg) (yxs Y ((x3 + (3 : Int32))).toNatClampNeg) r σ2 h1) lmv_89 (by decide) rfl rfl rfl (Nat.le_of_ble_eq_true rfl) rfl dL_law_740 rfl ?_
  refine q_aload_n 2 dL_law_743 rfl rfl rfl ?_
  refine q_aload_n 0 dL_law_744 rfl rfl rfl ?_
  refine q_iload_n 3 dL_law_745 rfl rfl rfl ?_
  refine q_iconst dL_law_746 rfl lki_1 ?_
  refine q_iadd dL_law_747 rfl ?_
  refine q_sld hb1 dL_law_748 rfl ?_
  refine q_aload_n 0 dL_law_749 rfl rfl rfl ?_
  refine q_iload_n 3 dL_law_750 rfl rfl rfl ?_
  refine q_iconst dL_law_751 rfl lki_2 ?_
  refine q_iadd dL_law_752 rfl ?_
  refine q_sld hb2 dL_law_753 rfl ?_
  refine q_aload_n 0 dL_law_754 rfl rfl rfl ?_
  refine q_iload_n 3 dL_law_755 rfl rfl rfl ?_
  refine q_iconst dL_law_756 rfl lki_3 ?_
  refine q_iadd dL_law_757 rfl ?_
  refine q_sld hb3 dL_law_758 rfl ?_
  refine q_callM [.int (yxs Y ((x3 + (1 : Int32))).toNatClampNeg), .int (yxs Y ((x3 + (2 : Int32))).toNatClampNeg), .int (yxs Y ((x3 + (3 : Int32))).toNatClampNeg)] [.int r] [.int r, .int r] (coX9_put τ (yxs Y ((x3 + (1 : Int32))).toNatClampNeg) (yxs Y ((x3 + (2 : Int32))).toNatClampNeg) (yxs Y ((x3 + (3 : Int32))).toNatClampNeg) r τ2 h2) lmv_92 (by decide) rfl rfl rfl (Nat.le_of_ble_eq_true rfl) rfl dL_law_759 rfl ?_
  refine q_eqT dL_law_762 rfl ?_
  exact k _ _ hR2
def Sim_cell (Rel : Mem → Mem → Prop) : Prop := ∀ (σ τ : Mem) (a0 : Int32) (a1 : Int32) (a2 : Int32), Rel σ τ → ∃ (r : Int64) (σ2 τ2 : Mem), FX8_cell σ a0 a1 a2 = some (r, σ2) ∧ FX9_cell τ a0 a1 a2 = some (r, τ2) ∧ Rel σ2 τ2
set_option maxHeartbeats 4000000 in
set_option maxRecDepth 100000 in
theorem lawc_18 {Rel : Mem → Mem → Prop} (hs : Sim_cell Rel) {Y : LX} {σ τ : Mem} {x3 : Int32} (hR : Rel σ τ) (hb1 : vp_in (x3 + (1 : Int32)) (yL Y)) (hb2 : vp_in (x3 + (2 : Int32)) (yL Y)) (hb3 : vp_in (x3 + (3 : Int32)) (yL Y)) (hb4 : vp_in (x3 + (4 : Int32)) (yL Y)) (hb5 : vp_in (x3 + (5 : Int32)) (yL Y)) (k : ∀ σ2 τ2, Rel σ2 τ2 → JL Y σ2 τ2 1002 [(0, .ref (yb Y)), (1, .ref (yX Y 0)), (2, .ref (yM Y 0)), (3, .int x3)] []) : JL Y σ τ 767 [(0, .ref (yb Y)), (1, .ref (yX Y 0)), (2, .ref (yM Y 0)), (3, .int x3)] [] := by
  obtain ⟨r, σ2, τ2, h1, h2, hR2⟩ := hs σ τ (yxs Y ((x3 + (1 : Int32))).toNatClampNeg) (yxs Y ((x3 + (2 : Int32))).toNatClampNeg) (yxs Y ((x3 + (3 : Int32))).toNatClampNeg) hR
  refine q_aload_n 1 dL_law_767 rfl rfl rfl ?_
  refine q_aload_n 0 dL_law_768 rfl rfl rfl ?_
  refine q_iload_n 3 dL_law_769 rfl rfl rfl ?_
  refine q_iconst dL_law_770 rfl lki_1 ?_
  refine q_iadd dL_law_771 rfl ?_
  refine q_sld hb1 dL_law_772 rfl ?_
  refine q_aload_n 0 dL_law_773 rfl rfl rfl ?_
  refine q_iload_n 3 dL_law_774 rfl rfl rfl ?_
  refine q_iconst dL_law_775 rfl lki_2 ?_
  refine q_iadd dL_law_776 rfl ?_
  refine q_sld hb2 dL_law_777 rfl ?_
  refine q_aload_n 0 dL_law_778 rfl rfl rfl ?_
  refine q_iload_n 3 dL_law_779 rfl rfl rfl ?_
  refine q_iconst dL_law_780 rfl lki_3 ?_
  refine q_iadd dL_law_781 rfl ?_
  refine q_sld hb3 dL_law_782 rfl ?_
  refine q_callX [.int (yxs Y ((x3 + (1 : Int32))).toNatClampNeg), .int (yxs Y ((x3 + (2 : Int32))).toNatClampNeg), .int (yxs Y ((x3 + (3 : Int32))).toNatClampNeg)] [] [.long r] (coX8_cell σ (yxs Y ((x3 + (1 : Int32))).toNatClampNeg) (yxs Y ((x3 + (2 : Int32))).toNatClampNeg) (yxs Y ((x3 + (3 : Int32))).toNatClampNeg) r σ2 h1) lmv_93 (by decide) rfl rfl rfl (Nat.le_of_ble_eq_true rfl) rfl dL_law_783 rfl ?_
  refine q_aload_n 2 dL_law_786 rfl rfl rfl ?_
  refine q_aload_n 0 dL_law_787 rfl rfl rfl ?_
  refine q_iload_n 3 dL_law_788 rfl rfl rfl ?_
  refine q_iconst dL_law_789 rfl lki_1 ?_
  refine q_iadd dL_law_790 rfl ?_
  refine q_sld hb1 dL_law_791 rfl ?_
  refine q_aload_n 0 dL_law_792 rfl rfl rfl ?_
  refine q_iload_n 3 dL_law_793 rfl rfl rfl ?_
  refine q_iconst dL_law_794 rfl lki_2 ?_
  refine q_iadd dL_law_795 rfl ?_
  refine q_sld hb2 dL_law_796 rfl ?_
  refine q_aload_n 0 dL_law_797 rfl rfl rfl ?_
  refine q_iload_n 3 dL_law_798 rfl rfl rfl ?_
  refine q_iconst dL_law_799 rfl lki_3 ?_
  refine q_iadd dL_law_800 rfl ?_
  refine q_sld hb3 dL_law_801 rfl ?_
  refine q_callM [.int (yxs Y ((x3 + (1 : Int32))).toNatClampNeg), .int (yxs Y ((x3 + (2 : Int32))).toNatClampNeg), .int (yxs Y ((x3 + (3 : Int32))).toNatClampNeg)] [.long r] [.long r, .long r] (coX9_cell τ (yxs Y ((x3 + (1 : Int32))).toNatClampNeg) (yxs Y ((x3 + (2 : Int32))).toNatClampNeg) (yxs Y ((x3 + (3 : Int32))).toNatClampNeg) r τ2 h2) lmv_97 (by decide) rfl rfl rfl (Nat.le_of_ble_eq_true rfl) rfl dL_law_802 rfl ?_
  refine q_leqT dL_law_805 rfl dL_law_806 rfl ?_
  exact k _ _ hR2
def Sim_copy (Rel : Mem → Mem → Prop) : Prop := ∀ (σ τ : Mem) (a0 : Int32) (a1 : Int32) (a2 : Int32) (a3 : Int32) (a4 : Int32), Rel σ τ → ∃ (r : Int32) (σ2 τ2 : Mem), FX8_copy σ a0 a1 a2 a3 a4 = some (r, σ2) ∧ FX9_copy τ a0 a1 a2 a3 a4 = some (r, τ2) ∧ Rel σ2 τ2
set_option maxHeartbeats 4000000 in
set_option maxRecDepth 100000 in
theorem lawc_19 {Rel : Mem → Mem → Prop} (hs : Sim_copy Rel) {Y : LX} {σ τ : Mem} {x3 : Int32} (hR : Rel σ τ) (hb1 : vp_in (x3 + (1 : Int32)) (yL Y)) (hb2 : vp_in (x3 + (2 : Int32)) (yL Y)) (hb3 : vp_in (x3 + (3 : Int32)) (yL Y)) (hb4 : vp_in (x3 + (4 : Int32)) (yL Y)) (hb5 : vp_in (x3 + (5 : Int32)) (yL Y)) (k : ∀ σ2 τ2, Rel σ2 τ2 → JL Y σ2 τ2 1002 [(0, .ref (yb Y)), (1, .ref (yX Y 0)), (2, .ref (yM Y 0)), (3, .int x3)] []) : JL Y σ τ 811 [(0, .ref (yb Y)), (1, .ref (yX Y 0)), (2, .ref (yM Y 0)), (3, .int x3)] [] := by
  obtain ⟨r, σ2, τ2, h1, h2, hR2⟩ := hs σ τ (yxs Y ((x3 + (1 : Int32))).toNatClampNeg) (yxs Y ((x3 + (2 : Int32))).toNatClampNeg) (yxs Y ((x3 + (3 : Int32))).toNatClampNeg) (yxs Y ((x3 + (4 : Int32))).toNatClampNeg) (yxs Y ((x3 + (5 : Int32))).toNatClampNeg) hR
  refine q_aload_n 1 dL_law_811 rfl rfl rfl ?_
  refine q_aload_n 0 dL_law_812 rfl rfl rfl ?_
  refine q_iload_n 3 dL_law_813 rfl rfl rfl ?_
  refine q_iconst dL_law_814 rfl lki_1 ?_
  refine q_iadd dL_law_815 rfl ?_
  refine q_sld hb1 dL_law_816 rfl ?_
  refine q_aload_n 0 dL_law_817 rfl rfl rfl ?_
  refine q_iload_n 3 dL_law_818 rfl rfl rfl ?_
  refine q_iconst dL_law_819 rfl lki_2 ?_
  refine q_iadd dL_law_820 rfl ?_
  refine q_sld hb2 dL_law_821 rfl ?_
  refine q_aload_n 0 dL_law_822 rfl rfl rfl ?_
  refine q_iload_n 3 dL_law_823 rfl rfl rfl ?_
  refine q_iconst dL_law_824 rfl lki_3 ?_
  refine q_iadd dL_law_825 rfl ?_
  refine q_sld hb3 dL_law_826 rfl ?_
  refine q_aload_n 0 dL_law_827 rfl rfl rfl ?_
  refine q_iload_n 3 dL_law_828 rfl rfl rfl ?_
  refine q_iconst dL_law_829 rfl lki_4 ?_
  refine q_iadd dL_law_830 rfl ?_
  refine q_sld hb4 dL_law_831 rfl ?_
  refine q_aload_n 0 dL_law_832 rfl rfl rfl ?_
  refine q_iload_n 3 dL_law_833 rfl rfl rfl ?_
  refine q_iconst dL_law_834 rfl lki_5 ?_
  refine q_iadd dL_law_835 rfl ?_
  refine q_sld hb5 dL_law_836 rfl ?_
  refine q_callX [.int (yxs Y ((x3 + (1 : Int32))).toNatClampNeg), .int (yxs Y ((x3 + (2 : Int32))).toNatClampNeg), .int (yxs Y ((x3 + (3 : Int32))).toNatClampNeg), .int (yxs Y ((x3 + (4 : Int32))).toNatClampNeg), .int (yxs Y ((x3 + (5 : Int32))).toNatClampNeg)] [] [.int r] (coX8_copy σ (yxs Y ((x3 + (1 : Int32))).toNatClampNeg) (yxs Y ((x3 + (2 : Int32))).toNatClampNeg) (yxs Y ((x3 + (3 : Int32))).toNatClampNeg) (yxs Y ((x3 + (4 : Int32))).toNatClampNeg) (yxs Y ((x3 + (5 : Int32))).toNatClampNeg) r σ2 h1) lmv_98 (by decide) rfl rfl rfl (Nat.le_of_ble_eq_true rfl) rfl dL_law_837 rfl ?_
  refine q_aload_n 2 dL_law_840 rfl rfl rfl ?_
  refine q_aload_n 0 dL_law_841 rfl rfl rfl ?_
  refine q_iload_n 3 dL_law_842 rfl rfl rfl ?_
  refine q_iconst dL_law_843 rfl lki_1 ?_
  refine q_iadd dL_law_844 rfl ?_
  refine q_sld hb1 dL_law_845 rfl ?_
  refine q_aload_n 0 dL_law_846 rfl rfl rfl ?_
  refine q_iload_n 3 dL_law_847 rfl rfl rfl ?_
  refine q_iconst dL_law_848 rfl lki_2 ?_
  refine q_iadd dL_law_849 rfl ?_
  refine q_sld hb2 dL_law_850 rfl ?_
  refine q_aload_n 0 dL_law_851 rfl rfl rfl ?_
  refine q_iload_n 3 dL_law_852 rfl rfl rfl ?_
  refine q_iconst dL_law_853 rfl lki_3 ?_
  refine q_iadd dL_law_854 rfl ?_
  refine q_sld hb3 dL_law_855 rfl ?_
  refine q_aload_n 0 dL_law_856 rfl rfl rfl ?_
  refine q_iload_n 3 dL_law_857 rfl rfl rfl ?_
  refine q_iconst dL_law_858 rfl lki_4 ?_
  refine q_iadd dL_law_859 rfl ?_
  refine q_sld hb4 dL_law_860 rfl ?_
  refine q_aload_n 0 dL_law_861 rfl rfl rfl ?_
  refine q_iload_n 3 dL_law_862 rfl rfl rfl ?_
  refine q_iconst dL_law_863 rfl lki_5 ?_
  refine q_iadd dL_law_864 rfl ?_
  refine q_sld hb5 dL_law_865 rfl ?_
  refine q_callM [.int (yxs Y ((x3 + (1 : Int32))).toNatClampNeg), .int (yxs Y ((x3 + (2 : Int32))).toNatClampNeg), .int (yxs Y ((x3 + (3 : Int32))).toNatClampNeg), .int (yxs Y ((x3 + (4 : Int32))).toNatClampNeg), .int (yxs Y ((x3 + (5 : Int32))).toNatClampNeg)] [.int r] [.int r, .int r] (coX9_copy τ (yxs Y ((x3 + (1 : Int32))).toNatClampNeg) (yxs Y ((x3 + (2 : Int32))).toNatClampNeg) (yxs Y ((x3 + (3 : Int32))).toNatClampNeg) (yxs Y ((x3 + (4 : Int32))).toNatClampNeg) (yxs Y ((x3 + (5 : Int32))).toNatClampNeg) r τ2 h2) lmv_102 (by decide) rfl rfl rfl (Nat.le_of_ble_eq_true rfl) rfl dL_law_866 rfl ?_
  refine q_eqT dL_law_869 rfl ?_
  exact k _ _ hR2
def Sim_tell (Rel : Mem → Mem → Prop) : Prop := ∀ (σ τ : Mem) (a0 : Int32), Rel σ τ → ∃ (r : Int32) (σ2 τ2 : Mem), FX8_tell σ a0 = some (r, σ2) ∧ FX9_tell τ a0 = some (r, τ2) ∧ Rel σ2 τ2
set_option maxHeartbeats 4000000 in
set_option maxRecDepth 100000 in
theorem lawc_20 {Rel : Mem → Mem → Prop} (hs : Sim_tell Rel) {Y : LX} {σ τ : Mem} {x3 : Int32} (hR : Rel σ τ) (hb1 : vp_in (x3 + (1 : Int32)) (yL Y)) (hb2 : vp_in (x3 + (2 : Int32)) (yL Y)) (hb3 : vp_in (x3 + (3 : Int32)) (yL Y)) (hb4 : vp_in (x3 + (4 : Int32)) (yL Y)) (hb5 : vp_in (x3 + (5 : Int32)) (yL Y)) (k : ∀ σ2 τ2, Rel σ2 τ2 → JL Y σ2 τ2 1002 [(0, .ref (yb Y)), (1, .ref (yX Y 0)), (2, .ref (yM Y 0)), (3, .int x3)] []) : JL Y σ τ 874 [(0, .ref (yb Y)), (1, .ref (yX Y 0)), (2, .ref (yM Y 0)), (3, .int x3)] [] := by
  obtain ⟨r, σ2, τ2, h1, h2, hR2⟩ := hs σ τ (yxs Y ((x3 + (1 : Int32))).toNatClampNeg) hR
  refine q_aload_n 1 dL_law_874 rfl rfl rfl ?_
  refine q_aload_n 0 dL_law_875 rfl rfl rfl ?_
  refine q_iload_n 3 dL_law_876 rfl rfl rfl ?_
  refine q_iconst dL_law_877 rfl lki_1 ?_
  refine q_iadd dL_law_878 rfl ?_
  refine q_sld hb1 dL_law_879 rfl ?_
  refine q_callX [.int (yxs Y ((x3 + (1 : Int32))).toNatClampNeg)] [] [.int r] (coX8_tell σ (yxs Y ((x3 + (1 : Int32))).toNatClampNeg) r σ2 h1) lmv_103 (by decide) rfl rfl rfl (Nat.le_of_ble_eq_true rfl) rfl dL_law_880 rfl ?_
  refine q_aload_n 2 dL_law_883 rfl rfl rfl ?_
  refine q_aload_n 0 dL_law_884 rfl rfl rfl ?_
  refine q_iload_n 3 dL_law_885 rfl rfl rfl ?_
  refine q_iconst dL_law_886 rfl lki_1 ?_
  refine q_iadd dL_law_887 rfl ?_
  refine q_sld hb1 dL_law_888 rfl ?_
  refine q_callM [.int (yxs Y ((x3 + (1 : Int32))).toNatClampNeg)] [.int r] [.int r, .int r] (coX9_tell τ (yxs Y ((x3 + (1 : Int32))).toNatClampNeg) r τ2 h2) lmv_106 (by decide) rfl rfl rfl (Nat.le_of_ble_eq_true rfl) rfl dL_law_889 rfl ?_
  refine q_eqT dL_law_892 rfl ?_
  exact k _ _ hR2
def Sim_kick (Rel : Mem → Mem → Prop) : Prop := ∀ (σ τ : Mem) (a0 : Int32), Rel σ τ → ∃ (r : Int32) (σ2 τ2 : Mem), FX8_kick σ a0 = some (r, σ2) ∧ FX9_kick τ a0 = some (r, τ2) ∧ Rel σ2 τ2
set_option maxHeartbeats 4000000 in
set_option maxRecDepth 100000 in
theorem lawc_21 {Rel : Mem → Mem → Prop} (hs : Sim_kick Rel) {Y : LX} {σ τ : Mem} {x3 : Int32} (hR : Rel σ τ) (hb1 : vp_in (x3 + (1 : Int32)) (yL Y)) (hb2 : vp_in (x3 + (2 : Int32)) (yL Y)) (hb3 : vp_in (x3 + (3 : Int32)) (yL Y)) (hb4 : vp_in (x3 + (4 : Int32)) (yL Y)) (hb5 : vp_in (x3 + (5 : Int32)) (yL Y)) (k : ∀ σ2 τ2, Rel σ2 τ2 → JL Y σ2 τ2 1002 [(0, .ref (yb Y)), (1, .ref (yX Y 0)), (2, .ref (yM Y 0)), (3, .int x3)] []) : JL Y σ τ 897 [(0, .ref (yb Y)), (1, .ref (yX Y 0)), (2, .ref (yM Y 0)), (3, .int x3)] [] := by
  obtain ⟨r, σ2, τ2, h1, h2, hR2⟩ := hs σ τ (yxs Y ((x3 + (1 : Int32))).toNatClampNeg) hR
  refine q_aload_n 1 dL_law_897 rfl rfl rfl ?_
  refine q_aload_n 0 dL_law_898 rfl rfl rfl ?_
  refine q_iload_n 3 dL_law_899 rfl rfl rfl ?_
  refine q_iconst dL_law_900 rfl lki_1 ?_
  refine q_iadd dL_law_901 rfl ?_
  refine q_sld hb1 dL_law_902 rfl ?_
  refine q_callX [.int (yxs Y ((x3 + (1 : Int32))).toNatClampNeg)] [] [.int r] (coX8_kick σ (yxs Y ((x3 + (1 : Int32))).toNatClampNeg) r σ2 h1) lmv_107 (by decide) rfl rfl rfl (Nat.le_of_ble_eq_true rfl) rfl dL_law_903 rfl ?_
  refine q_aload_n 2 dL_law_906 rfl rfl rfl ?_
  refine q_aload_n 0 dL_law_907 rfl rfl rfl ?_
  refine q_iload_n 3 dL_law_908 rfl rfl rfl ?_
  refine q_iconst dL_law_909 rfl lki_1 ?_
  refine q_iadd dL_law_910 rfl ?_
  refine q_sld hb1 dL_law_911 rfl ?_
  refine q_callM [.int (yxs Y ((x3 + (1 : Int32))).toNatClampNeg)] [.int r] [.int r, .int r] (coX9_kick τ (yxs Y ((x3 + (1 : Int32))).toNatClampNeg) r τ2 h2) lmv_110 (by decide) rfl rfl rfl (Nat.le_of_ble_eq_true rfl) rfl dL_law_912 rfl ?_
  refine q_eqT dL_law_915 rfl ?_
  exact k _ _ hR2
def Sim_as (Rel : Mem → Mem → Prop) : Prop := ∀ (σ τ : Mem) (a0 : Int32) (a1 : Int32), Rel σ τ → ∃ (r : Int32) (σ2 τ2 : Mem), FX8_as σ a0 a1 = some (r, σ2) ∧ FX9_as τ a0 a1 = some (r, τ2) ∧ Rel σ2 τ2
set_option maxHeartbeats 4000000 in
set_option maxRecDepth 100000 in
theorem lawc_22 {Rel : Mem → Mem → Prop} (hs : Sim_as Rel) {Y : LX} {σ τ : Mem} {x3 : Int32} (hR : Rel σ τ) (hb1 : vp_in (x3 + (1 : Int32)) (yL Y)) (hb2 : vp_in (x3 + (2 : Int32)) (yL Y)) (hb3 : vp_in (x3 + (3 : Int32)) (yL Y)) (hb4 : vp_in (x3 + (4 : Int32)) (yL Y)) (hb5 : vp_in (x3 + (5 : Int32)) (yL Y)) (k : ∀ σ2 τ2, Rel σ2 τ2 → JL Y σ2 τ2 1002 [(0, .ref (yb Y)), (1, .ref (yX Y 0)), (2, .ref (yM Y 0)), (3, .int x3)] []) : JL Y σ τ 920 [(0, .ref (yb Y)), (1, .ref (yX Y 0)), (2, .ref (yM Y 0)), (3, .int x3)] [] := by
  obtain ⟨r, σ2, τ2, h1, h2, hR2⟩ := hs σ τ (yxs Y ((x3 + (1 : Int32))).toNatClampNeg) (yxs Y ((x3 + (2 : Int32))).toNatClampNeg) hR
  refine q_aload_n 1 dL_law_920 rfl rfl rfl ?_
  refine q_aload_n 0 dL_law_921 rfl rfl rfl ?_
  refine q_iload_n 3 dL_law_922 rfl rfl rfl ?_
  refine q_iconst dL_law_923 rfl lki_1 ?_
  refine q_iadd dL_law_924 rfl ?_
  refine q_sld hb1 dL_law_925 rfl ?_
  refine q_aload_n 0 dL_law_926 rfl rfl rfl ?_
  refine q_iload_n 3 dL_law_927 rfl rfl rfl ?_
  refine q_iconst dL_law_928 rfl lki_2 ?_
  refine q_iadd dL_law_929 rfl ?_
  refine q_sld hb2 dL_law_930 rfl ?_
  refine q_callX [.int (yxs Y ((x3 + (1 : Int32))).toNatClampNeg), .int (yxs Y ((x3 + (2 : Int32))).toNatClampNeg)] [] [.int r] (coX8_as σ (yxs Y ((x3 + (1 : Int32))).toNatClampNeg) (yxs Y ((x3 + (2 : Int32))).toNatClampNeg) r σ2 h1) lmv_111 (by decide) rfl rfl rfl (Nat.le_of_ble_eq_true rfl) rfl dL_law_931 rfl ?_
  refine q_aload_n 2 dL_law_934 rfl rfl rfl ?_
  refine q_aload_n 0 dL_law_935 rfl rfl rfl ?_
  refine q_iload_n 3 dL_law_936 rfl rfl rfl ?_
  refine q_iconst dL_law_937 rfl lki_1 ?_
  refine q_iadd dL_law_938 rfl ?_
  refine q_sld hb1 dL_law_939 rfl ?_
  refine q_aload_n 0 dL_law_940 rfl rfl rfl ?_
  refine q_iload_n 3 dL_law_941 rfl rfl rfl ?_
  refine q_iconst dL_law_942 rfl lki_2 ?_
  refine q_iadd dL_law_943 rfl ?_
  refine q_sld hb2 dL_law_944 rfl ?_
  refine q_callM [.int (yxs Y ((x3 + (1 : Int32))).toNatClampNeg), .int (yxs Y ((x3 + (2 : Int32))).toNatClampNeg)] [.int r] [.int r, .int r] (coX9_as τ (yxs Y ((x3 + (1 : Int32))).toNatClampNeg) (yxs Y ((x3 + (2 : Int32))).toNatClampNeg) r τ2 h2) lmv_114 (by decide) rfl rfl rfl (Nat.le_of_ble_eq_true rfl) rfl dL_law_945 rfl ?_
  refine q_eqT dL_law_948 rfl ?_
  exact k _ _ hR2
def Sim_trace (Rel : Mem → Mem → Prop) : Prop := ∀ (σ τ : Mem), Rel σ τ → ∃ (r : Int32) (σ2 τ2 : Mem), FX8_trace σ = some (r, σ2) ∧ FX9_trace τ = some (r, τ2) ∧ Rel σ2 τ2
set_option maxHeartbeats 4000000 in
set_option maxRecDepth 100000 in
theorem lawc_23 {Rel : Mem → Mem → Prop} (hs : Sim_trace Rel) {Y : LX} {σ τ : Mem} {x3 : Int32} (hR : Rel σ τ) (hb1 : vp_in (x3 + (1 : Int32)) (yL Y)) (hb2 : vp_in (x3 + (2 : Int32)) (yL Y)) (hb3 : vp_in (x3 + (3 : Int32)) (yL Y)) (hb4 : vp_in (x3 + (4 : Int32)) (yL Y)) (hb5 : vp_in (x3 + (5 : Int32)) (yL Y)) (k : ∀ σ2 τ2, Rel σ2 τ2 → JL Y σ2 τ2 1002 [(0, .ref (yb Y)), (1, .ref (yX Y 0)), (2, .ref (yM Y 0)), (3, .int x3)] []) : JL Y σ τ 953 [(0, .ref (yb Y)), (1, .ref (yX Y 0)), (2, .ref (yM Y 0)), (3, .int x3)] [] := by
  obtain ⟨r, σ2, τ2, h1, h2, hR2⟩ := hs σ τ hR
  refine q_aload_n 1 dL_law_953 rfl rfl rfl ?_
  refine q_callX [] [] [.int r] (coX8_trace σ r σ2 h1) lmv_115 (by decide) rfl rfl rfl (Nat.le_of_ble_eq_true rfl) rfl dL_law_954 rfl ?_
  refine q_aload_n 2 dL_law_957 rfl rfl rfl ?_
  refine q_callM [] [.int r] [.int r, .int r] (coX9_trace τ r τ2 h2) lmv_119 (by decide) rfl rfl rfl (Nat.le_of_ble_eq_true rfl) rfl dL_law_958 rfl ?_
  refine q_eqT dL_law_961 rfl ?_
  exact k _ _ hR2
def Sim_fault (Rel : Mem → Mem → Prop) : Prop := ∀ (σ τ : Mem), Rel σ τ → ∃ (r : Int32) (σ2 τ2 : Mem), FX8_fault σ = some (r, σ2) ∧ FX9_fault τ = some (r, τ2) ∧ Rel σ2 τ2
set_option maxHeartbeats 4000000 in
set_option maxRecDepth 100000 in
theorem lawc_24 {Rel : Mem → Mem → Prop} (hs : Sim_fault Rel) {Y : LX} {σ τ : Mem} {x3 : Int32} (hR : Rel σ τ) (hb1 : vp_in (x3 + (1 : Int32)) (yL Y)) (hb2 : vp_in (x3 + (2 : Int32)) (yL Y)) (hb3 : vp_in (x3 + (3 : Int32)) (yL Y)) (hb4 : vp_in (x3 + (4 : Int32)) (yL Y)) (hb5 : vp_in (x3 + (5 : Int32)) (yL Y)) (k : ∀ σ2 τ2, Rel σ2 τ2 → JL Y σ2 τ2 1002 [(0, .ref (yb Y)), (1, .ref (yX Y 0)), (2, .ref (yM Y 0)), (3, .int x3)] []) : JL Y σ τ 966 [(0, .ref (yb Y)), (1, .ref (yX Y 0)), (2, .ref (yM Y 0)), (3, .int x3)] [] := by
  obtain ⟨r, σ2, τ2, h1, h2, hR2⟩ := hs σ τ hR
  refine q_aload_n 1 dL_law_966 rfl rfl rfl ?_
  refine q_callX [] [] [.int r] (coX8_fault σ r σ2 h1) lmv_120 (by decide) rfl rfl rfl (Nat.le_of_ble_eq_true rfl) rfl dL_law_967 rfl ?_
  refine q_aload_n 2 dL_law_970 rfl rfl rfl ?_
  refine q_callM [] [.int r] [.int r, .int r] (coX9_fault τ r τ2 h2) lmv_123 (by decide) rfl rfl rfl (Nat.le_of_ble_eq_true rfl) rfl dL_law_971 rfl ?_
  refine q_eqT dL_law_974 rfl ?_
  exact k _ _ hR2
def Sim_many (Rel : Mem → Mem → Prop) : Prop := ∀ (σ τ : Mem) (a0 : Int32), Rel σ τ → ∃ (r : Int32) (σ2 τ2 : Mem), FX8_many σ a0 = some (r, σ2) ∧ FX9_many τ a0 = some (r, τ2) ∧ Rel σ2 τ2
set_option maxHeartbeats 4000000 in
set_option maxRecDepth 100000 in
theorem lawc_25 {Rel : Mem → Mem → Prop} (hs : Sim_many Rel) {Y : LX} {σ τ : Mem} {x3 : Int32} (hR : Rel σ τ) (hb1 : vp_in (x3 + (1 : Int32)) (yL Y)) (hb2 : vp_in (x3 + (2 : Int32)) (yL Y)) (hb3 : vp_in (x3 + (3 : Int32)) (yL Y)) (hb4 : vp_in (x3 + (4 : Int32)) (yL Y)) (hb5 : vp_in (x3 + (5 : Int32)) (yL Y)) (k : ∀ σ2 τ2, Rel σ2 τ2 → JL Y σ2 τ2 1002 [(0, .ref (yb Y)), (1, .ref (yX Y 0)), (2, .ref (yM Y 0)), (3, .int x3)] []) : JL Y σ τ 979 [(0, .ref (yb Y)), (1, .ref (yX Y 0)), (2, .ref (yM Y 0)), (3, .int x3)] [] := by
  obtain ⟨r, σ2, τ2, h1, h2, hR2⟩ := hs σ τ (yxs Y ((x3 + (1 : Int32))).toNatClampNeg) hR
  refine q_aload_n 1 dL_law_979 rfl rfl rfl ?_
  refine q_aload_n 0 dL_law_980 rfl rfl rfl ?_
  refine q_iload_n 3 dL_law_981 rfl rfl rfl ?_
  refine q_iconst dL_law_982 rfl lki_1 ?_
  refine q_iadd dL_law_983 rfl ?_
  refine q_sld hb1 dL_law_984 rfl ?_
  refine q_callX [.int (yxs Y ((x3 + (1 : Int32))).toNatClampNeg)] [] [.int r] (coX8_many σ (yxs Y ((x3 + (1 : Int32))).toNatClampNeg) r σ2 h1) lmv_124 (by decide) rfl rfl rfl (Nat.le_of_ble_eq_true rfl) rfl dL_law_985 rfl ?_
  refine q_aload_n 2 dL_law_988 rfl rfl rfl ?_
  refine q_aload_n 0 dL_law_989 rfl rfl rfl ?_
  refine q_iload_n 3 dL_law_990 rfl rfl rfl ?_
  refine q_iconst dL_law_991 rfl lki_1 ?_
  refine q_iadd dL_law_992 rfl ?_
  refine q_sld hb1 dL_law_993 rfl ?_
  refine q_callM [.int (yxs Y ((x3 + (1 : Int32))).toNatClampNeg)] [.int r] [.int r, .int r] (coX9_many τ (yxs Y ((x3 + (1 : Int32))).toNatClampNeg) r τ2 h2) lmv_127 (by decide) rfl rfl rfl (Nat.le_of_ble_eq_true rfl) rfl dL_law_994 rfl ?_
  refine q_eqT dL_law_997 rfl ?_
  exact k _ _ hR2
def Sims (Rel : Mem → Mem → Prop) : Prop := Sim_yard Rel ∧ Sim_at Rel ∧ Sim_ofBlock Rel ∧ Sim_push Rel ∧ Sim_would Rel ∧ Sim_tracks Rel ∧ Sim_undo Rel ∧ Sim_keep Rel ∧ Sim_back Rel ∧ Sim_fewest Rel ∧ Sim_won Rel ∧ Sim_first Rel ∧ Sim_rows Rel ∧ Sim_sand Rel ∧ Sim_thaw Rel ∧ Sim_sheet Rel ∧ Sim_lose Rel ∧ Sim_put Rel ∧ Sim_cell Rel ∧ Sim_copy Rel ∧ Sim_tell Rel ∧ Sim_kick Rel ∧ Sim_as Rel ∧ Sim_trace Rel ∧ Sim_fault Rel ∧ Sim_many Rel
set_option maxHeartbeats 8000000 in
set_option maxRecDepth 100000 in
/-- the law's loop: the two sides' memories stay related, so it never answers false -/
theorem law_loop {Rel : Mem → Mem → Prop} (hs : Sims Rel) {Y : LX} (hL : yL Y ≤ 3072) : ∀ (k n : Nat) (x3 : Int32) (σ τ : Mem), x3 = nI n → n ≤ yL Y + 6 → yL Y + 12 ≤ n + k → Rel σ τ → JL Y σ τ 18 [(0, .ref (yb Y)), (1, .ref (yX Y 0)), (2, .ref (yM Y 0)), (3, .int x3)] [] := by
  intro k
  induction k with
  | zero => intro n x3 σ τ _ h1 h2; exact absurd h2 (by omega)
  | succ k ih =>
    intro n x3 σ τ ex hn hk hR
    refine q_iload_n 3 dL_law_18 rfl rfl rfl ?_
    refine q_aload_n 0 dL_law_19 rfl rfl rfl ?_
    refine q_slen dL_law_20 rfl ?_
    refine q_bipush dL_law_21 rfl lkb_6 ?_
    refine q_isub dL_law_23 rfl ?_
    refine q_icmpgt dL_law_24 rfl rfl (fun c => ?_) (fun c => ?_)
    · refine q_iconst dL_law_1008 rfl lki_1 ?_
      exact q_ret dL_law_1009
    have hsub : (Int32.ofNat (yL Y) - 6).toInt = (yL Y : Int) - 6 := pk_sub_toInt (a := yL Y) (b := 6) (by omega) (by omega)
    have hx : x3.toInt = (n : Int) := by rw [ex]; exact nI_toInt (by omega)
    have hle : n + 6 ≤ yL Y := by
      have h1 : ¬ (Int32.ofNat (yL Y) - 6).toInt < x3.toInt := fun h => c (Int32.lt_iff_toInt_lt.mpr h)
      rw [hsub, hx] at h1
      omega
    have hb0 : vp_in x3 (yL Y) := by rw [ex]; exact vp_in_nI (by omega) (by omega)
    have hbk : ∀ j : Nat, j < 6 → vp_in (x3 + nI j) (yL Y) := fun j hj => by rw [ex, nI_add]; exact vp_in_nI (by omega) (by omega)
    have hb1 : vp_in (x3 + (1 : Int32)) (yL Y) := hbk 1 (by omega)
    have hb2 : vp_in (x3 + (2 : Int32)) (yL Y) := hbk 2 (by omega)
    have hb3 : vp_in (x3 + (3 : Int32)) (yL Y) := hbk 3 (by omega)
    have hb4 : vp_in (x3 + (4 : Int32)) (yL Y) := hbk 4 (by omega)
    have hb5 : vp_in (x3 + (5 : Int32)) (yL Y) := hbk 5 (by omega)
    have knext : ∀ σ2 τ2, Rel σ2 τ2 → JL Y σ2 τ2 1002 [(0, .ref (yb Y)), (1, .ref (yX Y 0)), (2, .ref (yM Y 0)), (3, .int x3)] [] := by
      intro σ2 τ2 hR2
      refine q_iinc 3 [(3, .int (x3 + 6)), (0, .ref (yb Y)), (1, .ref (yX Y 0)), (2, .ref (yM Y 0))] dL_law_1002 rfl rfl rfl (by decide) rfl ?_
      refine q_goto dL_law_1005 rfl ?_
      refine q_sub [1, 2, 3, 0] rfl ?_
      exact ih (n + 6) (x3 + 6) σ2 τ2 (by rw [ex]; exact nI_add n 6) (by omega) (by omega) hR2
    refine q_aload_n 0 dL_law_27 rfl rfl rfl ?_
    refine q_iload_n 3 dL_law_28 rfl rfl rfl ?_
    refine q_sld hb0 dL_law_29 rfl ?_
    refine q_bipush dL_law_30 rfl lkb_31 ?_
    refine q_iand dL_law_32 rfl ?_
    generalize (yxs Y x3.toNatClampNeg &&& 31) = w
    by_cases c0 : w = 0
    · refine q_tableIn dL_law_33 (by rw [c0]; decide) (by rw [c0]; decide) (by rw [c0] <;> rfl) rfl ?_
      exact lawc_0 (hs.1) hR hb1 hb2 hb3 hb4 hb5 knext
    by_cases c1 : w = 1
    · refine q_tableIn dL_law_33 (by rw [c1]; decide) (by rw [c1]; decide) (by rw [c1] <;> rfl) rfl ?_
      exact lawc_1 (hs.2.1) hR hb1 hb2 hb3 hb4 hb5 knext
    by_cases c2 : w = 2
    · refine q_tableIn dL_law_33 (by rw [c2]; decide) (by rw [c2]; decide) (by rw [c2] <;> rfl) rfl ?_
      exact lawc_2 (hs.2.2.1) hR hb1 hb2 hb3 hb4 hb5 knext
    by_cases c3 : w = 3
    · refine q_tableIn dL_law_33 (by rw [c3]; decide) (by rw [c3]; decide) (by rw [c3] <;> rfl) rfl ?_
      exact lawc_3 (hs.2.2.2.1) hR hb1 hb2 hb3 hb4 hb5 knext
    by_cases c4 : w = 4
    · refine q_tableIn dL_law_33 (by rw [c4]; decide) (by rw [c4]; decide) (by rw [c4] <;> rfl) rfl ?_
      exact lawc_4 (hs.2.2.2.2.1) hR hb1 hb2 hb3 hb4 hb5 knext
    by_cases c5 : w = 5
    · refine q_tableIn dL_law_33 (by rw [c5]; decide) (by rw [c5]; decide) (by rw [c5] <;> rfl) rfl ?_
      exact lawc_5 (hs.2.2.2.2.2.1) hR hb1 hb2 hb3 hb4 hb5 knext
    by_cases c6 : w = 6
    · refine q_tableIn dL_law_33 (by rw [c6]; decide) (by rw [c6]; decide) (by rw [c6] <;> rfl) rfl ?_
      exact lawc_6 (hs.2.2.2.2.2.2.1) hR hb1 hb2 hb3 hb4 hb5 knext
    by_cases c7 : w = 7
    · refine q_tableIn dL_law_33 (by rw [c7]; decide) (by rw [c7]; decide) (by rw [c7] <;> rfl) rfl ?_
      exact lawc_7 (hs.2.2.2.2.2.2.2.1) hR hb1 hb2 hb3 hb4 hb5 knext
    by_cases c8 : w = 8
    · refine q_tableIn dL_law_33 (by rw [c8]; decide) (by rw [c8]; decide) (by rw [c8] <;> rfl) rfl ?_
      exact lawc_8 (hs.2.2.2.2.2.2.2.2.1) hR hb1 hb2 hb3 hb4 hb5 knext
    by_cases c9 : w = 9
    · refine q_tableIn dL_law_33 (by rw [c9]; decide) (by rw [c9]; decide) (by rw [c9] <;> rfl) rfl ?_
      exact lawc_9 (hs.2.2.2.2.2.2.2.2.2.1) hR hb1 hb2 hb3 hb4 hb5 knext
    by_cases c10 : w = 10
    · refine q_tableIn dL_law_33 (by rw [c10]; decide) (by rw [c10]; decide) (by rw [c10] <;> rfl) rfl ?_
      exact lawc_10 (hs.2.2.2.2.2.2.2.2.2.2.1) hR hb1 hb2 hb3 hb4 hb5 knext
    by_cases c11 : w = 11
    · refine q_tableIn dL_law_33 (by rw [c11]; decide) (by rw [c11]; decide) (by rw [c11] <;> rfl) rfl ?_
      exact lawc_11 (hs.2.2.2.2.2.2.2.2.2.2.2.1) hR hb1 hb2 hb3 hb4 hb5 knext
    by_cases c12 : w = 12
    · refine q_tableIn dL_law_33 (by rw [c12]; decide) (by rw [c12]; decide) (by rw [c12] <;> rfl) rfl ?_
      exact lawc_12 (hs.2.2.2.2.2.2.2.2.2.2.2.2.1) hR hb1 hb2 hb3 hb4 hb5 knext
    by_cases c13 : w = 13
    · refine q_tableIn dL_law_33 (by rw [c13]; decide) (by rw [c13]; decide) (by rw [c13] <;> rfl) rfl ?_
      exact lawc_13 (hs.2.2.2.2.2.2.2.2.2.2.2.2.2.1) hR hb1 hb2 hb3 hb4 hb5 knext
    by_cases c14 : w = 14
    · refine q_tableIn dL_law_33 (by rw [c14]; decide) (by rw [c14]; decide) (by rw [c14] <;> rfl) rfl ?_
      exact lawc_14 (hs.2.2.2.2.2.2.2.2.2.2.2.2.2.2.1) hR hb1 hb2 hb3 hb4 hb5 knext
    by_cases c15 : w = 15
    · refine q_tableIn dL_law_33 (by rw [c15]; decide) (by rw [c15]; decide) (by rw [c15] <;> rfl) rfl ?_
      exact lawc_15 (hs.2.2.2.2.2.2.2.2.2.2.2.2.2.2.2.1) hR hb1 hb2 hb3 hb4 hb5 knext
    by_cases c16 : w = 16
    · refine q_tableIn dL_law_33 (by rw [c16]; decide) (by rw [c16]; decide) (by rw [c16] <;> rfl) rfl ?_
      exact lawc_16 (hs.2.2.2.2.2.2.2.2.2.2.2.2.2.2.2.2.1) hR hb1 hb2 hb3 hb4 hb5 knext
    by_cases c17 : w = 17
    · refine q_tableIn dL_law_33 (by rw [c17]; decide) (by rw [c17]; decide) (by rw [c17] <;> rfl) rfl ?_
      exact lawc_17 (hs.2.2.2.2.2.2.2.2.2.2.2.2.2.2.2.2.2.1) hR hb1 hb2 hb3 hb4 hb5 knext
    by_cases c18 : w = 18
    · refine q_tableIn dL_law_33 (by rw [c18]; decide) (by rw [c18]; decide) (by rw [c18] <;> rfl) rfl ?_
      exact lawc_18 (hs.2.2.2.2.2.2.2.2.2.2.2.2.2.2.2.2.2.2.1) hR hb1 hb2 hb3 hb4 hb5 knext
    by_cases c19 : w = 19
    · refine q_tableIn dL_law_33 (by rw [c19]; decide) (by rw [c19]; decide) (by rw [c19] <;> rfl) rfl ?_
      exact lawc_19 (hs.2.2.2.2.2.2.2.2.2.2.2.2.2.2.2.2.2.2.2.1) hR hb1 hb2 hb3 hb4 hb5 knext
    by_cases c20 : w = 20
    · refine q_tableIn dL_law_33 (by rw [c20]; decide) (by rw [c20]; decide) (by rw [c20] <;> rfl) rfl ?_
      exact lawc_20 (hs.2.2.2.2.2.2.2.2.2.2.2.2.2.2.2.2.2.2.2.2.1) hR hb1 hb2 hb3 hb4 hb5 knext
    by_cases c21 : w = 21
    · refine q_tableIn dL_law_33 (by rw [c21]; decide) (by rw [c21]; decide) (by rw [c21] <;> rfl) rfl ?_
      exact lawc_21 (hs.2.2.2.2.2.2.2.2.2.2.2.2.2.2.2.2.2.2.2.2.2.1) hR hb1 hb2 hb3 hb4 hb5 knext
    by_cases c22 : w = 22
    · refine q_tableIn dL_law_33 (by rw [c22]; decide) (by rw [c22]; decide) (by rw [c22] <;> rfl) rfl ?_
      exact lawc_22 (hs.2.2.2.2.2.2.2.2.2.2.2.2.2.2.2.2.2.2.2.2.2.2.1) hR hb1 hb2 hb3 hb4 hb5 knext
    by_cases c23 : w = 23
    · refine q_tableIn dL_law_33 (by rw [c23]; decide) (by rw [c23]; decide) (by rw [c23] <;> rfl) rfl ?_
      exact lawc_23 (hs.2.2.2.2.2.2.2.2.2.2.2.2.2.2.2.2.2.2.2.2.2.2.2.1) hR hb1 hb2 hb3 hb4 hb5 knext
    by_cases c24 : w = 24
    · refine q_tableIn dL_law_33 (by rw [c24]; decide) (by rw [c24]; decide) (by rw [c24] <;> rfl) rfl ?_
      exact lawc_24 (hs.2.2.2.2.2.2.2.2.2.2.2.2.2.2.2.2.2.2.2.2.2.2.2.2.1) hR hb1 hb2 hb3 hb4 hb5 knext
    by_cases c25 : w = 25
    · refine q_tableIn dL_law_33 (by rw [c25]; decide) (by rw [c25]; decide) (by rw [c25] <;> rfl) rfl ?_
      exact lawc_25 (hs.2.2.2.2.2.2.2.2.2.2.2.2.2.2.2.2.2.2.2.2.2.2.2.2.2) hR hb1 hb2 hb3 hb4 hb5 knext
    refine q_tableOut dL_law_33 (by have b0 := lv_neT (a := 0) c0 (by decide); have b1 := lv_neT (a := 1) c1 (by decide); have b2 := lv_neT (a := 2) c2 (by decide); have b3 := lv_neT (a := 3) c3 (by decide); have b4 := lv_neT (a := 4) c4 (by decide); have b5 := lv_neT (a := 5) c5 (by decide); have b6 := lv_neT (a := 6) c6 (by decide); have b7 := lv_neT (a := 7) c7 (by decide); have b8 := lv_neT (a := 8) c8 (by decide); have b9 := lv_neT (a := 9) c9 (by decide); have b10 := lv_neT (a := 10) c10 (by decide); have b11 := lv_neT (a := 11) c11 (by decide); have b12 := lv_neT (a := 12) c12 (by decide); have b13 := lv_neT (a := 13) c13 (by decide); have b14 := lv_neT (a := 14) c14 (by decide); have b15 := lv_neT (a := 15) c15 (by decide); have b16 := lv_neT (a := 16) c16 (by decide); have b17 := lv_neT (a := 17) c17 (by decide); have b18 := lv_neT (a := 18) c18 (by decide); have b19 := lv_neT (a := 19) c19 (by decide); have b20 := lv_neT (a := 20) c20 (by decide); have b21 := lv_neT (a := 21) c21 (by decide); have b22 := lv_neT (a := 22) c22 (by decide); have b23 := lv_neT (a := 23) c23 (by decide); have b24 := lv_neT (a := 24) c24 (by decide); have b25 := lv_neT (a := 25) c25 (by decide); omega) rfl ?_
    exact knext σ τ hR
def σX0 : Mem := (setL (setL (setL (setI (setI (setI (setI (setI (setL M0 2 2 (-1 : Int64)) 4 2 (-9 : Int32)) 7 1 (-1 : Int32)) 8 1 (-1 : Int32)) 9 1 (-1 : Int32)) 10 1 (-1 : Int32)) 17 0 (-1 : Int64)) 17 1 (-1 : Int64)) 17 2 (-1 : Int64))
def τM0 : Mem := (setI (setI (setI (setI M0 28 0 (-1 : Int32)) 28 1 (-1 : Int32)) 28 2 (-1 : Int32)) 28 3 (-1 : Int32))
def pmX : Nat → Nat := fun k => ([0, 1, 6, 8, 14, 15, 18, 20, 22, 24, 26, 21, 23, 25, 27, 19, 28, 29, 2, 3, 4, 5, 7, 9, 10, 11, 12, 13, 16, 17] : List Nat).getD k 0
