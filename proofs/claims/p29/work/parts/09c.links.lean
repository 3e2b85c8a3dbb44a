def bz {R : Type} (x : Option Int32) (f : Int32 → Option R) : Option R := match x with
  | none => none
  | some v => if v = 0 ∨ v = 1 then f v else none
theorem bz_of {R : Type} {out : R} {x : Option Int32} {f : Int32 → Option R} (h : bz x f = some out) : ∃ o, x = some o ∧ (o = 0 ∨ o = 1) ∧ f o = some out := by
  cases x with
  | none => cases h
  | some v =>
    unfold bz at h
    by_cases hc : v = 0 ∨ v = 1
    · simp only [if_pos hc] at h; exact ⟨v, rfl, hc, h⟩
    · simp only [if_neg hc] at h; cases h
theorem kb_m16 : (Int8.ofInt (-16)).toInt32 = (-16 : Int32) := by decide +kernel
theorem kb_7 : (Int8.ofInt (7)).toInt32 = (7 : Int32) := by decide +kernel
theorem kb_8 : (Int8.ofInt (8)).toInt32 = (8 : Int32) := by decide +kernel
theorem kb_9 : (Int8.ofInt (9)).toInt32 = (9 : Int32) := by decide +kernel
theorem kb_14 : (Int8.ofInt (14)).toInt32 = (14 : Int32) := by decide +kernel
theorem kb_17 : (Int8.ofInt (17)).toInt32 = (17 : Int32) := by decide +kernel
theorem kb_19 : (Int8.ofInt (19)).toInt32 = (19 : Int32) := by decide +kernel
theorem kb_20 : (Int8.ofInt (20)).toInt32 = (20 : Int32) := by decide +kernel
theorem kb_21 : (Int8.ofInt (21)).toInt32 = (21 : Int32) := by decide +kernel
theorem kb_22 : (Int8.ofInt (22)).toInt32 = (22 : Int32) := by decide +kernel
theorem kb_24 : (Int8.ofInt (24)).toInt32 = (24 : Int32) := by decide +kernel
theorem kb_25 : (Int8.ofInt (25)).toInt32 = (25 : Int32) := by decide +kernel
theorem kb_32 : (Int8.ofInt (32)).toInt32 = (32 : Int32) := by decide +kernel
theorem kb_100 : (Int8.ofInt (100)).toInt32 = (100 : Int32) := by decide +kernel
theorem kb_108 : (Int8.ofInt (108)).toInt32 = (108 : Int32) := by decide +kernel
theorem kb_111 : (Int8.ofInt (111)).toInt32 = (111 : Int32) := by decide +kernel
theorem ki_5 : Int32.ofInt (5) = (5 : Int32) := by decide +kernel
theorem ks_m999 : (Int16.ofInt (-999)).toInt32 = (-999 : Int32) := by decide +kernel
theorem ks_977 : (Int16.ofInt (977)).toInt32 = (977 : Int32) := by decide +kernel
theorem qc_7 : Cond.constant RL 7 (15485863 : Int32) ∈ BW := bw3 2 rfl rfl
theorem qc_8 : Cond.constant RL 8 (2147483647 : Int32) ∈ BW := bw3 6 rfl rfl
theorem aw_I : Cond.arrayClass .int ∈ BW := bw1 76 rfl rfl
theorem aw_J : Cond.arrayClass .long ∈ BW := bw1 160 rfl rfl
theorem qd_75 : Cond.constantLong RL 75 (-1 : Int64) ∈ BW := bw3 134 rfl rfl
theorem wini_RL : Cond.initialized RL ∈ BW := bw1 0 rfl rfl
theorem ms_RL_15 : MS RL 15 yL_low cL_low 2 (some .int) 2 := ms_of (bw3 3 rfl rfl) (bw3 4 rfl rfl) wini_RL (bw3 5 rfl rfl) ⟨by decide +kernel, by decide +kernel, by decide +kernel⟩ (by decide)
theorem ms_RL_29 : MS RL 29 yL_who cL_who 3 (some .int) 2 := ms_of (bw3 119 rfl rfl) (bw3 120 rfl rfl) wini_RL (bw3 121 rfl rfl) ⟨by decide +kernel, by decide +kernel, by decide +kernel⟩ (by decide)
theorem ms_RL_36 : MS RL 36 yL_lay cL_lay 16 (some .int) 7 := ms_of (bw3 7 rfl rfl) (bw3 8 rfl rfl) wini_RL (bw3 9 rfl rfl) ⟨by decide +kernel, by decide +kernel, by decide +kernel⟩ (by decide)
theorem ms_RL_40 : MS RL 40 yL_begun cL_begun 3 (some (.array .int)) 1 := ms_of (bw3 110 rfl rfl) (bw3 111 rfl rfl) wini_RL (bw3 112 rfl rfl) ⟨by decide +kernel, by decide +kernel, by decide +kernel⟩ (by decide)
theorem ms_RL_44 : MS RL 44 yL_copied cL_copied 3 (some (.array .int)) 1 := ms_of (bw3 113 rfl rfl) (bw3 114 rfl rfl) wini_RL (bw3 115 rfl rfl) ⟨by decide +kernel, by decide +kernel, by decide +kernel⟩ (by decide)
theorem ms_RL_47 : MS RL 47 yL_push cL_push 14 (some .int) 6 := ms_of (bw3 116 rfl rfl) (bw3 117 rfl rfl) wini_RL (bw3 118 rfl rfl) ⟨by decide +kernel, by decide +kernel, by decide +kernel⟩ (by decide)
theorem ms_RL_56 : MS RL 56 yL_outcome cL_outcome 13 (some .int) 7 := ms_of (bw3 125 rfl rfl) (bw3 126 rfl rfl) wini_RL (bw3 127 rfl rfl) ⟨by decide +kernel, by decide +kernel, by decide +kernel⟩ (by decide)
theorem ms_RL_60 : MS RL 60 yL_forced cL_forced 14 (some .boolean) 7 := ms_of (bw3 128 rfl rfl) (bw3 129 rfl rfl) wini_RL (bw3 130 rfl rfl) ⟨by decide +kernel, by decide +kernel, by decide +kernel⟩ (by decide)
theorem ms_RL_77 : MS RL 77 yL_free cL_free 3 (some .boolean) 3 := ms_of (bw3 122 rfl rfl) (bw3 123 rfl rfl) wini_RL (bw3 124 rfl rfl) ⟨by decide +kernel, by decide +kernel, by decide +kernel⟩ (by decide)
theorem ms_RL_87 : MS RL 87 yL_wins cL_wins 11 (some .boolean) 6 := ms_of (bw3 131 rfl rfl) (bw3 132 rfl rfl) wini_RL (bw3 133 rfl rfl) ⟨by decide +kernel, by decide +kernel, by decide +kernel⟩ (by decide)
theorem ms_RL_9 : MS RL 9 yL_cell cL_cell 2 (some .int) 2 := ms_of (bw2 239 rfl rfl) (bw3 0 rfl rfl) wini_RL (bw3 1 rfl rfl) ⟨by decide +kernel, by decide +kernel, by decide +kernel⟩ (by decide)
theorem wi_X8_put : Cond.instanceMethod yX8_put ∈ BW := bw3 11 rfl rfl
theorem wc_X8_put : Cond.code yX8_put cX8_put 5 (some .int) ∈ BW := bw3 13 rfl rfl
theorem wv_X8_put : Cond.selects RX8 yX8_put yX8_put ∈ BW := bw3 12 rfl rfl
theorem mv_RL_19 : MV RL 19 RX8 yX8_put cX8_put 5 (some .int) 3 := mv_of (bw3 10 rfl rfl) wi_X8_put wv_X8_put wini_RX8 wc_X8_put ⟨rfl, by decide +kernel, by decide +kernel, by decide +kernel⟩ (by decide)
theorem wi_X8_yard : Cond.instanceMethod yX8_yard ∈ BW := bw3 32 rfl rfl
theorem wc_X8_yard : Cond.code yX8_yard cX8_yard 8 (some .int) ∈ BW := bw3 34 rfl rfl
theorem wv_X8_yard : Cond.selects RX8 yX8_yard yX8_yard ∈ BW := bw3 33 rfl rfl
theorem mv_RL_25 : MV RL 25 RX8 yX8_yard cX8_yard 8 (some .int) 4 := mv_of (bw3 31 rfl rfl) wi_X8_yard wv_X8_yard wini_RX8 wc_X8_yard ⟨rfl, by decide +kernel, by decide +kernel, by decide +kernel⟩ (by decide)
theorem wi_X8_sheet : Cond.instanceMethod yX8_sheet ∈ BW := bw2 220 rfl rfl
theorem wc_X8_sheet : Cond.code yX8_sheet cX8_sheet 5 (some .int) ∈ BW := bw2 222 rfl rfl
theorem wv_X8_sheet : Cond.selects RX8 yX8_sheet yX8_sheet ∈ BW := bw2 221 rfl rfl
theorem mv_RL_33 : MV RL 33 RX8 yX8_sheet cX8_sheet 5 (some .int) 3 := mv_of (bw2 219 rfl rfl) wi_X8_sheet wv_X8_sheet wini_RX8 wc_X8_sheet ⟨rfl, by decide +kernel, by decide +kernel, by decide +kernel⟩ (by decide)
theorem wi_X8_push : Cond.instanceMethod yX8_push ∈ BW := bw2 58 rfl rfl
theorem wc_X8_push : Cond.code yX8_push cX8_push 4 (some .int) ∈ BW := bw2 60 rfl rfl
theorem wv_X8_push : Cond.selects RX8 yX8_push yX8_push ∈ BW := bw2 59 rfl rfl
theorem mv_RL_51 : MV RL 51 RX8 yX8_push cX8_push 4 (some .int) 2 := mv_of (bw2 57 rfl rfl) wi_X8_push wv_X8_push wini_RX8 wc_X8_push ⟨rfl, by decide +kernel, by decide +kernel, by decide +kernel⟩ (by decide)
theorem wi_X8_fewest : Cond.instanceMethod yX8_fewest ∈ BW := bw2 108 rfl rfl
theorem wc_X8_fewest : Cond.code yX8_fewest cX8_fewest 4 (some .int) ∈ BW := bw2 110 rfl rfl
theorem wv_X8_fewest : Cond.selects RX8 yX8_fewest yX8_fewest ∈ BW := bw2 109 rfl rfl
theorem mv_RL_53 : MV RL 53 RX8 yX8_fewest cX8_fewest 4 (some .int) 2 := mv_of (bw2 107 rfl rfl) wi_X8_fewest wv_X8_fewest wini_RX8 wc_X8_fewest ⟨rfl, by decide +kernel, by decide +kernel, by decide +kernel⟩ (by decide)
theorem wi_X8_won : Cond.instanceMethod yX8_won ∈ BW := bw2 147 rfl rfl
theorem wc_X8_won : Cond.code yX8_won cX8_won 2 (some .int) ∈ BW := bw2 149 rfl rfl
theorem wv_X8_won : Cond.selects RX8 yX8_won yX8_won ∈ BW := bw2 148 rfl rfl
theorem mv_RL_64 : MV RL 64 RX8 yX8_won cX8_won 2 (some .int) 1 := mv_of (bw2 146 rfl rfl) wi_X8_won wv_X8_won wini_RX8 wc_X8_won ⟨rfl, by decide +kernel, by decide +kernel, by decide +kernel⟩ (by decide)
theorem wi_X8_first : Cond.instanceMethod yX8_first ∈ BW := bw2 165 rfl rfl
theorem wc_X8_first : Cond.code yX8_first cX8_first 2 (some .int) ∈ BW := bw2 167 rfl rfl
theorem wv_X8_first : Cond.selects RX8 yX8_first yX8_first ∈ BW := bw2 166 rfl rfl
theorem mv_RL_68 : MV RL 68 RX8 yX8_first cX8_first 2 (some .int) 1 := mv_of (bw2 164 rfl rfl) wi_X8_first wv_X8_first wini_RX8 wc_X8_first ⟨rfl, by decide +kernel, by decide +kernel, by decide +kernel⟩ (by decide)
theorem wi_X8_rows : Cond.instanceMethod yX8_rows ∈ BW := bw2 169 rfl rfl
theorem wc_X8_rows : Cond.code yX8_rows cX8_rows 6 (some .int) ∈ BW := bw2 171 rfl rfl
theorem wv_X8_rows : Cond.selects RX8 yX8_rows yX8_rows ∈ BW := bw2 170 rfl rfl
theorem mv_RL_71 : MV RL 71 RX8 yX8_rows cX8_rows 6 (some .int) 3 := mv_of (bw2 168 rfl rfl) wi_X8_rows wv_X8_rows wini_RX8 wc_X8_rows ⟨rfl, by decide +kernel, by decide +kernel, by decide +kernel⟩ (by decide)
theorem wi_X8_sand : Cond.instanceMethod yX8_sand ∈ BW := bw2 199 rfl rfl
theorem wc_X8_sand : Cond.code yX8_sand cX8_sand 6 (some .int) ∈ BW := bw2 201 rfl rfl
theorem wv_X8_sand : Cond.selects RX8 yX8_sand yX8_sand ∈ BW := bw2 200 rfl rfl
theorem mv_RL_81 : MV RL 81 RX8 yX8_sand cX8_sand 6 (some .int) 4 := mv_of (bw2 198 rfl rfl) wi_X8_sand wv_X8_sand wini_RX8 wc_X8_sand ⟨rfl, by decide +kernel, by decide +kernel, by decide +kernel⟩ (by decide)
theorem wi_X8_ofBlock : Cond.instanceMethod yX8_ofBlock ∈ BW := bw2 38 rfl rfl
theorem wc_X8_ofBlock : Cond.code yX8_ofBlock cX8_ofBlock 3 (some .int) ∈ BW := bw2 40 rfl rfl
theorem wv_X8_ofBlock : Cond.selects RX8 yX8_ofBlock yX8_ofBlock ∈ BW := bw2 39 rfl rfl
theorem mv_RL_84 : MV RL 84 RX8 yX8_ofBlock cX8_ofBlock 3 (some .int) 2 := mv_of (bw2 37 rfl rfl) wi_X8_ofBlock wv_X8_ofBlock wini_RX8 wc_X8_ofBlock ⟨rfl, by decide +kernel, by decide +kernel, by decide +kernel⟩ (by decide)
