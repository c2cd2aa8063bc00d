theorem tb0 {w : Cond} (h : w ∈ tables_1) : w ∈ lw_tbl := List.mem_append_right _ h
theorem tb1 {w : Cond} (h : w ∈ tables_1_1) : w ∈ lw_tbl := tb0 (show w ∈ tables_1_1 ++ (tables_1_2 ++ (tables_1_3 ++ (tables_1_4 ++ (tables_1_5 ++ (tables_1_6 ++ (tables_1_7 ++ (tables_1_8 ++ tables_1_9))))))) from List.mem_append_left _ h)
theorem tb2 {w : Cond} (h : w ∈ tables_1_2) : w ∈ lw_tbl := tb0 (show w ∈ tables_1_1 ++ (tables_1_2 ++ (tables_1_3 ++ (tables_1_4 ++ (tables_1_5 ++ (tables_1_6 ++ (tables_1_7 ++ (tables_1_8 ++ tables_1_9))))))) from List.mem_append_right _ (List.mem_append_left _ h))
theorem tb3 {w : Cond} (h : w ∈ tables_1_3) : w ∈ lw_tbl := tb0 (show w ∈ tables_1_1 ++ (tables_1_2 ++ (tables_1_3 ++ (tables_1_4 ++ (tables_1_5 ++ (tables_1_6 ++ (tables_1_7 ++ (tables_1_8 ++ tables_1_9))))))) from List.mem_append_right _ (List.mem_append_right _ (List.mem_append_left _ h)))
theorem tb4 {w : Cond} (h : w ∈ tables_1_4) : w ∈ lw_tbl := tb0 (show w ∈ tables_1_1 ++ (tables_1_2 ++ (tables_1_3 ++ (tables_1_4 ++ (tables_1_5 ++ (tables_1_6 ++ (tables_1_7 ++ (tables_1_8 ++ tables_1_9))))))) from List.mem_append_right _ (List.mem_append_right _ (List.mem_append_right _ (List.mem_append_left _ h))))
theorem tb5 {w : Cond} (h : w ∈ tables_1_5) : w ∈ lw_tbl := tb0 (show w ∈ tables_1_1 ++ (tables_1_2 ++ (tables_1_3 ++ (tables_1_4 ++ (tables_1_5 ++ (tables_1_6 ++ (tables_1_7 ++ (tables_1_8 ++ tables_1_9))))))) from List.mem_append_right _ (List.mem_append_right _ (List.mem_append_right _ (List.mem_append_right _ (List.mem_append_left _ h)))))
theorem tb6 {w : Cond} (h : w ∈ tables_1_6) : w ∈ lw_tbl := tb0 (show w ∈ tables_1_1 ++ (tables_1_2 ++ (tables_1_3 ++ (tables_1_4 ++ (tables_1_5 ++ (tables_1_6 ++ (tables_1_7 ++ (tables_1_8 ++ tables_1_9))))))) from List.mem_append_right _ (List.mem_append_right _ (List.mem_append_right _ (List.mem_append_right _ (List.mem_append_right _ (List.mem_append_left _ h))))))
theorem tb7 {w : Cond} (h : w ∈ tables_1_7) : w ∈ lw_tbl := tb0 (show w ∈ tables_1_1 ++ (tables_1_2 ++ (tables_1_3 ++ (tables_1_4 ++ (tables_1_5 ++ (tables_1_6 ++ (tables_1_7 ++ (tables_1_8 ++ tables_1_9))))))) from List.mem_append_right _ (List.mem_append_right _ (List.mem_append_right _ (List.mem_append_right _ (List.mem_append_right _ (List.mem_append_right _ (List.mem_append_left _ h)))))))
theorem tb8 {w : Cond} (h : w ∈ tables_1_8) : w ∈ lw_tbl := tb0 (show w ∈ tables_1_1 ++ (tables_1_2 ++ (tables_1_3 ++ (tables_1_4 ++ (tables_1_5 ++ (tables_1_6 ++ (tables_1_7 ++ (tables_1_8 ++ tables_1_9))))))) from List.mem_append_right _ (List.mem_append_right _ (List.mem_append_right _ (List.mem_append_right _ (List.mem_append_right _ (List.mem_append_right _ (List.mem_append_right _ (List.mem_append_left _ h))))))))
theorem tb9 {w : Cond} (h : w ∈ tables_1_9) : w ∈ lw_tbl := tb0 (show w ∈ tables_1_1 ++ (tables_1_2 ++ (tables_1_3 ++ (tables_1_4 ++ (tables_1_5 ++ (tables_1_6 ++ (tables_1_7 ++ (tables_1_8 ++ tables_1_9))))))) from List.mem_append_right _ (List.mem_append_right _ (List.mem_append_right _ (List.mem_append_right _ (List.mem_append_right _ (List.mem_append_right _ (List.mem_append_right _ (List.mem_append_right _ (h)))))))))
def mX1_init : Mth := (yX1_init, cX1_init, 1, none, 1, 20)
theorem kX1_init : MOK mX1_init := ⟨by decide +kernel, tb1 (List.mem_of_getElem? (i := 33) rfl), tb1 (List.mem_of_getElem? (i := 2) rfl), by decide +kernel, by decide +kernel⟩
theorem oX1_init : Cond.instanceMethod mX1_init.1 ∈ lw_tbl := tb1 (List.mem_of_getElem? (i := 32) rfl)
def mX2_init : Mth := (yX2_init, cX2_init, 2, none, 1, 20)
theorem kX2_init : MOK mX2_init := ⟨by decide +kernel, tb1 (List.mem_of_getElem? (i := 77) rfl), tb1 (List.mem_of_getElem? (i := 3) rfl), by decide +kernel, by decide +kernel⟩
theorem oX2_init : Cond.instanceMethod mX2_init.1 ∈ lw_tbl := tb1 (List.mem_of_getElem? (i := 76) rfl)
def mX10_init : Mth := (yX10_init, cX10_init, 2, none, 1, 20)
theorem kX10_init : MOK mX10_init := ⟨by decide +kernel, tb1 (List.mem_of_getElem? (i := 116) rfl), tb1 (List.mem_of_getElem? (i := 4) rfl), by decide +kernel, by decide +kernel⟩
theorem oX10_init : Cond.instanceMethod mX10_init.1 ∈ lw_tbl := tb1 (List.mem_of_getElem? (i := 115) rfl)
def mX4_init : Mth := (yX4_init, cX4_init, 1, none, 1, 20)
theorem kX4_init : MOK mX4_init := ⟨by decide +kernel, tb1 (List.mem_of_getElem? (i := 132) rfl), tb1 (List.mem_of_getElem? (i := 5) rfl), by decide +kernel, by decide +kernel⟩
theorem oX4_init : Cond.instanceMethod mX4_init.1 ∈ lw_tbl := tb1 (List.mem_of_getElem? (i := 131) rfl)
def mX6_init : Mth := (yX6_init, cX6_init, 2, none, 1, 20)
theorem kX6_init : MOK mX6_init := ⟨by decide +kernel, tb1 (List.mem_of_getElem? (i := 152) rfl), tb1 (List.mem_of_getElem? (i := 6) rfl), by decide +kernel, by decide +kernel⟩
theorem oX6_init : Cond.instanceMethod mX6_init.1 ∈ lw_tbl := tb1 (List.mem_of_getElem? (i := 151) rfl)
def mX8_init : Mth := (yX8_init, cX8_init, 1, none, 1, 20)
theorem kX8_init : MOK mX8_init := ⟨by decide +kernel, tb1 (List.mem_of_getElem? (i := 202) rfl), tb1 (List.mem_of_getElem? (i := 7) rfl), by decide +kernel, by decide +kernel⟩
theorem oX8_init : Cond.instanceMethod mX8_init.1 ∈ lw_tbl := tb1 (List.mem_of_getElem? (i := 201) rfl)
def mX0_init : Mth := (yX0_init, cX0_init, 1, none, 1, 20)
theorem kX0_init : MOK mX0_init := ⟨by decide +kernel, tb1 (List.mem_of_getElem? (i := 229) rfl), tb1 (List.mem_of_getElem? (i := 8) rfl), by decide +kernel, by decide +kernel⟩
theorem oX0_init : Cond.instanceMethod mX0_init.1 ∈ lw_tbl := tb1 (List.mem_of_getElem? (i := 228) rfl)
def mJ7_fill_53178 : Mth := (yJ7_fill_53178, cJ7_fill_53178, 4, none, 0, 0)
theorem kJ7_fill_53178 : MOK mJ7_fill_53178 := ⟨by decide +kernel, tb2 (List.mem_of_getElem? (i := 66) rfl), tb1 (List.mem_of_getElem? (i := 11) rfl), by decide +kernel, by decide +kernel⟩
theorem vJ7_fill_53178 : Cond.static mJ7_fill_53178.1 ∈ lw_tbl := tb2 (List.mem_of_getElem? (i := 65) rfl)
def mX5_init : Mth := (yX5_init, cX5_init, 1, none, 1, 23)
theorem kX5_init : MOK mX5_init := ⟨by decide +kernel, tb2 (List.mem_of_getElem? (i := 62) rfl), tb1 (List.mem_of_getElem? (i := 10) rfl), by decide +kernel, by decide +kernel⟩
theorem oX5_init : Cond.instanceMethod mX5_init.1 ∈ lw_tbl := tb2 (List.mem_of_getElem? (i := 61) rfl)
def mX9_init : Mth := (yX9_init, cX9_init, 1, none, 1, 20)
theorem kX9_init : MOK mX9_init := ⟨by decide +kernel, tb2 (List.mem_of_getElem? (i := 99) rfl), tb1 (List.mem_of_getElem? (i := 12) rfl), by decide +kernel, by decide +kernel⟩
theorem oX9_init : Cond.instanceMethod mX9_init.1 ∈ lw_tbl := tb2 (List.mem_of_getElem? (i := 98) rfl)
def mX7_init : Mth := (yX7_init, cX7_init, 1, none, 1, 20)
theorem kX7_init : MOK mX7_init := ⟨by decide +kernel, tb2 (List.mem_of_getElem? (i := 154) rfl), tb1 (List.mem_of_getElem? (i := 13) rfl), by decide +kernel, by decide +kernel⟩
theorem oX7_init : Cond.instanceMethod mX7_init.1 ∈ lw_tbl := tb2 (List.mem_of_getElem? (i := 153) rfl)
def mX3_init : Mth := (yX3_init, cX3_init, 1, none, 2, 43)
theorem kX3_init : MOK mX3_init := ⟨by decide +kernel, tb2 (List.mem_of_getElem? (i := 56) rfl), tb1 (List.mem_of_getElem? (i := 9) rfl), by decide +kernel, by decide +kernel⟩
theorem oX3_init : Cond.instanceMethod mX3_init.1 ∈ lw_tbl := tb2 (List.mem_of_getElem? (i := 55) rfl)
def mX11_init : Mth := (yX11_init, cX11_init, 1, none, 3, 63)
theorem kX11_init : MOK mX11_init := ⟨by decide +kernel, tb1 (List.mem_of_getElem? (i := 25) rfl), tb1 (List.mem_of_getElem? (i := 1) rfl), by decide +kernel, by decide +kernel⟩
theorem oX11_init : Cond.instanceMethod mX11_init.1 ∈ lw_tbl := tb1 (List.mem_of_getElem? (i := 24) rfl)
def mX12_init : Mth := (yX12_init, cX12_init, 1, none, 1, 20)
theorem kX12_init : MOK mX12_init := ⟨by decide +kernel, tb6 (List.mem_of_getElem? (i := 149) rfl), tb1 (List.mem_of_getElem? (i := 14) rfl), by decide +kernel, by decide +kernel⟩
theorem oX12_init : Cond.instanceMethod mX12_init.1 ∈ lw_tbl := tb6 (List.mem_of_getElem? (i := 148) rfl)
def mX11_keepNumber : Mth := (yX11_keepNumber, cX11_keepNumber, 3, none, 0, 0)
theorem kX11_keepNumber : MOK mX11_keepNumber := ⟨by decide +kernel, tb3 (List.mem_of_getElem? (i := 134) rfl), tb1 (List.mem_of_getElem? (i := 1) rfl), by decide +kernel, by decide +kernel⟩
theorem oX11_keepNumber : Cond.instanceMethod mX11_keepNumber.1 ∈ lw_tbl := tb3 (List.mem_of_getElem? (i := 133) rfl)
theorem vX11_keepNumber : VOK mX11_keepNumber.1 := ⟨oX11_keepNumber, List.mem_append_left _ (List.mem_of_getElem? (i := 0) rfl)⟩
def mX11_feed : Mth := (yX11_feed, cX11_feed, 6, (some .int), 1, 22)
theorem kX11_feed : MOK mX11_feed := ⟨by decide +kernel, tb3 (List.mem_of_getElem? (i := 130) rfl), tb1 (List.mem_of_getElem? (i := 1) rfl), by decide +kernel, by decide +kernel⟩
theorem oX11_feed : Cond.instanceMethod mX11_feed.1 ∈ lw_tbl := tb3 (List.mem_of_getElem? (i := 128) rfl)
theorem vX11_feed : VOK mX11_feed.1 := ⟨oX11_feed, tb3 (List.mem_of_getElem? (i := 129) rfl)⟩
def mX12_feed : Mth := (yX12_feed, cX12_feed, 8, (some .int), 0, 0)
theorem kX12_feed : MOK mX12_feed := ⟨by decide +kernel, tb9 (List.mem_of_getElem? (i := 119) rfl), tb1 (List.mem_of_getElem? (i := 14) rfl), by decide +kernel, by decide +kernel⟩
theorem oX12_feed : Cond.instanceMethod mX12_feed.1 ∈ lw_tbl := tb9 (List.mem_of_getElem? (i := 117) rfl)
theorem vX12_feed : VOK mX12_feed.1 := ⟨oX12_feed, tb9 (List.mem_of_getElem? (i := 118) rfl)⟩
def mX1_begin : Mth := (yX1_begin, cX1_begin, 3, none, 1, 21)
theorem kX1_begin : MOK mX1_begin := ⟨by decide +kernel, tb3 (List.mem_of_getElem? (i := 142) rfl), tb1 (List.mem_of_getElem? (i := 2) rfl), by decide +kernel, by decide +kernel⟩
theorem oX1_begin : Cond.instanceMethod mX1_begin.1 ∈ lw_tbl := tb3 (List.mem_of_getElem? (i := 140) rfl)
theorem vX1_begin : VOK mX1_begin.1 := ⟨oX1_begin, tb3 (List.mem_of_getElem? (i := 141) rfl)⟩
def mX5_begin : Mth := (yX5_begin, cX5_begin, 4, none, 1, 40)
theorem kX5_begin : MOK mX5_begin := ⟨by decide +kernel, tb3 (List.mem_of_getElem? (i := 156) rfl), tb1 (List.mem_of_getElem? (i := 10) rfl), by decide +kernel, by decide +kernel⟩
theorem oX5_begin : Cond.instanceMethod mX5_begin.1 ∈ lw_tbl := tb3 (List.mem_of_getElem? (i := 154) rfl)
theorem vX5_begin : VOK mX5_begin.1 := ⟨oX5_begin, tb3 (List.mem_of_getElem? (i := 155) rfl)⟩
def mX7_begin : Mth := (yX7_begin, cX7_begin, 1, none, 0, 0)
theorem kX7_begin : MOK mX7_begin := ⟨by decide +kernel, tb3 (List.mem_of_getElem? (i := 165) rfl), tb1 (List.mem_of_getElem? (i := 13) rfl), by decide +kernel, by decide +kernel⟩
theorem oX7_begin : Cond.instanceMethod mX7_begin.1 ∈ lw_tbl := tb3 (List.mem_of_getElem? (i := 163) rfl)
theorem vX7_begin : VOK mX7_begin.1 := ⟨oX7_begin, tb3 (List.mem_of_getElem? (i := 164) rfl)⟩
def mX3_begin : Mth := (yX3_begin, cX3_begin, 3, none, 2, 63)
theorem kX3_begin : MOK mX3_begin := ⟨by decide +kernel, tb3 (List.mem_of_getElem? (i := 152) rfl), tb1 (List.mem_of_getElem? (i := 9) rfl), by decide +kernel, by decide +kernel⟩
theorem oX3_begin : Cond.instanceMethod mX3_begin.1 ∈ lw_tbl := tb3 (List.mem_of_getElem? (i := 150) rfl)
theorem vX3_begin : VOK mX3_begin.1 := ⟨oX3_begin, tb3 (List.mem_of_getElem? (i := 151) rfl)⟩
def mX1_peek : Mth := (yX1_peek, cX1_peek, 1, (some .int), 0, 0)
theorem kX1_peek : MOK mX1_peek := ⟨by decide +kernel, tb3 (List.mem_of_getElem? (i := 177) rfl), tb1 (List.mem_of_getElem? (i := 2) rfl), by decide +kernel, by decide +kernel⟩
theorem oX1_peek : Cond.instanceMethod mX1_peek.1 ∈ lw_tbl := tb3 (List.mem_of_getElem? (i := 175) rfl)
theorem vX1_peek : VOK mX1_peek.1 := ⟨oX1_peek, tb3 (List.mem_of_getElem? (i := 176) rfl)⟩
def mX1_isSpace : Mth := (yX1_isSpace, cX1_isSpace, 1, (some .boolean), 0, 0)
theorem kX1_isSpace : MOK mX1_isSpace := ⟨by decide +kernel, tb3 (List.mem_of_getElem? (i := 180) rfl), tb1 (List.mem_of_getElem? (i := 2) rfl), by decide +kernel, by decide +kernel⟩
theorem vX1_isSpace : Cond.static mX1_isSpace.1 ∈ lw_tbl := tb3 (List.mem_of_getElem? (i := 179) rfl)
def mX1_skipSpace : Mth := (yX1_skipSpace, cX1_skipSpace, 1, none, 1, 20)
theorem kX1_skipSpace : MOK mX1_skipSpace := ⟨by decide +kernel, tb3 (List.mem_of_getElem? (i := 173) rfl), tb1 (List.mem_of_getElem? (i := 2) rfl), by decide +kernel, by decide +kernel⟩
theorem oX1_skipSpace : Cond.instanceMethod mX1_skipSpace.1 ∈ lw_tbl := tb3 (List.mem_of_getElem? (i := 171) rfl)
theorem vX1_skipSpace : VOK mX1_skipSpace.1 := ⟨oX1_skipSpace, tb3 (List.mem_of_getElem? (i := 172) rfl)⟩
def mJ0_coder_7d493 : Mth := (yJ0_coder_7d493, cJ0_coder_7d493, 1, (some .byte), 0, 0)
theorem kJ0_coder_7d493 : MOK mJ0_coder_7d493 := ⟨by decide +kernel, tb3 (List.mem_of_getElem? (i := 193) rfl), tb1 (List.mem_of_getElem? (i := 17) rfl), by decide +kernel, by decide +kernel⟩
theorem oJ0_coder_7d493 : Cond.instanceMethod mJ0_coder_7d493.1 ∈ lw_tbl := tb3 (List.mem_of_getElem? (i := 191) rfl)
theorem vJ0_coder_7d493 : VOK mJ0_coder_7d493.1 := ⟨oJ0_coder_7d493, tb3 (List.mem_of_getElem? (i := 192) rfl)⟩
def mJ0_length_8abf5 : Mth := (yJ0_length_8abf5, cJ0_length_8abf5, 1, (some .int), 1, 20)
theorem kJ0_length_8abf5 : MOK mJ0_length_8abf5 := ⟨by decide +kernel, tb3 (List.mem_of_getElem? (i := 189) rfl), tb1 (List.mem_of_getElem? (i := 17) rfl), by decide +kernel, by decide +kernel⟩
theorem oJ0_length_8abf5 : Cond.instanceMethod mJ0_length_8abf5.1 ∈ lw_tbl := tb3 (List.mem_of_getElem? (i := 187) rfl)
theorem vJ0_length_8abf5 : VOK mJ0_length_8abf5.1 := ⟨oJ0_length_8abf5, tb3 (List.mem_of_getElem? (i := 188) rfl)⟩
def mJ0_isLatin1_aae02 : Mth := (yJ0_isLatin1_aae02, cJ0_isLatin1_aae02, 1, (some .boolean), 0, 0)
theorem kJ0_isLatin1_aae02 : MOK mJ0_isLatin1_aae02 := ⟨by decide +kernel, tb3 (List.mem_of_getElem? (i := 203) rfl), tb1 (List.mem_of_getElem? (i := 17) rfl), by decide +kernel, by decide +kernel⟩
theorem oJ0_isLatin1_aae02 : Cond.instanceMethod mJ0_isLatin1_aae02.1 ∈ lw_tbl := tb3 (List.mem_of_getElem? (i := 201) rfl)
theorem vJ0_isLatin1_aae02 : VOK mJ0_isLatin1_aae02.1 := ⟨oJ0_isLatin1_aae02, tb3 (List.mem_of_getElem? (i := 202) rfl)⟩
def mJ3_checkIndex_8e157 : Mth := (yJ3_checkIndex_8e157, cJ3_checkIndex_8e157, 3, (some .int), 0, 0)
theorem kJ3_checkIndex_8e157 : MOK mJ3_checkIndex_8e157 := ⟨by decide +kernel, tb3 (List.mem_of_getElem? (i := 214) rfl), tb1 (List.mem_of_getElem? (i := 19) rfl), by decide +kernel, by decide +kernel⟩
theorem vJ3_checkIndex_8e157 : Cond.static mJ3_checkIndex_8e157.1 ∈ lw_tbl := tb3 (List.mem_of_getElem? (i := 213) rfl)
def mJ0_checkIndex_df160 : Mth := (yJ0_checkIndex_df160, cJ0_checkIndex_df160, 2, none, 1, 22)
theorem kJ0_checkIndex_df160 : MOK mJ0_checkIndex_df160 := ⟨by decide +kernel, tb3 (List.mem_of_getElem? (i := 209) rfl), tb1 (List.mem_of_getElem? (i := 17) rfl), by decide +kernel, by decide +kernel⟩
theorem vJ0_checkIndex_df160 : Cond.static mJ0_checkIndex_df160.1 ∈ lw_tbl := tb3 (List.mem_of_getElem? (i := 208) rfl)
def mJ1_charAt_3b067 : Mth := (yJ1_charAt_3b067, cJ1_charAt_3b067, 2, (some .char), 2, 43)
theorem kJ1_charAt_3b067 : MOK mJ1_charAt_3b067 := ⟨by decide +kernel, tb3 (List.mem_of_getElem? (i := 206) rfl), tb1 (List.mem_of_getElem? (i := 18) rfl), by decide +kernel, by decide +kernel⟩
theorem vJ1_charAt_3b067 : Cond.static mJ1_charAt_3b067.1 ∈ lw_tbl := tb3 (List.mem_of_getElem? (i := 205) rfl)
def mJ0_charAt_5068e : Mth := (yJ0_charAt_5068e, cJ0_charAt_5068e, 2, (some .char), 3, 64)
theorem kJ0_charAt_5068e : MOK mJ0_charAt_5068e := ⟨by decide +kernel, tb3 (List.mem_of_getElem? (i := 199) rfl), tb1 (List.mem_of_getElem? (i := 17) rfl), by decide +kernel, by decide +kernel⟩
theorem oJ0_charAt_5068e : Cond.instanceMethod mJ0_charAt_5068e.1 ∈ lw_tbl := tb3 (List.mem_of_getElem? (i := 197) rfl)
theorem vJ0_charAt_5068e : VOK mJ0_charAt_5068e.1 := ⟨oJ0_charAt_5068e, tb3 (List.mem_of_getElem? (i := 198) rfl)⟩
def mX1_takeIf : Mth := (yX1_takeIf, cX1_takeIf, 4, (some .boolean), 4, 85)
theorem kX1_takeIf : MOK mX1_takeIf := ⟨by decide +kernel, tb3 (List.mem_of_getElem? (i := 185) rfl), tb1 (List.mem_of_getElem? (i := 2) rfl), by decide +kernel, by decide +kernel⟩
theorem oX1_takeIf : Cond.instanceMethod mX1_takeIf.1 ∈ lw_tbl := tb3 (List.mem_of_getElem? (i := 183) rfl)
theorem vX1_takeIf : VOK mX1_takeIf.1 := ⟨oX1_takeIf, tb3 (List.mem_of_getElem? (i := 184) rfl)⟩
def mX1_refuse : Mth := (yX1_refuse, cX1_refuse, 3, (some .boolean), 0, 0)
theorem kX1_refuse : MOK mX1_refuse := ⟨by decide +kernel, tb4 (List.mem_of_getElem? (i := 7) rfl), tb1 (List.mem_of_getElem? (i := 2) rfl), by decide +kernel, by decide +kernel⟩
theorem oX1_refuse : Cond.instanceMethod mX1_refuse.1 ∈ lw_tbl := tb4 (List.mem_of_getElem? (i := 5) rfl)
theorem vX1_refuse : VOK mX1_refuse.1 := ⟨oX1_refuse, tb4 (List.mem_of_getElem? (i := 6) rfl)⟩
def mX1_take : Mth := (yX1_take, cX1_take, 2, (some .boolean), 5, 108)
theorem kX1_take : MOK mX1_take := ⟨by decide +kernel, tb4 (List.mem_of_getElem? (i := 3) rfl), tb1 (List.mem_of_getElem? (i := 2) rfl), by decide +kernel, by decide +kernel⟩
theorem oX1_take : Cond.instanceMethod mX1_take.1 ∈ lw_tbl := tb4 (List.mem_of_getElem? (i := 1) rfl)
theorem vX1_take : VOK mX1_take.1 := ⟨oX1_take, tb4 (List.mem_of_getElem? (i := 2) rfl)⟩
def mX1_isChar : Mth := (yX1_isChar, cX1_isChar, 1, (some .boolean), 0, 0)
theorem kX1_isChar : MOK mX1_isChar := ⟨by decide +kernel, tb4 (List.mem_of_getElem? (i := 10) rfl), tb1 (List.mem_of_getElem? (i := 2) rfl), by decide +kernel, by decide +kernel⟩
theorem vX1_isChar : Cond.static mX1_isChar.1 ∈ lw_tbl := tb4 (List.mem_of_getElem? (i := 9) rfl)
def mX1_finishComment : Mth := (yX1_finishComment, cX1_finishComment, 1, (some .boolean), 6, 129)
theorem kX1_finishComment : MOK mX1_finishComment := ⟨by decide +kernel, tb3 (List.mem_of_getElem? (i := 237) rfl), tb1 (List.mem_of_getElem? (i := 2) rfl), by decide +kernel, by decide +kernel⟩
theorem oX1_finishComment : Cond.instanceMethod mX1_finishComment.1 ∈ lw_tbl := tb3 (List.mem_of_getElem? (i := 235) rfl)
theorem vX1_finishComment : VOK mX1_finishComment.1 := ⟨oX1_finishComment, tb3 (List.mem_of_getElem? (i := 236) rfl)⟩
def mX1_skipComments : Mth := (yX1_skipComments, cX1_skipComments, 2, (some .boolean), 7, 149)
theorem kX1_skipComments : MOK mX1_skipComments := ⟨by decide +kernel, tb3 (List.mem_of_getElem? (i := 169) rfl), tb1 (List.mem_of_getElem? (i := 2) rfl), by decide +kernel, by decide +kernel⟩
theorem oX1_skipComments : Cond.instanceMethod mX1_skipComments.1 ∈ lw_tbl := tb3 (List.mem_of_getElem? (i := 167) rfl)
theorem vX1_skipComments : VOK mX1_skipComments.1 := ⟨oX1_skipComments, tb3 (List.mem_of_getElem? (i := 168) rfl)⟩
def mX1_needSpace : Mth := (yX1_needSpace, cX1_needSpace, 1, (some .boolean), 2, 40)
theorem kX1_needSpace : MOK mX1_needSpace := ⟨by decide +kernel, tb4 (List.mem_of_getElem? (i := 20) rfl), tb1 (List.mem_of_getElem? (i := 2) rfl), by decide +kernel, by decide +kernel⟩
theorem oX1_needSpace : Cond.instanceMethod mX1_needSpace.1 ∈ lw_tbl := tb4 (List.mem_of_getElem? (i := 18) rfl)
theorem vX1_needSpace : VOK mX1_needSpace.1 := ⟨oX1_needSpace, tb4 (List.mem_of_getElem? (i := 19) rfl)⟩
def mX1_startsName : Mth := (yX1_startsName, cX1_startsName, 1, (some .boolean), 0, 0)
theorem kX1_startsName : MOK mX1_startsName := ⟨by decide +kernel, tb4 (List.mem_of_getElem? (i := 27) rfl), tb1 (List.mem_of_getElem? (i := 2) rfl), by decide +kernel, by decide +kernel⟩
theorem vX1_startsName : Cond.static mX1_startsName.1 ∈ lw_tbl := tb4 (List.mem_of_getElem? (i := 26) rfl)
def mX1_isNameByte : Mth := (yX1_isNameByte, cX1_isNameByte, 1, (some .boolean), 0, 0)
theorem kX1_isNameByte : MOK mX1_isNameByte := ⟨by decide +kernel, tb4 (List.mem_of_getElem? (i := 34) rfl), tb1 (List.mem_of_getElem? (i := 2) rfl), by decide +kernel, by decide +kernel⟩
theorem vX1_isNameByte : Cond.static mX1_isNameByte.1 ∈ lw_tbl := tb4 (List.mem_of_getElem? (i := 33) rfl)
def mX1_needToken : Mth := (yX1_needToken, cX1_needToken, 1, (some .boolean), 1, 22)
theorem kX1_needToken : MOK mX1_needToken := ⟨by decide +kernel, tb4 (List.mem_of_getElem? (i := 31) rfl), tb1 (List.mem_of_getElem? (i := 2) rfl), by decide +kernel, by decide +kernel⟩
theorem oX1_needToken : Cond.instanceMethod mX1_needToken.1 ∈ lw_tbl := tb4 (List.mem_of_getElem? (i := 29) rfl)
theorem vX1_needToken : VOK mX1_needToken.1 := ⟨oX1_needToken, tb4 (List.mem_of_getElem? (i := 30) rfl)⟩
def mX1_needName : Mth := (yX1_needName, cX1_needName, 1, (some .boolean), 2, 42)
theorem kX1_needName : MOK mX1_needName := ⟨by decide +kernel, tb4 (List.mem_of_getElem? (i := 24) rfl), tb1 (List.mem_of_getElem? (i := 2) rfl), by decide +kernel, by decide +kernel⟩
theorem oX1_needName : Cond.instanceMethod mX1_needName.1 ∈ lw_tbl := tb4 (List.mem_of_getElem? (i := 22) rfl)
theorem vX1_needName : VOK mX1_needName.1 := ⟨oX1_needName, tb4 (List.mem_of_getElem? (i := 23) rfl)⟩
def mX5_bucketOf : Mth := (yX5_bucketOf, cX5_bucketOf, 3, (some .int), 0, 0)
theorem kX5_bucketOf : MOK mX5_bucketOf := ⟨by decide +kernel, tb4 (List.mem_of_getElem? (i := 45) rfl), tb1 (List.mem_of_getElem? (i := 10) rfl), by decide +kernel, by decide +kernel⟩
theorem vX5_bucketOf : Cond.static mX5_bucketOf.1 ∈ lw_tbl := tb4 (List.mem_of_getElem? (i := 44) rfl)
def mX5_isThat : Mth := (yX5_isThat, cX5_isThat, 4, (some .boolean), 0, 0)
theorem kX5_isThat : MOK mX5_isThat := ⟨by decide +kernel, tb4 (List.mem_of_getElem? (i := 49) rfl), tb1 (List.mem_of_getElem? (i := 10) rfl), by decide +kernel, by decide +kernel⟩
theorem oX5_isThat : Cond.instanceMethod mX5_isThat.1 ∈ lw_tbl := tb4 (List.mem_of_getElem? (i := 48) rfl)
theorem vX5_isThat : VOK mX5_isThat.1 := ⟨oX5_isThat, List.mem_append_left _ (List.mem_of_getElem? (i := 1) rfl)⟩
def mX5_find : Mth := (yX5_find, cX5_find, 4, (some .int), 1, 23)
theorem kX5_find : MOK mX5_find := ⟨by decide +kernel, tb4 (List.mem_of_getElem? (i := 42) rfl), tb1 (List.mem_of_getElem? (i := 10) rfl), by decide +kernel, by decide +kernel⟩
theorem oX5_find : Cond.instanceMethod mX5_find.1 ∈ lw_tbl := tb4 (List.mem_of_getElem? (i := 40) rfl)
theorem vX5_find : VOK mX5_find.1 := ⟨oX5_find, tb4 (List.mem_of_getElem? (i := 41) rfl)⟩
def mX5_keep : Mth := (yX5_keep, cX5_keep, 5, (some .int), 2, 46)
theorem kX5_keep : MOK mX5_keep := ⟨by decide +kernel, tb4 (List.mem_of_getElem? (i := 38) rfl), tb1 (List.mem_of_getElem? (i := 10) rfl), by decide +kernel, by decide +kernel⟩
theorem oX5_keep : Cond.instanceMethod mX5_keep.1 ∈ lw_tbl := tb4 (List.mem_of_getElem? (i := 36) rfl)
theorem vX5_keep : VOK mX5_keep.1 := ⟨oX5_keep, tb4 (List.mem_of_getElem? (i := 37) rfl)⟩
def mX9_add : Mth := (yX9_add, cX9_add, 4, (some .int), 0, 0)
theorem kX9_add : MOK mX9_add := ⟨by decide +kernel, tb4 (List.mem_of_getElem? (i := 64) rfl), tb1 (List.mem_of_getElem? (i := 12) rfl), by decide +kernel, by decide +kernel⟩
theorem oX9_add : Cond.instanceMethod mX9_add.1 ∈ lw_tbl := tb4 (List.mem_of_getElem? (i := 62) rfl)
theorem vX9_add : VOK mX9_add.1 := ⟨oX9_add, tb4 (List.mem_of_getElem? (i := 63) rfl)⟩
def mX5_has : Mth := (yX5_has, cX5_has, 2, (some .boolean), 0, 0)
theorem kX5_has : MOK mX5_has := ⟨by decide +kernel, tb4 (List.mem_of_getElem? (i := 68) rfl), tb1 (List.mem_of_getElem? (i := 10) rfl), by decide +kernel, by decide +kernel⟩
theorem oX5_has : Cond.instanceMethod mX5_has.1 ∈ lw_tbl := tb4 (List.mem_of_getElem? (i := 66) rfl)
theorem vX5_has : VOK mX5_has.1 := ⟨oX5_has, tb4 (List.mem_of_getElem? (i := 67) rfl)⟩
def mX9_named : Mth := (yX9_named, cX9_named, 8, (some .long), 0, 0)
theorem kX9_named : MOK mX9_named := ⟨by decide +kernel, tb4 (List.mem_of_getElem? (i := 90) rfl), tb1 (List.mem_of_getElem? (i := 12) rfl), by decide +kernel, by decide +kernel⟩
theorem oX9_named : Cond.instanceMethod mX9_named.1 ∈ lw_tbl := tb4 (List.mem_of_getElem? (i := 88) rfl)
theorem vX9_named : VOK mX9_named.1 := ⟨oX9_named, tb4 (List.mem_of_getElem? (i := 89) rfl)⟩
def mX9_addPlace : Mth := (yX9_addPlace, cX9_addPlace, 4, (some .int), 1, 27)
theorem kX9_addPlace : MOK mX9_addPlace := ⟨by decide +kernel, tb4 (List.mem_of_getElem? (i := 85) rfl), tb1 (List.mem_of_getElem? (i := 12) rfl), by decide +kernel, by decide +kernel⟩
theorem oX9_addPlace : Cond.instanceMethod mX9_addPlace.1 ∈ lw_tbl := tb4 (List.mem_of_getElem? (i := 83) rfl)
theorem vX9_addPlace : VOK mX9_addPlace.1 := ⟨oX9_addPlace, tb4 (List.mem_of_getElem? (i := 84) rfl)⟩
def mX2_readPlace : Mth := (yX2_readPlace, cX2_readPlace, 4, (some .boolean), 3, 70)
theorem kX2_readPlace : MOK mX2_readPlace := ⟨by decide +kernel, tb4 (List.mem_of_getElem? (i := 81) rfl), tb1 (List.mem_of_getElem? (i := 3) rfl), by decide +kernel, by decide +kernel⟩
theorem oX2_readPlace : Cond.instanceMethod mX2_readPlace.1 ∈ lw_tbl := tb4 (List.mem_of_getElem? (i := 80) rfl)
theorem vX2_readPlace : VOK mX2_readPlace.1 := ⟨oX2_readPlace, List.mem_append_left _ (List.mem_of_getElem? (i := 4) rfl)⟩
def mX2_readMixed : Mth := (yX2_readMixed, cX2_readMixed, 4, (some .boolean), 6, 129)
theorem kX2_readMixed : MOK mX2_readMixed := ⟨by decide +kernel, tb4 (List.mem_of_getElem? (i := 76) rfl), tb1 (List.mem_of_getElem? (i := 3) rfl), by decide +kernel, by decide +kernel⟩
theorem oX2_readMixed : Cond.instanceMethod mX2_readMixed.1 ∈ lw_tbl := tb4 (List.mem_of_getElem? (i := 75) rfl)
theorem vX2_readMixed : VOK mX2_readMixed.1 := ⟨oX2_readMixed, List.mem_append_left _ (List.mem_of_getElem? (i := 3) rfl)⟩
def mX2_openGroup : Mth := (yX2_openGroup, cX2_openGroup, 1, none, 0, 0)
theorem kX2_openGroup : MOK mX2_openGroup := ⟨by decide +kernel, tb4 (List.mem_of_getElem? (i := 100) rfl), tb1 (List.mem_of_getElem? (i := 3) rfl), by decide +kernel, by decide +kernel⟩
theorem oX2_openGroup : Cond.instanceMethod mX2_openGroup.1 ∈ lw_tbl := tb4 (List.mem_of_getElem? (i := 99) rfl)
theorem vX2_openGroup : VOK mX2_openGroup.1 := ⟨oX2_openGroup, List.mem_append_left _ (List.mem_of_getElem? (i := 6) rfl)⟩
def mX2_readSign : Mth := (yX2_readSign, cX2_readSign, 3, (some .boolean), 1, 22)
theorem kX2_readSign : MOK mX2_readSign := ⟨by decide +kernel, tb4 (List.mem_of_getElem? (i := 104) rfl), tb1 (List.mem_of_getElem? (i := 3) rfl), by decide +kernel, by decide +kernel⟩
theorem oX2_readSign : Cond.instanceMethod mX2_readSign.1 ∈ lw_tbl := tb4 (List.mem_of_getElem? (i := 103) rfl)
theorem vX2_readSign : VOK mX2_readSign.1 := ⟨oX2_readSign, List.mem_append_left _ (List.mem_of_getElem? (i := 7) rfl)⟩
def mX2_closeGroup : Mth := (yX2_closeGroup, cX2_closeGroup, 1, none, 0, 0)
theorem kX2_closeGroup : MOK mX2_closeGroup := ⟨by decide +kernel, tb4 (List.mem_of_getElem? (i := 109) rfl), tb1 (List.mem_of_getElem? (i := 3) rfl), by decide +kernel, by decide +kernel⟩
theorem oX2_closeGroup : Cond.instanceMethod mX2_closeGroup.1 ∈ lw_tbl := tb4 (List.mem_of_getElem? (i := 108) rfl)
theorem vX2_closeGroup : VOK mX2_closeGroup.1 := ⟨oX2_closeGroup, List.mem_append_left _ (List.mem_of_getElem? (i := 8) rfl)⟩
def mX9_link : Mth := (yX9_link, cX9_link, 7, none, 0, 0)
theorem kX9_link : MOK mX9_link := ⟨by decide +kernel, tb4 (List.mem_of_getElem? (i := 119) rfl), tb1 (List.mem_of_getElem? (i := 12) rfl), by decide +kernel, by decide +kernel⟩
theorem oX9_link : Cond.instanceMethod mX9_link.1 ∈ lw_tbl := tb4 (List.mem_of_getElem? (i := 117) rfl)
theorem vX9_link : VOK mX9_link.1 := ⟨oX9_link, tb4 (List.mem_of_getElem? (i := 118) rfl)⟩
def mX2_joinPart : Mth := (yX2_joinPart, cX2_joinPart, 6, none, 1, 26)
theorem kX2_joinPart : MOK mX2_joinPart := ⟨by decide +kernel, tb4 (List.mem_of_getElem? (i := 123) rfl), tb1 (List.mem_of_getElem? (i := 3) rfl), by decide +kernel, by decide +kernel⟩
theorem oX2_joinPart : Cond.instanceMethod mX2_joinPart.1 ∈ lw_tbl := tb4 (List.mem_of_getElem? (i := 122) rfl)
theorem vX2_joinPart : VOK mX2_joinPart.1 := ⟨oX2_joinPart, List.mem_append_left _ (List.mem_of_getElem? (i := 10) rfl)⟩
def mX2_endPart : Mth := (yX2_endPart, cX2_endPart, 6, none, 5, 108)
theorem kX2_endPart : MOK mX2_endPart := ⟨by decide +kernel, tb4 (List.mem_of_getElem? (i := 113) rfl), tb1 (List.mem_of_getElem? (i := 3) rfl), by decide +kernel, by decide +kernel⟩
theorem oX2_endPart : Cond.instanceMethod mX2_endPart.1 ∈ lw_tbl := tb4 (List.mem_of_getElem? (i := 112) rfl)
theorem vX2_endPart : VOK mX2_endPart.1 := ⟨oX2_endPart, List.mem_append_left _ (List.mem_of_getElem? (i := 9) rfl)⟩
def mX2_readGroup : Mth := (yX2_readGroup, cX2_readGroup, 6, (some .boolean), 6, 133)
theorem kX2_readGroup : MOK mX2_readGroup := ⟨by decide +kernel, tb4 (List.mem_of_getElem? (i := 96) rfl), tb1 (List.mem_of_getElem? (i := 3) rfl), by decide +kernel, by decide +kernel⟩
theorem oX2_readGroup : Cond.instanceMethod mX2_readGroup.1 ∈ lw_tbl := tb4 (List.mem_of_getElem? (i := 95) rfl)
theorem vX2_readGroup : VOK mX2_readGroup.1 := ⟨oX2_readGroup, List.mem_append_left _ (List.mem_of_getElem? (i := 5) rfl)⟩
def mX2_readElement : Mth := (yX2_readElement, cX2_readElement, 7, (some .boolean), 7, 158)
theorem kX2_readElement : MOK mX2_readElement := ⟨by decide +kernel, tb4 (List.mem_of_getElem? (i := 59) rfl), tb1 (List.mem_of_getElem? (i := 3) rfl), by decide +kernel, by decide +kernel⟩
theorem oX2_readElement : Cond.instanceMethod mX2_readElement.1 ∈ lw_tbl := tb4 (List.mem_of_getElem? (i := 58) rfl)
theorem vX2_readElement : VOK mX2_readElement.1 := ⟨oX2_readElement, List.mem_append_left _ (List.mem_of_getElem? (i := 2) rfl)⟩
def mX1_reachesName : Mth := (yX1_reachesName, cX1_reachesName, 2, (some .boolean), 2, 40)
theorem kX1_reachesName : MOK mX1_reachesName := ⟨by decide +kernel, tb4 (List.mem_of_getElem? (i := 133) rfl), tb1 (List.mem_of_getElem? (i := 2) rfl), by decide +kernel, by decide +kernel⟩
theorem oX1_reachesName : Cond.instanceMethod mX1_reachesName.1 ∈ lw_tbl := tb4 (List.mem_of_getElem? (i := 131) rfl)
theorem vX1_reachesName : VOK mX1_reachesName.1 := ⟨oX1_reachesName, tb4 (List.mem_of_getElem? (i := 132) rfl)⟩
def mX5_ruleOf : Mth := (yX5_ruleOf, cX5_ruleOf, 2, (some .int), 1, 21)
theorem kX5_ruleOf : MOK mX5_ruleOf := ⟨by decide +kernel, tb4 (List.mem_of_getElem? (i := 137) rfl), tb1 (List.mem_of_getElem? (i := 10) rfl), by decide +kernel, by decide +kernel⟩
theorem oX5_ruleOf : Cond.instanceMethod mX5_ruleOf.1 ∈ lw_tbl := tb4 (List.mem_of_getElem? (i := 135) rfl)
theorem vX5_ruleOf : VOK mX5_ruleOf.1 := ⟨oX5_ruleOf, tb4 (List.mem_of_getElem? (i := 136) rfl)⟩
def mX7_find : Mth := (yX7_find, cX7_find, 5, (some .int), 0, 0)
theorem kX7_find : MOK mX7_find := ⟨by decide +kernel, tb4 (List.mem_of_getElem? (i := 142) rfl), tb1 (List.mem_of_getElem? (i := 13) rfl), by decide +kernel, by decide +kernel⟩
theorem oX7_find : Cond.instanceMethod mX7_find.1 ∈ lw_tbl := tb4 (List.mem_of_getElem? (i := 140) rfl)
theorem vX7_find : VOK mX7_find.1 := ⟨oX7_find, tb4 (List.mem_of_getElem? (i := 141) rfl)⟩
def mX7_chainLength : Mth := (yX7_chainLength, cX7_chainLength, 4, (some .int), 0, 0)
theorem kX7_chainLength : MOK mX7_chainLength := ⟨by decide +kernel, tb4 (List.mem_of_getElem? (i := 146) rfl), tb1 (List.mem_of_getElem? (i := 13) rfl), by decide +kernel, by decide +kernel⟩
theorem oX7_chainLength : Cond.instanceMethod mX7_chainLength.1 ∈ lw_tbl := tb4 (List.mem_of_getElem? (i := 144) rfl)
theorem vX7_chainLength : VOK mX7_chainLength.1 := ⟨oX7_chainLength, tb4 (List.mem_of_getElem? (i := 145) rfl)⟩
def mX7_add : Mth := (yX7_add, cX7_add, 7, (some .int), 1, 21)
theorem kX7_add : MOK mX7_add := ⟨by decide +kernel, tb4 (List.mem_of_getElem? (i := 150) rfl), tb1 (List.mem_of_getElem? (i := 13) rfl), by decide +kernel, by decide +kernel⟩
theorem oX7_add : Cond.instanceMethod mX7_add.1 ∈ lw_tbl := tb4 (List.mem_of_getElem? (i := 148) rfl)
theorem vX7_add : VOK mX7_add.1 := ⟨oX7_add, tb4 (List.mem_of_getElem? (i := 149) rfl)⟩
def mX7_addToken : Mth := (yX7_addToken, cX7_addToken, 4, none, 0, 0)
theorem kX7_addToken : MOK mX7_addToken := ⟨by decide +kernel, tb4 (List.mem_of_getElem? (i := 166) rfl), tb1 (List.mem_of_getElem? (i := 13) rfl), by decide +kernel, by decide +kernel⟩
theorem oX7_addToken : Cond.instanceMethod mX7_addToken.1 ∈ lw_tbl := tb4 (List.mem_of_getElem? (i := 164) rfl)
theorem vX7_addToken : VOK mX7_addToken.1 := ⟨oX7_addToken, tb4 (List.mem_of_getElem? (i := 165) rfl)⟩
def mX2_readTokens : Mth := (yX2_readTokens, cX2_readTokens, 4, (some .boolean), 6, 129)
theorem kX2_readTokens : MOK mX2_readTokens := ⟨by decide +kernel, tb4 (List.mem_of_getElem? (i := 161) rfl), tb1 (List.mem_of_getElem? (i := 3) rfl), by decide +kernel, by decide +kernel⟩
theorem oX2_readTokens : Cond.instanceMethod mX2_readTokens.1 ∈ lw_tbl := tb4 (List.mem_of_getElem? (i := 160) rfl)
theorem vX2_readTokens : VOK mX2_readTokens.1 := ⟨oX2_readTokens, List.mem_append_left _ (List.mem_of_getElem? (i := 13) rfl)⟩
def mX2_readType : Mth := (yX2_readType, cX2_readType, 4, (some .boolean), 7, 152)
theorem kX2_readType : MOK mX2_readType := ⟨by decide +kernel, tb4 (List.mem_of_getElem? (i := 155) rfl), tb1 (List.mem_of_getElem? (i := 3) rfl), by decide +kernel, by decide +kernel⟩
theorem oX2_readType : Cond.instanceMethod mX2_readType.1 ∈ lw_tbl := tb4 (List.mem_of_getElem? (i := 154) rfl)
theorem vX2_readType : VOK mX2_readType.1 := ⟨oX2_readType, List.mem_append_left _ (List.mem_of_getElem? (i := 12) rfl)⟩
def mX1_isDigit : Mth := (yX1_isDigit, cX1_isDigit, 1, (some .boolean), 0, 0)
theorem kX1_isDigit : MOK mX1_isDigit := ⟨by decide +kernel, tb4 (List.mem_of_getElem? (i := 193) rfl), tb1 (List.mem_of_getElem? (i := 2) rfl), by decide +kernel, by decide +kernel⟩
theorem vX1_isDigit : Cond.static mX1_isDigit.1 ∈ lw_tbl := tb4 (List.mem_of_getElem? (i := 192) rfl)
def mX1_takeNumbered : Mth := (yX1_takeNumbered, cX1_takeNumbered, 4, (some .int), 1, 22)
theorem kX1_takeNumbered : MOK mX1_takeNumbered := ⟨by decide +kernel, tb4 (List.mem_of_getElem? (i := 190) rfl), tb1 (List.mem_of_getElem? (i := 2) rfl), by decide +kernel, by decide +kernel⟩
theorem oX1_takeNumbered : Cond.instanceMethod mX1_takeNumbered.1 ∈ lw_tbl := tb4 (List.mem_of_getElem? (i := 189) rfl)
theorem vX1_takeNumbered : VOK mX1_takeNumbered.1 := ⟨oX1_takeNumbered, List.mem_append_left _ (List.mem_of_getElem? (i := 15) rfl)⟩
def mX1_takePiece : Mth := (yX1_takePiece, cX1_takePiece, 2, (some .int), 5, 108)
theorem kX1_takePiece : MOK mX1_takePiece := ⟨by decide +kernel, tb4 (List.mem_of_getElem? (i := 181) rfl), tb1 (List.mem_of_getElem? (i := 2) rfl), by decide +kernel, by decide +kernel⟩
theorem oX1_takePiece : Cond.instanceMethod mX1_takePiece.1 ∈ lw_tbl := tb4 (List.mem_of_getElem? (i := 179) rfl)
theorem vX1_takePiece : VOK mX1_takePiece.1 := ⟨oX1_takePiece, tb4 (List.mem_of_getElem? (i := 180) rfl)⟩
def mX3_isFull : Mth := (yX3_isFull, cX3_isFull, 1, (some .boolean), 0, 0)
theorem kX3_isFull : MOK mX3_isFull := ⟨by decide +kernel, tb4 (List.mem_of_getElem? (i := 201) rfl), tb1 (List.mem_of_getElem? (i := 9) rfl), by decide +kernel, by decide +kernel⟩
theorem oX3_isFull : Cond.instanceMethod mX3_isFull.1 ∈ lw_tbl := tb4 (List.mem_of_getElem? (i := 200) rfl)
theorem vX3_isFull : VOK mX3_isFull.1 := ⟨oX3_isFull, List.mem_append_left _ (List.mem_of_getElem? (i := 16) rfl)⟩
def mX3_addValueByte : Mth := (yX3_addValueByte, cX3_addValueByte, 2, (some .boolean), 1, 20)
theorem kX3_addValueByte : MOK mX3_addValueByte := ⟨by decide +kernel, tb4 (List.mem_of_getElem? (i := 197) rfl), tb1 (List.mem_of_getElem? (i := 9) rfl), by decide +kernel, by decide +kernel⟩
theorem oX3_addValueByte : Cond.instanceMethod mX3_addValueByte.1 ∈ lw_tbl := tb4 (List.mem_of_getElem? (i := 195) rfl)
theorem vX3_addValueByte : VOK mX3_addValueByte.1 := ⟨oX3_addValueByte, tb4 (List.mem_of_getElem? (i := 196) rfl)⟩
def mX1_takeValue : Mth := (yX1_takeValue, cX1_takeValue, 7, (some .boolean), 6, 129)
theorem kX1_takeValue : MOK mX1_takeValue := ⟨by decide +kernel, tb4 (List.mem_of_getElem? (i := 177) rfl), tb1 (List.mem_of_getElem? (i := 2) rfl), by decide +kernel, by decide +kernel⟩
theorem oX1_takeValue : Cond.instanceMethod mX1_takeValue.1 ∈ lw_tbl := tb4 (List.mem_of_getElem? (i := 175) rfl)
theorem vX1_takeValue : VOK mX1_takeValue.1 := ⟨oX1_takeValue, tb4 (List.mem_of_getElem? (i := 176) rfl)⟩
def mX2_readDefault : Mth := (yX2_readDefault, cX2_readDefault, 5, (some .boolean), 7, 155)
theorem kX2_readDefault : MOK mX2_readDefault := ⟨by decide +kernel, tb4 (List.mem_of_getElem? (i := 170) rfl), tb1 (List.mem_of_getElem? (i := 3) rfl), by decide +kernel, by decide +kernel⟩
theorem oX2_readDefault : Cond.instanceMethod mX2_readDefault.1 ∈ lw_tbl := tb4 (List.mem_of_getElem? (i := 169) rfl)
theorem vX2_readDefault : VOK mX2_readDefault.1 := ⟨oX2_readDefault, List.mem_append_left _ (List.mem_of_getElem? (i := 14) rfl)⟩
def mX2_readAttlist : Mth := (yX2_readAttlist, cX2_readAttlist, 8, (some .boolean), 8, 179)
theorem kX2_readAttlist : MOK mX2_readAttlist := ⟨by decide +kernel, tb4 (List.mem_of_getElem? (i := 129) rfl), tb1 (List.mem_of_getElem? (i := 3) rfl), by decide +kernel, by decide +kernel⟩
theorem oX2_readAttlist : Cond.instanceMethod mX2_readAttlist.1 ∈ lw_tbl := tb4 (List.mem_of_getElem? (i := 128) rfl)
theorem vX2_readAttlist : VOK mX2_readAttlist.1 := ⟨oX2_readAttlist, List.mem_append_left _ (List.mem_of_getElem? (i := 11) rfl)⟩
def mX2_readDoctype : Mth := (yX2_readDoctype, cX2_readDoctype, 5, (some .boolean), 9, 206)
theorem kX2_readDoctype : MOK mX2_readDoctype := ⟨by decide +kernel, tb4 (List.mem_of_getElem? (i := 14) rfl), tb1 (List.mem_of_getElem? (i := 3) rfl), by decide +kernel, by decide +kernel⟩
theorem oX2_readDoctype : Cond.instanceMethod mX2_readDoctype.1 ∈ lw_tbl := tb4 (List.mem_of_getElem? (i := 12) rfl)
theorem vX2_readDoctype : VOK mX2_readDoctype.1 := ⟨oX2_readDoctype, tb4 (List.mem_of_getElem? (i := 13) rfl)⟩
def mX3_has : Mth := (yX3_has, cX3_has, 2, (some .boolean), 0, 0)
theorem kX3_has : MOK mX3_has := ⟨by decide +kernel, tb4 (List.mem_of_getElem? (i := 213) rfl), tb1 (List.mem_of_getElem? (i := 9) rfl), by decide +kernel, by decide +kernel⟩
theorem oX3_has : Cond.instanceMethod mX3_has.1 ∈ lw_tbl := tb4 (List.mem_of_getElem? (i := 211) rfl)
theorem vX3_has : VOK mX3_has.1 := ⟨oX3_has, tb4 (List.mem_of_getElem? (i := 212) rfl)⟩
def mX3_countIn : Mth := (yX3_countIn, cX3_countIn, 3, none, 0, 0)
theorem kX3_countIn : MOK mX3_countIn := ⟨by decide +kernel, tb4 (List.mem_of_getElem? (i := 217) rfl), tb1 (List.mem_of_getElem? (i := 9) rfl), by decide +kernel, by decide +kernel⟩
theorem oX3_countIn : Cond.instanceMethod mX3_countIn.1 ∈ lw_tbl := tb4 (List.mem_of_getElem? (i := 216) rfl)
theorem vX3_countIn : VOK mX3_countIn.1 := ⟨oX3_countIn, List.mem_append_left _ (List.mem_of_getElem? (i := 17) rfl)⟩
def mX3_add : Mth := (yX3_add, cX3_add, 6, (some .int), 1, 22)
theorem kX3_add : MOK mX3_add := ⟨by decide +kernel, tb4 (List.mem_of_getElem? (i := 209) rfl), tb1 (List.mem_of_getElem? (i := 9) rfl), by decide +kernel, by decide +kernel⟩
theorem oX3_add : Cond.instanceMethod mX3_add.1 ∈ lw_tbl := tb4 (List.mem_of_getElem? (i := 207) rfl)
theorem vX3_add : VOK mX3_add.1 := ⟨oX3_add, tb4 (List.mem_of_getElem? (i := 208) rfl)⟩
def mX3_attributeOf : Mth := (yX3_attributeOf, cX3_attributeOf, 4, (some .int), 0, 0)
theorem kX3_attributeOf : MOK mX3_attributeOf := ⟨by decide +kernel, tb4 (List.mem_of_getElem? (i := 236) rfl), tb1 (List.mem_of_getElem? (i := 9) rfl), by decide +kernel, by decide +kernel⟩
theorem oX3_attributeOf : Cond.instanceMethod mX3_attributeOf.1 ∈ lw_tbl := tb4 (List.mem_of_getElem? (i := 234) rfl)
theorem vX3_attributeOf : VOK mX3_attributeOf.1 := ⟨oX3_attributeOf, tb4 (List.mem_of_getElem? (i := 235) rfl)⟩
def mX10_addAttribute : Mth := (yX10_addAttribute, cX10_addAttribute, 3, (some .int), 2, 47)
theorem kX10_addAttribute : MOK mX10_addAttribute := ⟨by decide +kernel, tb5 (List.mem_of_getElem? (i := 0) rfl), tb1 (List.mem_of_getElem? (i := 4) rfl), by decide +kernel, by decide +kernel⟩
theorem oX10_addAttribute : Cond.instanceMethod mX10_addAttribute.1 ∈ lw_tbl := tb4 (List.mem_of_getElem? (i := 239) rfl)
theorem vX10_addAttribute : VOK mX10_addAttribute.1 := ⟨oX10_addAttribute, List.mem_append_left _ (List.mem_of_getElem? (i := 20) rfl)⟩
def mX10_readAttribute : Mth := (yX10_readAttribute, cX10_readAttribute, 5, (some .boolean), 7, 155)
theorem kX10_readAttribute : MOK mX10_readAttribute := ⟨by decide +kernel, tb4 (List.mem_of_getElem? (i := 232) rfl), tb1 (List.mem_of_getElem? (i := 4) rfl), by decide +kernel, by decide +kernel⟩
theorem oX10_readAttribute : Cond.instanceMethod mX10_readAttribute.1 ∈ lw_tbl := tb4 (List.mem_of_getElem? (i := 231) rfl)
theorem vX10_readAttribute : VOK mX10_readAttribute.1 := ⟨oX10_readAttribute, List.mem_append_left _ (List.mem_of_getElem? (i := 19) rfl)⟩
def mX7_hasValue : Mth := (yX7_hasValue, cX7_hasValue, 2, (some .boolean), 0, 0)
theorem kX7_hasValue : MOK mX7_hasValue := ⟨by decide +kernel, tb5 (List.mem_of_getElem? (i := 15) rfl), tb1 (List.mem_of_getElem? (i := 13) rfl), by decide +kernel, by decide +kernel⟩
theorem oX7_hasValue : Cond.instanceMethod mX7_hasValue.1 ∈ lw_tbl := tb5 (List.mem_of_getElem? (i := 13) rfl)
theorem vX7_hasValue : VOK mX7_hasValue.1 := ⟨oX7_hasValue, tb5 (List.mem_of_getElem? (i := 14) rfl)⟩
def mX10_addDefaults : Mth := (yX10_addDefaults, cX10_addDefaults, 7, (some .boolean), 3, 69)
theorem kX10_addDefaults : MOK mX10_addDefaults := ⟨by decide +kernel, tb5 (List.mem_of_getElem? (i := 10) rfl), tb1 (List.mem_of_getElem? (i := 4) rfl), by decide +kernel, by decide +kernel⟩
theorem oX10_addDefaults : Cond.instanceMethod mX10_addDefaults.1 ∈ lw_tbl := tb5 (List.mem_of_getElem? (i := 9) rfl)
theorem vX10_addDefaults : VOK mX10_addDefaults.1 := ⟨oX10_addDefaults, List.mem_append_left _ (List.mem_of_getElem? (i := 21) rfl)⟩
def mX3_close : Mth := (yX3_close, cX3_close, 2, none, 0, 0)
theorem kX3_close : MOK mX3_close := ⟨by decide +kernel, tb5 (List.mem_of_getElem? (i := 23) rfl), tb1 (List.mem_of_getElem? (i := 9) rfl), by decide +kernel, by decide +kernel⟩
theorem oX3_close : Cond.instanceMethod mX3_close.1 ∈ lw_tbl := tb5 (List.mem_of_getElem? (i := 21) rfl)
theorem vX3_close : VOK mX3_close.1 := ⟨oX3_close, tb5 (List.mem_of_getElem? (i := 22) rfl)⟩
def mX10_leave : Mth := (yX10_leave, cX10_leave, 2, none, 1, 21)
theorem kX10_leave : MOK mX10_leave := ⟨by decide +kernel, tb5 (List.mem_of_getElem? (i := 19) rfl), tb1 (List.mem_of_getElem? (i := 4) rfl), by decide +kernel, by decide +kernel⟩
theorem oX10_leave : Cond.instanceMethod mX10_leave.1 ∈ lw_tbl := tb5 (List.mem_of_getElem? (i := 18) rfl)
theorem vX10_leave : VOK mX10_leave.1 := ⟨oX10_leave, List.mem_append_left _ (List.mem_of_getElem? (i := 22) rfl)⟩
def mX10_readTag : Mth := (yX10_readTag, cX10_readTag, 6, (some .boolean), 8, 179)
theorem kX10_readTag : MOK mX10_readTag := ⟨by decide +kernel, tb4 (List.mem_of_getElem? (i := 223) rfl), tb1 (List.mem_of_getElem? (i := 4) rfl), by decide +kernel, by decide +kernel⟩
theorem oX10_readTag : Cond.instanceMethod mX10_readTag.1 ∈ lw_tbl := tb4 (List.mem_of_getElem? (i := 222) rfl)
theorem vX10_readTag : VOK mX10_readTag.1 := ⟨oX10_readTag, List.mem_append_left _ (List.mem_of_getElem? (i := 18) rfl)⟩
def mX10_readEndTag : Mth := (yX10_readEndTag, cX10_readEndTag, 2, (some .boolean), 6, 129)
theorem kX10_readEndTag : MOK mX10_readEndTag := ⟨by decide +kernel, tb5 (List.mem_of_getElem? (i := 28) rfl), tb1 (List.mem_of_getElem? (i := 4) rfl), by decide +kernel, by decide +kernel⟩
theorem oX10_readEndTag : Cond.instanceMethod mX10_readEndTag.1 ∈ lw_tbl := tb5 (List.mem_of_getElem? (i := 27) rfl)
theorem vX10_readEndTag : VOK mX10_readEndTag.1 := ⟨oX10_readEndTag, List.mem_append_left _ (List.mem_of_getElem? (i := 23) rfl)⟩
def mX3_addTextByte : Mth := (yX3_addTextByte, cX3_addTextByte, 2, (some .boolean), 1, 20)
theorem kX3_addTextByte : MOK mX3_addTextByte := ⟨by decide +kernel, tb5 (List.mem_of_getElem? (i := 41) rfl), tb1 (List.mem_of_getElem? (i := 9) rfl), by decide +kernel, by decide +kernel⟩
theorem oX3_addTextByte : Cond.instanceMethod mX3_addTextByte.1 ∈ lw_tbl := tb5 (List.mem_of_getElem? (i := 39) rfl)
theorem vX3_addTextByte : VOK mX3_addTextByte.1 := ⟨oX3_addTextByte, tb5 (List.mem_of_getElem? (i := 40) rfl)⟩
def mX10_readText : Mth := (yX10_readText, cX10_readText, 7, (some .boolean), 6, 129)
theorem kX10_readText : MOK mX10_readText := ⟨by decide +kernel, tb5 (List.mem_of_getElem? (i := 35) rfl), tb1 (List.mem_of_getElem? (i := 4) rfl), by decide +kernel, by decide +kernel⟩
theorem oX10_readText : Cond.instanceMethod mX10_readText.1 ∈ lw_tbl := tb5 (List.mem_of_getElem? (i := 34) rfl)
theorem vX10_readText : VOK mX10_readText.1 := ⟨oX10_readText, List.mem_append_left _ (List.mem_of_getElem? (i := 24) rfl)⟩
def mX10_readTree : Mth := (yX10_readTree, cX10_readTree, 4, (some .boolean), 9, 204)
theorem kX10_readTree : MOK mX10_readTree := ⟨by decide +kernel, tb4 (List.mem_of_getElem? (i := 205) rfl), tb1 (List.mem_of_getElem? (i := 4) rfl), by decide +kernel, by decide +kernel⟩
theorem oX10_readTree : Cond.instanceMethod mX10_readTree.1 ∈ lw_tbl := tb4 (List.mem_of_getElem? (i := 203) rfl)
theorem vX10_readTree : VOK mX10_readTree.1 := ⟨oX10_readTree, tb4 (List.mem_of_getElem? (i := 204) rfl)⟩
def mX1_needEnd : Mth := (yX1_needEnd, cX1_needEnd, 1, (some .boolean), 1, 22)
theorem kX1_needEnd : MOK mX1_needEnd := ⟨by decide +kernel, tb5 (List.mem_of_getElem? (i := 46) rfl), tb1 (List.mem_of_getElem? (i := 2) rfl), by decide +kernel, by decide +kernel⟩
theorem oX1_needEnd : Cond.instanceMethod mX1_needEnd.1 ∈ lw_tbl := tb5 (List.mem_of_getElem? (i := 44) rfl)
theorem vX1_needEnd : VOK mX1_needEnd.1 := ⟨oX1_needEnd, tb5 (List.mem_of_getElem? (i := 45) rfl)⟩
def mX4_hasEarlierId : Mth := (yX4_hasEarlierId, cX4_hasEarlierId, 5, (some .boolean), 2, 42)
theorem kX4_hasEarlierId : MOK mX4_hasEarlierId := ⟨by decide +kernel, tb5 (List.mem_of_getElem? (i := 63) rfl), tb1 (List.mem_of_getElem? (i := 5) rfl), by decide +kernel, by decide +kernel⟩
theorem oX4_hasEarlierId : Cond.instanceMethod mX4_hasEarlierId.1 ∈ lw_tbl := tb5 (List.mem_of_getElem? (i := 62) rfl)
theorem vX4_hasEarlierId : VOK mX4_hasEarlierId.1 := ⟨oX4_hasEarlierId, List.mem_append_left _ (List.mem_of_getElem? (i := 27) rfl)⟩
def mX4_report : Mth := (yX4_report, cX4_report, 3, none, 0, 0)
theorem kX4_report : MOK mX4_report := ⟨by decide +kernel, tb5 (List.mem_of_getElem? (i := 68) rfl), tb1 (List.mem_of_getElem? (i := 5) rfl), by decide +kernel, by decide +kernel⟩
theorem oX4_report : Cond.instanceMethod mX4_report.1 ∈ lw_tbl := tb5 (List.mem_of_getElem? (i := 67) rfl)
theorem vX4_report : VOK mX4_report.1 := ⟨oX4_report, List.mem_append_left _ (List.mem_of_getElem? (i := 28) rfl)⟩
def mX4_isName : Mth := (yX4_isName, cX4_isName, 5, (some .boolean), 1, 20)
theorem kX4_isName : MOK mX4_isName := ⟨by decide +kernel, tb5 (List.mem_of_getElem? (i := 76) rfl), tb1 (List.mem_of_getElem? (i := 5) rfl), by decide +kernel, by decide +kernel⟩
theorem oX4_isName : Cond.instanceMethod mX4_isName.1 ∈ lw_tbl := tb5 (List.mem_of_getElem? (i := 75) rfl)
theorem vX4_isName : VOK mX4_isName.1 := ⟨oX4_isName, List.mem_append_left _ (List.mem_of_getElem? (i := 30) rfl)⟩
def mX4_isToken : Mth := (yX4_isToken, cX4_isToken, 9, (some .boolean), 0, 0)
theorem kX4_isToken : MOK mX4_isToken := ⟨by decide +kernel, tb5 (List.mem_of_getElem? (i := 82) rfl), tb1 (List.mem_of_getElem? (i := 5) rfl), by decide +kernel, by decide +kernel⟩
theorem oX4_isToken : Cond.instanceMethod mX4_isToken.1 ∈ lw_tbl := tb5 (List.mem_of_getElem? (i := 81) rfl)
theorem vX4_isToken : VOK mX4_isToken.1 := ⟨oX4_isToken, List.mem_append_left _ (List.mem_of_getElem? (i := 31) rfl)⟩
def mX4_isOfType : Mth := (yX4_isOfType, cX4_isOfType, 5, (some .boolean), 2, 44)
theorem kX4_isOfType : MOK mX4_isOfType := ⟨by decide +kernel, tb5 (List.mem_of_getElem? (i := 72) rfl), tb1 (List.mem_of_getElem? (i := 5) rfl), by decide +kernel, by decide +kernel⟩
theorem oX4_isOfType : Cond.instanceMethod mX4_isOfType.1 ∈ lw_tbl := tb5 (List.mem_of_getElem? (i := 71) rfl)
theorem vX4_isOfType : VOK mX4_isOfType.1 := ⟨oX4_isOfType, List.mem_append_left _ (List.mem_of_getElem? (i := 29) rfl)⟩
def mX4_judgeRule : Mth := (yX4_judgeRule, cX4_judgeRule, 4, none, 3, 68)
theorem kX4_judgeRule : MOK mX4_judgeRule := ⟨by decide +kernel, tb5 (List.mem_of_getElem? (i := 58) rfl), tb1 (List.mem_of_getElem? (i := 5) rfl), by decide +kernel, by decide +kernel⟩
theorem oX4_judgeRule : Cond.instanceMethod mX4_judgeRule.1 ∈ lw_tbl := tb5 (List.mem_of_getElem? (i := 57) rfl)
theorem vX4_judgeRule : VOK mX4_judgeRule.1 := ⟨oX4_judgeRule, List.mem_append_left _ (List.mem_of_getElem? (i := 26) rfl)⟩
def mX5_specOf : Mth := (yX5_specOf, cX5_specOf, 2, (some .int), 1, 21)
theorem kX5_specOf : MOK mX5_specOf := ⟨by decide +kernel, tb5 (List.mem_of_getElem? (i := 90) rfl), tb1 (List.mem_of_getElem? (i := 10) rfl), by decide +kernel, by decide +kernel⟩
theorem oX5_specOf : Cond.instanceMethod mX5_specOf.1 ∈ lw_tbl := tb5 (List.mem_of_getElem? (i := 88) rfl)
theorem vX5_specOf : VOK mX5_specOf.1 := ⟨oX5_specOf, tb5 (List.mem_of_getElem? (i := 89) rfl)⟩
def mX9_repeats : Mth := (yX9_repeats, cX9_repeats, 5, (some .boolean), 0, 0)
theorem kX9_repeats : MOK mX9_repeats := ⟨by decide +kernel, tb5 (List.mem_of_getElem? (i := 98) rfl), tb1 (List.mem_of_getElem? (i := 12) rfl), by decide +kernel, by decide +kernel⟩
theorem oX9_repeats : Cond.instanceMethod mX9_repeats.1 ∈ lw_tbl := tb5 (List.mem_of_getElem? (i := 96) rfl)
theorem vX9_repeats : VOK mX9_repeats.1 := ⟨oX9_repeats, tb5 (List.mem_of_getElem? (i := 97) rfl)⟩
def mX9_isDeterministic : Mth := (yX9_isDeterministic, cX9_isDeterministic, 3, (some .boolean), 1, 24)
theorem kX9_isDeterministic : MOK mX9_isDeterministic := ⟨by decide +kernel, tb5 (List.mem_of_getElem? (i := 94) rfl), tb1 (List.mem_of_getElem? (i := 12) rfl), by decide +kernel, by decide +kernel⟩
theorem oX9_isDeterministic : Cond.instanceMethod mX9_isDeterministic.1 ∈ lw_tbl := tb5 (List.mem_of_getElem? (i := 92) rfl)
theorem vX9_isDeterministic : VOK mX9_isDeterministic.1 := ⟨oX9_isDeterministic, tb5 (List.mem_of_getElem? (i := 93) rfl)⟩
def mX4_judgeSpec : Mth := (yX4_judgeSpec, cX4_judgeSpec, 4, none, 2, 46)
theorem kX4_judgeSpec : MOK mX4_judgeSpec := ⟨by decide +kernel, tb5 (List.mem_of_getElem? (i := 86) rfl), tb1 (List.mem_of_getElem? (i := 5) rfl), by decide +kernel, by decide +kernel⟩
theorem oX4_judgeSpec : Cond.instanceMethod mX4_judgeSpec.1 ∈ lw_tbl := tb5 (List.mem_of_getElem? (i := 85) rfl)
theorem vX4_judgeSpec : VOK mX4_judgeSpec.1 := ⟨oX4_judgeSpec, List.mem_append_left _ (List.mem_of_getElem? (i := 32) rfl)⟩
def mX4_judgeDeclarations : Mth := (yX4_judgeDeclarations, cX4_judgeDeclarations, 4, none, 4, 91)
theorem kX4_judgeDeclarations : MOK mX4_judgeDeclarations := ⟨by decide +kernel, tb5 (List.mem_of_getElem? (i := 54) rfl), tb1 (List.mem_of_getElem? (i := 5) rfl), by decide +kernel, by decide +kernel⟩
theorem oX4_judgeDeclarations : Cond.instanceMethod mX4_judgeDeclarations.1 ∈ lw_tbl := tb5 (List.mem_of_getElem? (i := 53) rfl)
theorem vX4_judgeDeclarations : VOK mX4_judgeDeclarations.1 := ⟨oX4_judgeDeclarations, List.mem_append_left _ (List.mem_of_getElem? (i := 25) rfl)⟩
def mX3_firstIn : Mth := (yX3_firstIn, cX3_firstIn, 2, (some .int), 0, 0)
theorem kX3_firstIn : MOK mX3_firstIn := ⟨by decide +kernel, tb5 (List.mem_of_getElem? (i := 116) rfl), tb1 (List.mem_of_getElem? (i := 9) rfl), by decide +kernel, by decide +kernel⟩
theorem oX3_firstIn : Cond.instanceMethod mX3_firstIn.1 ∈ lw_tbl := tb5 (List.mem_of_getElem? (i := 114) rfl)
theorem vX3_firstIn : VOK mX3_firstIn.1 := ⟨oX3_firstIn, tb5 (List.mem_of_getElem? (i := 115) rfl)⟩
def mX9_behind : Mth := (yX9_behind, cX9_behind, 7, (some .long), 0, 0)
theorem kX9_behind : MOK mX9_behind := ⟨by decide +kernel, tb5 (List.mem_of_getElem? (i := 121) rfl), tb1 (List.mem_of_getElem? (i := 12) rfl), by decide +kernel, by decide +kernel⟩
theorem oX9_behind : Cond.instanceMethod mX9_behind.1 ∈ lw_tbl := tb5 (List.mem_of_getElem? (i := 119) rfl)
theorem vX9_behind : VOK mX9_behind.1 := ⟨oX9_behind, tb5 (List.mem_of_getElem? (i := 120) rfl)⟩
def mX4_fitsGroup : Mth := (yX4_fitsGroup, cX4_fitsGroup, 11, (some .boolean), 1, 27)
theorem kX4_fitsGroup : MOK mX4_fitsGroup := ⟨by decide +kernel, tb5 (List.mem_of_getElem? (i := 112) rfl), tb1 (List.mem_of_getElem? (i := 5) rfl), by decide +kernel, by decide +kernel⟩
theorem oX4_fitsGroup : Cond.instanceMethod mX4_fitsGroup.1 ∈ lw_tbl := tb5 (List.mem_of_getElem? (i := 111) rfl)
theorem vX4_fitsGroup : VOK mX4_fitsGroup.1 := ⟨oX4_fitsGroup, List.mem_append_left _ (List.mem_of_getElem? (i := 35) rfl)⟩
def mX4_fitsLoosely : Mth := (yX4_fitsLoosely, cX4_fitsLoosely, 8, (some .boolean), 2, 42)
theorem kX4_fitsLoosely : MOK mX4_fitsLoosely := ⟨by decide +kernel, tb5 (List.mem_of_getElem? (i := 126) rfl), tb1 (List.mem_of_getElem? (i := 5) rfl), by decide +kernel, by decide +kernel⟩
theorem oX4_fitsLoosely : Cond.instanceMethod mX4_fitsLoosely.1 ∈ lw_tbl := tb5 (List.mem_of_getElem? (i := 125) rfl)
theorem vX4_fitsLoosely : VOK mX4_fitsLoosely.1 := ⟨oX4_fitsLoosely, List.mem_append_left _ (List.mem_of_getElem? (i := 36) rfl)⟩
def mX4_fits : Mth := (yX4_fits, cX4_fits, 4, (some .boolean), 3, 69)
theorem kX4_fits : MOK mX4_fits := ⟨by decide +kernel, tb5 (List.mem_of_getElem? (i := 108) rfl), tb1 (List.mem_of_getElem? (i := 5) rfl), by decide +kernel, by decide +kernel⟩
theorem oX4_fits : Cond.instanceMethod mX4_fits.1 ∈ lw_tbl := tb5 (List.mem_of_getElem? (i := 107) rfl)
theorem vX4_fits : VOK mX4_fits.1 := ⟨oX4_fits, List.mem_append_left _ (List.mem_of_getElem? (i := 34) rfl)⟩
def mX3_hasBytes : Mth := (yX3_hasBytes, cX3_hasBytes, 7, (some .boolean), 0, 0)
theorem kX3_hasBytes : MOK mX3_hasBytes := ⟨by decide +kernel, tb5 (List.mem_of_getElem? (i := 143) rfl), tb1 (List.mem_of_getElem? (i := 9) rfl), by decide +kernel, by decide +kernel⟩
theorem oX3_hasBytes : Cond.instanceMethod mX3_hasBytes.1 ∈ lw_tbl := tb5 (List.mem_of_getElem? (i := 141) rfl)
theorem vX3_hasBytes : VOK mX3_hasBytes.1 := ⟨oX3_hasBytes, tb5 (List.mem_of_getElem? (i := 142) rfl)⟩
def mX4_sameValue : Mth := (yX4_sameValue, cX4_sameValue, 5, (some .boolean), 1, 26)
theorem kX4_sameValue : MOK mX4_sameValue := ⟨by decide +kernel, tb5 (List.mem_of_getElem? (i := 139) rfl), tb1 (List.mem_of_getElem? (i := 5) rfl), by decide +kernel, by decide +kernel⟩
theorem oX4_sameValue : Cond.instanceMethod mX4_sameValue.1 ∈ lw_tbl := tb5 (List.mem_of_getElem? (i := 138) rfl)
theorem vX4_sameValue : VOK mX4_sameValue.1 := ⟨oX4_sameValue, List.mem_append_left _ (List.mem_of_getElem? (i := 39) rfl)⟩
def mX4_isAsFixed : Mth := (yX4_isAsFixed, cX4_isAsFixed, 5, (some .boolean), 2, 50)
theorem kX4_isAsFixed : MOK mX4_isAsFixed := ⟨by decide +kernel, tb5 (List.mem_of_getElem? (i := 135) rfl), tb1 (List.mem_of_getElem? (i := 5) rfl), by decide +kernel, by decide +kernel⟩
theorem oX4_isAsFixed : Cond.instanceMethod mX4_isAsFixed.1 ∈ lw_tbl := tb5 (List.mem_of_getElem? (i := 134) rfl)
theorem vX4_isAsFixed : VOK mX4_isAsFixed.1 := ⟨oX4_isAsFixed, List.mem_append_left _ (List.mem_of_getElem? (i := 38) rfl)⟩
def mX4_isTaken : Mth := (yX4_isTaken, cX4_isTaken, 5, (some .boolean), 2, 50)
theorem kX4_isTaken : MOK mX4_isTaken := ⟨by decide +kernel, tb5 (List.mem_of_getElem? (i := 147) rfl), tb1 (List.mem_of_getElem? (i := 5) rfl), by decide +kernel, by decide +kernel⟩
theorem oX4_isTaken : Cond.instanceMethod mX4_isTaken.1 ∈ lw_tbl := tb5 (List.mem_of_getElem? (i := 146) rfl)
theorem vX4_isTaken : VOK mX4_isTaken.1 := ⟨oX4_isTaken, List.mem_append_left _ (List.mem_of_getElem? (i := 40) rfl)⟩
def mX4_judgeAttribute : Mth := (yX4_judgeAttribute, cX4_judgeAttribute, 5, none, 3, 74)
theorem kX4_judgeAttribute : MOK mX4_judgeAttribute := ⟨by decide +kernel, tb5 (List.mem_of_getElem? (i := 131) rfl), tb1 (List.mem_of_getElem? (i := 5) rfl), by decide +kernel, by decide +kernel⟩
theorem oX4_judgeAttribute : Cond.instanceMethod mX4_judgeAttribute.1 ∈ lw_tbl := tb5 (List.mem_of_getElem? (i := 130) rfl)
theorem vX4_judgeAttribute : VOK mX4_judgeAttribute.1 := ⟨oX4_judgeAttribute, List.mem_append_left _ (List.mem_of_getElem? (i := 37) rfl)⟩
def mX4_judgeElement : Mth := (yX4_judgeElement, cX4_judgeElement, 8, none, 4, 98)
theorem kX4_judgeElement : MOK mX4_judgeElement := ⟨by decide +kernel, tb5 (List.mem_of_getElem? (i := 104) rfl), tb1 (List.mem_of_getElem? (i := 5) rfl), by decide +kernel, by decide +kernel⟩
theorem oX4_judgeElement : Cond.instanceMethod mX4_judgeElement.1 ∈ lw_tbl := tb5 (List.mem_of_getElem? (i := 103) rfl)
theorem vX4_judgeElement : VOK mX4_judgeElement.1 := ⟨oX4_judgeElement, List.mem_append_left _ (List.mem_of_getElem? (i := 33) rfl)⟩
def mX4_judge : Mth := (yX4_judge, cX4_judge, 3, none, 5, 125)
theorem kX4_judge : MOK mX4_judge := ⟨by decide +kernel, tb5 (List.mem_of_getElem? (i := 50) rfl), tb1 (List.mem_of_getElem? (i := 5) rfl), by decide +kernel, by decide +kernel⟩
theorem oX4_judge : Cond.instanceMethod mX4_judge.1 ∈ lw_tbl := tb5 (List.mem_of_getElem? (i := 48) rfl)
theorem vX4_judge : VOK mX4_judge.1 := ⟨oX4_judge, tb5 (List.mem_of_getElem? (i := 49) rfl)⟩
def mX8_forget : Mth := (yX8_forget, cX8_forget, 1, none, 0, 0)
theorem kX8_forget : MOK mX8_forget := ⟨by decide +kernel, tb5 (List.mem_of_getElem? (i := 152) rfl), tb1 (List.mem_of_getElem? (i := 7) rfl), by decide +kernel, by decide +kernel⟩
theorem oX8_forget : Cond.instanceMethod mX8_forget.1 ∈ lw_tbl := tb5 (List.mem_of_getElem? (i := 150) rfl)
theorem vX8_forget : VOK mX8_forget.1 := ⟨oX8_forget, tb5 (List.mem_of_getElem? (i := 151) rfl)⟩
def mX0_forget : Mth := (yX0_forget, cX0_forget, 1, none, 0, 0)
theorem kX0_forget : MOK mX0_forget := ⟨by decide +kernel, tb5 (List.mem_of_getElem? (i := 156) rfl), tb1 (List.mem_of_getElem? (i := 8) rfl), by decide +kernel, by decide +kernel⟩
theorem oX0_forget : Cond.instanceMethod mX0_forget.1 ∈ lw_tbl := tb5 (List.mem_of_getElem? (i := 154) rfl)
theorem vX0_forget : VOK mX0_forget.1 := ⟨oX0_forget, tb5 (List.mem_of_getElem? (i := 155) rfl)⟩
def mX11_read : Mth := (yX11_read, cX11_read, 4, (some .int), 10, 230)
theorem kX11_read : MOK mX11_read := ⟨by decide +kernel, tb3 (List.mem_of_getElem? (i := 138) rfl), tb1 (List.mem_of_getElem? (i := 1) rfl), by decide +kernel, by decide +kernel⟩
theorem oX11_read : Cond.instanceMethod mX11_read.1 ∈ lw_tbl := tb3 (List.mem_of_getElem? (i := 136) rfl)
theorem vX11_read : VOK mX11_read.1 := ⟨oX11_read, tb3 (List.mem_of_getElem? (i := 137) rfl)⟩
def mX12_in : Mth := (yX12_in, cX12_in, 6, (some .boolean), 0, 0)
theorem kX12_in : MOK mX12_in := ⟨by decide +kernel, tb7 (List.mem_of_getElem? (i := 225) rfl), tb1 (List.mem_of_getElem? (i := 14) rfl), by decide +kernel, by decide +kernel⟩
theorem vX12_in : Cond.static mX12_in.1 ∈ lw_tbl := tb7 (List.mem_of_getElem? (i := 224) rfl)
def mX12_begin : Mth := (yX12_begin, cX12_begin, 3, none, 0, 0)
theorem kX12_begin : MOK mX12_begin := ⟨by decide +kernel, tb7 (List.mem_of_getElem? (i := 229) rfl), tb1 (List.mem_of_getElem? (i := 14) rfl), by decide +kernel, by decide +kernel⟩
theorem oX12_begin : Cond.instanceMethod mX12_begin.1 ∈ lw_tbl := tb7 (List.mem_of_getElem? (i := 228) rfl)
theorem vX12_begin : VOK mX12_begin.1 := ⟨oX12_begin, List.mem_append_left _ (List.mem_of_getElem? (i := 62) rfl)⟩
def mX12_isGood : Mth := (yX12_isGood, cX12_isGood, 1, (some .boolean), 0, 0)
theorem kX12_isGood : MOK mX12_isGood := ⟨by decide +kernel, tb7 (List.mem_of_getElem? (i := 237) rfl), tb1 (List.mem_of_getElem? (i := 14) rfl), by decide +kernel, by decide +kernel⟩
theorem oX12_isGood : Cond.instanceMethod mX12_isGood.1 ∈ lw_tbl := tb7 (List.mem_of_getElem? (i := 236) rfl)
theorem vX12_isGood : VOK mX12_isGood.1 := ⟨oX12_isGood, List.mem_append_left _ (List.mem_of_getElem? (i := 64) rfl)⟩
def mX12_fail : Mth := (yX12_fail, cX12_fail, 3, none, 0, 0)
theorem kX12_fail : MOK mX12_fail := ⟨by decide +kernel, tb8 (List.mem_of_getElem? (i := 1) rfl), tb1 (List.mem_of_getElem? (i := 14) rfl), by decide +kernel, by decide +kernel⟩
theorem oX12_fail : Cond.instanceMethod mX12_fail.1 ∈ lw_tbl := tb8 (List.mem_of_getElem? (i := 0) rfl)
theorem vX12_fail : VOK mX12_fail.1 := ⟨oX12_fail, List.mem_append_left _ (List.mem_of_getElem? (i := 65) rfl)⟩
def mX12_newNode : Mth := (yX12_newNode, cX12_newNode, 4, (some .int), 1, 22)
theorem kX12_newNode : MOK mX12_newNode := ⟨by decide +kernel, tb7 (List.mem_of_getElem? (i := 233) rfl), tb1 (List.mem_of_getElem? (i := 14) rfl), by decide +kernel, by decide +kernel⟩
theorem oX12_newNode : Cond.instanceMethod mX12_newNode.1 ∈ lw_tbl := tb7 (List.mem_of_getElem? (i := 232) rfl)
theorem vX12_newNode : VOK mX12_newNode.1 := ⟨oX12_newNode, List.mem_append_left _ (List.mem_of_getElem? (i := 63) rfl)⟩
def mX12_octet : Mth := (yX12_octet, cX12_octet, 2, (some .int), 0, 0)
theorem kX12_octet : MOK mX12_octet := ⟨by decide +kernel, tb8 (List.mem_of_getElem? (i := 13) rfl), tb1 (List.mem_of_getElem? (i := 14) rfl), by decide +kernel, by decide +kernel⟩
theorem oX12_octet : Cond.instanceMethod mX12_octet.1 ∈ lw_tbl := tb8 (List.mem_of_getElem? (i := 12) rfl)
theorem vX12_octet : VOK mX12_octet.1 := ⟨oX12_octet, List.mem_append_left _ (List.mem_of_getElem? (i := 68) rfl)⟩
def mX12_isS : Mth := (yX12_isS, cX12_isS, 1, (some .boolean), 0, 0)
theorem kX12_isS : MOK mX12_isS := ⟨by decide +kernel, tb8 (List.mem_of_getElem? (i := 16) rfl), tb1 (List.mem_of_getElem? (i := 14) rfl), by decide +kernel, by decide +kernel⟩
theorem vX12_isS : Cond.static mX12_isS.1 ∈ lw_tbl := tb8 (List.mem_of_getElem? (i := 15) rfl)
def mX12_maybeS : Mth := (yX12_maybeS, cX12_maybeS, 1, none, 1, 21)
theorem kX12_maybeS : MOK mX12_maybeS := ⟨by decide +kernel, tb8 (List.mem_of_getElem? (i := 9) rfl), tb1 (List.mem_of_getElem? (i := 14) rfl), by decide +kernel, by decide +kernel⟩
theorem oX12_maybeS : Cond.instanceMethod mX12_maybeS.1 ∈ lw_tbl := tb8 (List.mem_of_getElem? (i := 8) rfl)
theorem vX12_maybeS : VOK mX12_maybeS.1 := ⟨oX12_maybeS, List.mem_append_left _ (List.mem_of_getElem? (i := 67) rfl)⟩
def mX12_stands : Mth := (yX12_stands, cX12_stands, 6, (some .boolean), 1, 21)
theorem kX12_stands : MOK mX12_stands := ⟨by decide +kernel, tb8 (List.mem_of_getElem? (i := 21) rfl), tb1 (List.mem_of_getElem? (i := 14) rfl), by decide +kernel, by decide +kernel⟩
theorem oX12_stands : Cond.instanceMethod mX12_stands.1 ∈ lw_tbl := tb8 (List.mem_of_getElem? (i := 20) rfl)
theorem vX12_stands : VOK mX12_stands.1 := ⟨oX12_stands, List.mem_append_left _ (List.mem_of_getElem? (i := 69) rfl)⟩
def mX12_isChar : Mth := (yX12_isChar, cX12_isChar, 1, (some .boolean), 1, 25)
theorem kX12_isChar : MOK mX12_isChar := ⟨by decide +kernel, tb8 (List.mem_of_getElem? (i := 30) rfl), tb1 (List.mem_of_getElem? (i := 14) rfl), by decide +kernel, by decide +kernel⟩
theorem vX12_isChar : Cond.static mX12_isChar.1 ∈ lw_tbl := tb8 (List.mem_of_getElem? (i := 29) rfl)
def mX12_passes : Mth := (yX12_passes, cX12_passes, 2, (some .boolean), 1, 22)
theorem kX12_passes : MOK mX12_passes := ⟨by decide +kernel, tb8 (List.mem_of_getElem? (i := 36) rfl), tb1 (List.mem_of_getElem? (i := 14) rfl), by decide +kernel, by decide +kernel⟩
theorem oX12_passes : Cond.instanceMethod mX12_passes.1 ∈ lw_tbl := tb8 (List.mem_of_getElem? (i := 35) rfl)
theorem vX12_passes : VOK mX12_passes.1 := ⟨oX12_passes, List.mem_append_left _ (List.mem_of_getElem? (i := 71) rfl)⟩
def mX12_comment : Mth := (yX12_comment, cX12_comment, 2, none, 2, 46)
theorem kX12_comment : MOK mX12_comment := ⟨by decide +kernel, tb8 (List.mem_of_getElem? (i := 26) rfl), tb1 (List.mem_of_getElem? (i := 14) rfl), by decide +kernel, by decide +kernel⟩
theorem oX12_comment : Cond.instanceMethod mX12_comment.1 ∈ lw_tbl := tb8 (List.mem_of_getElem? (i := 25) rfl)
theorem vX12_comment : VOK mX12_comment.1 := ⟨oX12_comment, List.mem_append_left _ (List.mem_of_getElem? (i := 70) rfl)⟩
def mX12_misc : Mth := (yX12_misc, cX12_misc, 1, none, 3, 67)
theorem kX12_misc : MOK mX12_misc := ⟨by decide +kernel, tb8 (List.mem_of_getElem? (i := 5) rfl), tb1 (List.mem_of_getElem? (i := 14) rfl), by decide +kernel, by decide +kernel⟩
theorem oX12_misc : Cond.instanceMethod mX12_misc.1 ∈ lw_tbl := tb8 (List.mem_of_getElem? (i := 4) rfl)
theorem vX12_misc : VOK mX12_misc.1 := ⟨oX12_misc, List.mem_append_left _ (List.mem_of_getElem? (i := 66) rfl)⟩
def mX12_stands2 : Mth := (yX12_stands2, cX12_stands2, 7, (some .boolean), 2, 46)
theorem kX12_stands2 : MOK mX12_stands2 := ⟨by decide +kernel, tb8 (List.mem_of_getElem? (i := 42) rfl), tb1 (List.mem_of_getElem? (i := 14) rfl), by decide +kernel, by decide +kernel⟩
theorem oX12_stands2 : Cond.instanceMethod mX12_stands2.1 ∈ lw_tbl := tb8 (List.mem_of_getElem? (i := 41) rfl)
theorem vX12_stands2 : VOK mX12_stands2.1 := ⟨oX12_stands2, List.mem_append_left _ (List.mem_of_getElem? (i := 72) rfl)⟩
def mX12_mustS : Mth := (yX12_mustS, cX12_mustS, 1, none, 2, 41)
theorem kX12_mustS : MOK mX12_mustS := ⟨by decide +kernel, tb8 (List.mem_of_getElem? (i := 50) rfl), tb1 (List.mem_of_getElem? (i := 14) rfl), by decide +kernel, by decide +kernel⟩
theorem oX12_mustS : Cond.instanceMethod mX12_mustS.1 ∈ lw_tbl := tb8 (List.mem_of_getElem? (i := 49) rfl)
theorem vX12_mustS : VOK mX12_mustS.1 := ⟨oX12_mustS, List.mem_append_left _ (List.mem_of_getElem? (i := 74) rfl)⟩
def mX12_isFirst : Mth := (yX12_isFirst, cX12_isFirst, 1, (some .boolean), 1, 25)
theorem kX12_isFirst : MOK mX12_isFirst := ⟨by decide +kernel, tb8 (List.mem_of_getElem? (i := 57) rfl), tb1 (List.mem_of_getElem? (i := 14) rfl), by decide +kernel, by decide +kernel⟩
theorem vX12_isFirst : Cond.static mX12_isFirst.1 ∈ lw_tbl := tb8 (List.mem_of_getElem? (i := 56) rfl)
def mX12_isNext : Mth := (yX12_isNext, cX12_isNext, 1, (some .boolean), 2, 45)
theorem kX12_isNext : MOK mX12_isNext := ⟨by decide +kernel, tb8 (List.mem_of_getElem? (i := 64) rfl), tb1 (List.mem_of_getElem? (i := 14) rfl), by decide +kernel, by decide +kernel⟩
theorem vX12_isNext : Cond.static mX12_isNext.1 ∈ lw_tbl := tb8 (List.mem_of_getElem? (i := 63) rfl)
def mX12_takeName : Mth := (yX12_takeName, cX12_takeName, 2, (some .int), 3, 65)
theorem kX12_takeName : MOK mX12_takeName := ⟨by decide +kernel, tb8 (List.mem_of_getElem? (i := 54) rfl), tb1 (List.mem_of_getElem? (i := 14) rfl), by decide +kernel, by decide +kernel⟩
theorem oX12_takeName : Cond.instanceMethod mX12_takeName.1 ∈ lw_tbl := tb8 (List.mem_of_getElem? (i := 53) rfl)
theorem vX12_takeName : VOK mX12_takeName.1 := ⟨oX12_takeName, List.mem_append_left _ (List.mem_of_getElem? (i := 75) rfl)⟩
def mX12_specName : Mth := (yX12_specName, cX12_specName, 4, (some .int), 4, 86)
theorem kX12_specName : MOK mX12_specName := ⟨by decide +kernel, tb8 (List.mem_of_getElem? (i := 83) rfl), tb1 (List.mem_of_getElem? (i := 14) rfl), by decide +kernel, by decide +kernel⟩
theorem oX12_specName : Cond.instanceMethod mX12_specName.1 ∈ lw_tbl := tb8 (List.mem_of_getElem? (i := 82) rfl)
theorem vX12_specName : VOK mX12_specName.1 := ⟨oX12_specName, List.mem_append_left _ (List.mem_of_getElem? (i := 78) rfl)⟩
def mX12_mixed : Mth := (yX12_mixed, cX12_mixed, 3, none, 5, 109)
theorem kX12_mixed : MOK mX12_mixed := ⟨by decide +kernel, tb8 (List.mem_of_getElem? (i := 79) rfl), tb1 (List.mem_of_getElem? (i := 14) rfl), by decide +kernel, by decide +kernel⟩
theorem oX12_mixed : Cond.instanceMethod mX12_mixed.1 ∈ lw_tbl := tb8 (List.mem_of_getElem? (i := 78) rfl)
theorem vX12_mixed : VOK mX12_mixed.1 := ⟨oX12_mixed, List.mem_append_left _ (List.mem_of_getElem? (i := 77) rfl)⟩
def mX12_openGroup : Mth := (yX12_openGroup, cX12_openGroup, 2, none, 0, 0)
theorem kX12_openGroup : MOK mX12_openGroup := ⟨by decide +kernel, tb8 (List.mem_of_getElem? (i := 91) rfl), tb1 (List.mem_of_getElem? (i := 14) rfl), by decide +kernel, by decide +kernel⟩
theorem oX12_openGroup : Cond.instanceMethod mX12_openGroup.1 ∈ lw_tbl := tb8 (List.mem_of_getElem? (i := 90) rfl)
theorem vX12_openGroup : VOK mX12_openGroup.1 := ⟨oX12_openGroup, List.mem_append_left _ (List.mem_of_getElem? (i := 80) rfl)⟩
def mX12_joinFollows : Mth := (yX12_joinFollows, cX12_joinFollows, 7, none, 0, 0)
theorem kX12_joinFollows : MOK mX12_joinFollows := ⟨by decide +kernel, tb8 (List.mem_of_getElem? (i := 99) rfl), tb1 (List.mem_of_getElem? (i := 14) rfl), by decide +kernel, by decide +kernel⟩
theorem oX12_joinFollows : Cond.instanceMethod mX12_joinFollows.1 ∈ lw_tbl := tb8 (List.mem_of_getElem? (i := 98) rfl)
theorem vX12_joinFollows : VOK mX12_joinFollows.1 := ⟨oX12_joinFollows, List.mem_append_left _ (List.mem_of_getElem? (i := 82) rfl)⟩
def mX12_mark : Mth := (yX12_mark, cX12_mark, 3, none, 1, 26)
theorem kX12_mark : MOK mX12_mark := ⟨by decide +kernel, tb8 (List.mem_of_getElem? (i := 95) rfl), tb1 (List.mem_of_getElem? (i := 14) rfl), by decide +kernel, by decide +kernel⟩
theorem oX12_mark : Cond.instanceMethod mX12_mark.1 ∈ lw_tbl := tb8 (List.mem_of_getElem? (i := 94) rfl)
theorem vX12_mark : VOK mX12_mark.1 := ⟨oX12_mark, List.mem_append_left _ (List.mem_of_getElem? (i := 81) rfl)⟩
def mX12_comes : Mth := (yX12_comes, cX12_comes, 3, none, 1, 26)
theorem kX12_comes : MOK mX12_comes := ⟨by decide +kernel, tb8 (List.mem_of_getElem? (i := 103) rfl), tb1 (List.mem_of_getElem? (i := 14) rfl), by decide +kernel, by decide +kernel⟩
theorem oX12_comes : Cond.instanceMethod mX12_comes.1 ∈ lw_tbl := tb8 (List.mem_of_getElem? (i := 102) rfl)
theorem vX12_comes : VOK mX12_comes.1 := ⟨oX12_comes, List.mem_append_left _ (List.mem_of_getElem? (i := 83) rfl)⟩
def mX12_group : Mth := (yX12_group, cX12_group, 5, none, 5, 109)
theorem kX12_group : MOK mX12_group := ⟨by decide +kernel, tb8 (List.mem_of_getElem? (i := 87) rfl), tb1 (List.mem_of_getElem? (i := 14) rfl), by decide +kernel, by decide +kernel⟩
theorem oX12_group : Cond.instanceMethod mX12_group.1 ∈ lw_tbl := tb8 (List.mem_of_getElem? (i := 86) rfl)
theorem vX12_group : VOK mX12_group.1 := ⟨oX12_group, List.mem_append_left _ (List.mem_of_getElem? (i := 79) rfl)⟩
def mX12_declaration : Mth := (yX12_declaration, cX12_declaration, 3, none, 6, 133)
theorem kX12_declaration : MOK mX12_declaration := ⟨by decide +kernel, tb8 (List.mem_of_getElem? (i := 72) rfl), tb1 (List.mem_of_getElem? (i := 14) rfl), by decide +kernel, by decide +kernel⟩
theorem oX12_declaration : Cond.instanceMethod mX12_declaration.1 ∈ lw_tbl := tb8 (List.mem_of_getElem? (i := 71) rfl)
theorem vX12_declaration : VOK mX12_declaration.1 := ⟨oX12_declaration, List.mem_append_left _ (List.mem_of_getElem? (i := 76) rfl)⟩
def mX12_isSame : Mth := (yX12_isSame, cX12_isSame, 7, (some .boolean), 0, 0)
theorem kX12_isSame : MOK mX12_isSame := ⟨by decide +kernel, tb8 (List.mem_of_getElem? (i := 120) rfl), tb1 (List.mem_of_getElem? (i := 14) rfl), by decide +kernel, by decide +kernel⟩
theorem oX12_isSame : Cond.instanceMethod mX12_isSame.1 ∈ lw_tbl := tb8 (List.mem_of_getElem? (i := 119) rfl)
theorem vX12_isSame : VOK mX12_isSame.1 := ⟨oX12_isSame, List.mem_append_left _ (List.mem_of_getElem? (i := 87) rfl)⟩
def mX12_hasRule : Mth := (yX12_hasRule, cX12_hasRule, 7, (some .boolean), 1, 26)
theorem kX12_hasRule : MOK mX12_hasRule := ⟨by decide +kernel, tb8 (List.mem_of_getElem? (i := 116) rfl), tb1 (List.mem_of_getElem? (i := 14) rfl), by decide +kernel, by decide +kernel⟩
theorem oX12_hasRule : Cond.instanceMethod mX12_hasRule.1 ∈ lw_tbl := tb8 (List.mem_of_getElem? (i := 115) rfl)
theorem vX12_hasRule : VOK mX12_hasRule.1 := ⟨oX12_hasRule, List.mem_append_left _ (List.mem_of_getElem? (i := 86) rfl)⟩
def mX12_tokens : Mth := (yX12_tokens, cX12_tokens, 5, none, 3, 65)
theorem kX12_tokens : MOK mX12_tokens := ⟨by decide +kernel, tb8 (List.mem_of_getElem? (i := 126) rfl), tb1 (List.mem_of_getElem? (i := 14) rfl), by decide +kernel, by decide +kernel⟩
theorem oX12_tokens : Cond.instanceMethod mX12_tokens.1 ∈ lw_tbl := tb8 (List.mem_of_getElem? (i := 125) rfl)
theorem vX12_tokens : VOK mX12_tokens.1 := ⟨oX12_tokens, List.mem_append_left _ (List.mem_of_getElem? (i := 88) rfl)⟩
def mX12_takePiece : Mth := (yX12_takePiece, cX12_takePiece, 5, (some .int), 2, 46)
theorem kX12_takePiece : MOK mX12_takePiece := ⟨by decide +kernel, tb8 (List.mem_of_getElem? (i := 142) rfl), tb1 (List.mem_of_getElem? (i := 14) rfl), by decide +kernel, by decide +kernel⟩
theorem oX12_takePiece : Cond.instanceMethod mX12_takePiece.1 ∈ lw_tbl := tb8 (List.mem_of_getElem? (i := 141) rfl)
theorem vX12_takePiece : VOK mX12_takePiece.1 := ⟨oX12_takePiece, List.mem_append_left _ (List.mem_of_getElem? (i := 91) rfl)⟩
def mX12_keep : Mth := (yX12_keep, cX12_keep, 3, none, 1, 22)
theorem kX12_keep : MOK mX12_keep := ⟨by decide +kernel, tb8 (List.mem_of_getElem? (i := 152) rfl), tb1 (List.mem_of_getElem? (i := 14) rfl), by decide +kernel, by decide +kernel⟩
theorem oX12_keep : Cond.instanceMethod mX12_keep.1 ∈ lw_tbl := tb8 (List.mem_of_getElem? (i := 151) rfl)
theorem vX12_keep : VOK mX12_keep.1 := ⟨oX12_keep, List.mem_append_left _ (List.mem_of_getElem? (i := 92) rfl)⟩
def mX12_value : Mth := (yX12_value, cX12_value, 5, (some .int), 3, 70)
theorem kX12_value : MOK mX12_value := ⟨by decide +kernel, tb8 (List.mem_of_getElem? (i := 138) rfl), tb1 (List.mem_of_getElem? (i := 14) rfl), by decide +kernel, by decide +kernel⟩
theorem oX12_value : Cond.instanceMethod mX12_value.1 ∈ lw_tbl := tb8 (List.mem_of_getElem? (i := 137) rfl)
theorem vX12_value : VOK mX12_value.1 := ⟨oX12_value, List.mem_append_left _ (List.mem_of_getElem? (i := 90) rfl)⟩
def mX12_defaults : Mth := (yX12_defaults, cX12_defaults, 2, none, 4, 94)
theorem kX12_defaults : MOK mX12_defaults := ⟨by decide +kernel, tb8 (List.mem_of_getElem? (i := 130) rfl), tb1 (List.mem_of_getElem? (i := 14) rfl), by decide +kernel, by decide +kernel⟩
theorem oX12_defaults : Cond.instanceMethod mX12_defaults.1 ∈ lw_tbl := tb8 (List.mem_of_getElem? (i := 129) rfl)
theorem vX12_defaults : VOK mX12_defaults.1 := ⟨oX12_defaults, List.mem_append_left _ (List.mem_of_getElem? (i := 89) rfl)⟩
def mX12_rule : Mth := (yX12_rule, cX12_rule, 7, none, 5, 115)
theorem kX12_rule : MOK mX12_rule := ⟨by decide +kernel, tb8 (List.mem_of_getElem? (i := 112) rfl), tb1 (List.mem_of_getElem? (i := 14) rfl), by decide +kernel, by decide +kernel⟩
theorem oX12_rule : Cond.instanceMethod mX12_rule.1 ∈ lw_tbl := tb8 (List.mem_of_getElem? (i := 111) rfl)
theorem vX12_rule : VOK mX12_rule.1 := ⟨oX12_rule, List.mem_append_left _ (List.mem_of_getElem? (i := 85) rfl)⟩
def mX12_attributeList : Mth := (yX12_attributeList, cX12_attributeList, 5, none, 6, 141)
theorem kX12_attributeList : MOK mX12_attributeList := ⟨by decide +kernel, tb8 (List.mem_of_getElem? (i := 108) rfl), tb1 (List.mem_of_getElem? (i := 14) rfl), by decide +kernel, by decide +kernel⟩
theorem oX12_attributeList : Cond.instanceMethod mX12_attributeList.1 ∈ lw_tbl := tb8 (List.mem_of_getElem? (i := 107) rfl)
theorem vX12_attributeList : VOK mX12_attributeList.1 := ⟨oX12_attributeList, List.mem_append_left _ (List.mem_of_getElem? (i := 84) rfl)⟩
def mX12_doctype : Mth := (yX12_doctype, cX12_doctype, 3, none, 7, 165)
theorem kX12_doctype : MOK mX12_doctype := ⟨by decide +kernel, tb8 (List.mem_of_getElem? (i := 46) rfl), tb1 (List.mem_of_getElem? (i := 14) rfl), by decide +kernel, by decide +kernel⟩
theorem oX12_doctype : Cond.instanceMethod mX12_doctype.1 ∈ lw_tbl := tb8 (List.mem_of_getElem? (i := 45) rfl)
theorem vX12_doctype : VOK mX12_doctype.1 := ⟨oX12_doctype, List.mem_append_left _ (List.mem_of_getElem? (i := 73) rfl)⟩
def mX12_hasAttribute : Mth := (yX12_hasAttribute, cX12_hasAttribute, 6, (some .boolean), 1, 26)
theorem kX12_hasAttribute : MOK mX12_hasAttribute := ⟨by decide +kernel, tb8 (List.mem_of_getElem? (i := 164) rfl), tb1 (List.mem_of_getElem? (i := 14) rfl), by decide +kernel, by decide +kernel⟩
theorem oX12_hasAttribute : Cond.instanceMethod mX12_hasAttribute.1 ∈ lw_tbl := tb8 (List.mem_of_getElem? (i := 163) rfl)
theorem vX12_hasAttribute : VOK mX12_hasAttribute.1 := ⟨oX12_hasAttribute, List.mem_append_left _ (List.mem_of_getElem? (i := 95) rfl)⟩
def mX12_attributesOf : Mth := (yX12_attributesOf, cX12_attributesOf, 4, (some .int), 0, 0)
theorem kX12_attributesOf : MOK mX12_attributesOf := ⟨by decide +kernel, tb8 (List.mem_of_getElem? (i := 168) rfl), tb1 (List.mem_of_getElem? (i := 14) rfl), by decide +kernel, by decide +kernel⟩
theorem oX12_attributesOf : Cond.instanceMethod mX12_attributesOf.1 ∈ lw_tbl := tb8 (List.mem_of_getElem? (i := 167) rfl)
theorem vX12_attributesOf : VOK mX12_attributesOf.1 := ⟨oX12_attributesOf, List.mem_append_left _ (List.mem_of_getElem? (i := 96) rfl)⟩
def mX12_attribute : Mth := (yX12_attribute, cX12_attribute, 7, none, 4, 94)
theorem kX12_attribute : MOK mX12_attribute := ⟨by decide +kernel, tb8 (List.mem_of_getElem? (i := 160) rfl), tb1 (List.mem_of_getElem? (i := 14) rfl), by decide +kernel, by decide +kernel⟩
theorem oX12_attribute : Cond.instanceMethod mX12_attribute.1 ∈ lw_tbl := tb8 (List.mem_of_getElem? (i := 159) rfl)
theorem vX12_attribute : VOK mX12_attribute.1 := ⟨oX12_attribute, List.mem_append_left _ (List.mem_of_getElem? (i := 94) rfl)⟩
def mX12_defaultsOf : Mth := (yX12_defaultsOf, cX12_defaultsOf, 7, none, 2, 51)
theorem kX12_defaultsOf : MOK mX12_defaultsOf := ⟨by decide +kernel, tb8 (List.mem_of_getElem? (i := 173) rfl), tb1 (List.mem_of_getElem? (i := 14) rfl), by decide +kernel, by decide +kernel⟩
theorem oX12_defaultsOf : Cond.instanceMethod mX12_defaultsOf.1 ∈ lw_tbl := tb8 (List.mem_of_getElem? (i := 172) rfl)
theorem vX12_defaultsOf : VOK mX12_defaultsOf.1 := ⟨oX12_defaultsOf, List.mem_append_left _ (List.mem_of_getElem? (i := 97) rfl)⟩
def mX12_element : Mth := (yX12_element, cX12_element, 8, none, 5, 120)
theorem kX12_element : MOK mX12_element := ⟨by decide +kernel, tb8 (List.mem_of_getElem? (i := 156) rfl), tb1 (List.mem_of_getElem? (i := 14) rfl), by decide +kernel, by decide +kernel⟩
theorem oX12_element : Cond.instanceMethod mX12_element.1 ∈ lw_tbl := tb8 (List.mem_of_getElem? (i := 155) rfl)
theorem vX12_element : VOK mX12_element.1 := ⟨oX12_element, List.mem_append_left _ (List.mem_of_getElem? (i := 93) rfl)⟩
def mX12_close : Mth := (yX12_close, cX12_close, 4, none, 4, 86)
theorem kX12_close : MOK mX12_close := ⟨by decide +kernel, tb8 (List.mem_of_getElem? (i := 182) rfl), tb1 (List.mem_of_getElem? (i := 14) rfl), by decide +kernel, by decide +kernel⟩
theorem oX12_close : Cond.instanceMethod mX12_close.1 ∈ lw_tbl := tb8 (List.mem_of_getElem? (i := 181) rfl)
theorem vX12_close : VOK mX12_close.1 := ⟨oX12_close, List.mem_append_left _ (List.mem_of_getElem? (i := 99) rfl)⟩
def mX12_text : Mth := (yX12_text, cX12_text, 5, none, 3, 70)
theorem kX12_text : MOK mX12_text := ⟨by decide +kernel, tb8 (List.mem_of_getElem? (i := 186) rfl), tb1 (List.mem_of_getElem? (i := 14) rfl), by decide +kernel, by decide +kernel⟩
theorem oX12_text : Cond.instanceMethod mX12_text.1 ∈ lw_tbl := tb8 (List.mem_of_getElem? (i := 185) rfl)
theorem vX12_text : VOK mX12_text.1 := ⟨oX12_text, List.mem_append_left _ (List.mem_of_getElem? (i := 100) rfl)⟩
def mX12_content : Mth := (yX12_content, cX12_content, 1, none, 6, 147)
theorem kX12_content : MOK mX12_content := ⟨by decide +kernel, tb8 (List.mem_of_getElem? (i := 177) rfl), tb1 (List.mem_of_getElem? (i := 14) rfl), by decide +kernel, by decide +kernel⟩
theorem oX12_content : Cond.instanceMethod mX12_content.1 ∈ lw_tbl := tb8 (List.mem_of_getElem? (i := 176) rfl)
theorem vX12_content : VOK mX12_content.1 := ⟨oX12_content, List.mem_append_left _ (List.mem_of_getElem? (i := 98) rfl)⟩
def mX12_declOf : Mth := (yX12_declOf, cX12_declOf, 4, (some .int), 1, 26)
theorem kX12_declOf : MOK mX12_declOf := ⟨by decide +kernel, tb8 (List.mem_of_getElem? (i := 198) rfl), tb1 (List.mem_of_getElem? (i := 14) rfl), by decide +kernel, by decide +kernel⟩
theorem oX12_declOf : Cond.instanceMethod mX12_declOf.1 ∈ lw_tbl := tb8 (List.mem_of_getElem? (i := 197) rfl)
theorem vX12_declOf : VOK mX12_declOf.1 := ⟨oX12_declOf, List.mem_append_left _ (List.mem_of_getElem? (i := 103) rfl)⟩
def mX12_tellFinding : Mth := (yX12_tellFinding, cX12_tellFinding, 3, none, 0, 0)
theorem kX12_tellFinding : MOK mX12_tellFinding := ⟨by decide +kernel, tb8 (List.mem_of_getElem? (i := 202) rfl), tb1 (List.mem_of_getElem? (i := 14) rfl), by decide +kernel, by decide +kernel⟩
theorem oX12_tellFinding : Cond.instanceMethod mX12_tellFinding.1 ∈ lw_tbl := tb8 (List.mem_of_getElem? (i := 201) rfl)
theorem vX12_tellFinding : VOK mX12_tellFinding.1 := ⟨oX12_tellFinding, List.mem_append_left _ (List.mem_of_getElem? (i := 104) rfl)⟩
def mX12_areAlike : Mth := (yX12_areAlike, cX12_areAlike, 4, (some .boolean), 1, 26)
theorem kX12_areAlike : MOK mX12_areAlike := ⟨by decide +kernel, tb8 (List.mem_of_getElem? (i := 210) rfl), tb1 (List.mem_of_getElem? (i := 14) rfl), by decide +kernel, by decide +kernel⟩
theorem oX12_areAlike : Cond.instanceMethod mX12_areAlike.1 ∈ lw_tbl := tb8 (List.mem_of_getElem? (i := 209) rfl)
theorem vX12_areAlike : VOK mX12_areAlike.1 := ⟨oX12_areAlike, List.mem_append_left _ (List.mem_of_getElem? (i := 106) rfl)⟩
def mX12_isDoubled : Mth := (yX12_isDoubled, cX12_isDoubled, 7, (some .boolean), 2, 49)
theorem kX12_isDoubled : MOK mX12_isDoubled := ⟨by decide +kernel, tb8 (List.mem_of_getElem? (i := 206) rfl), tb1 (List.mem_of_getElem? (i := 14) rfl), by decide +kernel, by decide +kernel⟩
theorem oX12_isDoubled : Cond.instanceMethod mX12_isDoubled.1 ∈ lw_tbl := tb8 (List.mem_of_getElem? (i := 205) rfl)
theorem vX12_isDoubled : VOK mX12_isDoubled.1 := ⟨oX12_isDoubled, List.mem_append_left _ (List.mem_of_getElem? (i := 105) rfl)⟩
def mX12_judgeDecl : Mth := (yX12_judgeDecl, cX12_judgeDecl, 5, none, 3, 75)
theorem kX12_judgeDecl : MOK mX12_judgeDecl := ⟨by decide +kernel, tb8 (List.mem_of_getElem? (i := 194) rfl), tb1 (List.mem_of_getElem? (i := 14) rfl), by decide +kernel, by decide +kernel⟩
theorem oX12_judgeDecl : Cond.instanceMethod mX12_judgeDecl.1 ∈ lw_tbl := tb8 (List.mem_of_getElem? (i := 193) rfl)
theorem vX12_judgeDecl : VOK mX12_judgeDecl.1 := ⟨oX12_judgeDecl, List.mem_append_left _ (List.mem_of_getElem? (i := 102) rfl)⟩
def mX12_isName : Mth := (yX12_isName, cX12_isName, 5, (some .boolean), 3, 65)
theorem kX12_isName : MOK mX12_isName := ⟨by decide +kernel, tb8 (List.mem_of_getElem? (i := 223) rfl), tb1 (List.mem_of_getElem? (i := 14) rfl), by decide +kernel, by decide +kernel⟩
theorem oX12_isName : Cond.instanceMethod mX12_isName.1 ∈ lw_tbl := tb8 (List.mem_of_getElem? (i := 222) rfl)
theorem vX12_isName : VOK mX12_isName.1 := ⟨oX12_isName, List.mem_append_left _ (List.mem_of_getElem? (i := 109) rfl)⟩
def mX12_isOf : Mth := (yX12_isOf, cX12_isOf, 7, (some .boolean), 4, 89)
theorem kX12_isOf : MOK mX12_isOf := ⟨by decide +kernel, tb8 (List.mem_of_getElem? (i := 219) rfl), tb1 (List.mem_of_getElem? (i := 14) rfl), by decide +kernel, by decide +kernel⟩
theorem oX12_isOf : Cond.instanceMethod mX12_isOf.1 ∈ lw_tbl := tb8 (List.mem_of_getElem? (i := 218) rfl)
theorem vX12_isOf : VOK mX12_isOf.1 := ⟨oX12_isOf, List.mem_append_left _ (List.mem_of_getElem? (i := 108) rfl)⟩
def mX12_judgeRule : Mth := (yX12_judgeRule, cX12_judgeRule, 5, none, 5, 115)
theorem kX12_judgeRule : MOK mX12_judgeRule := ⟨by decide +kernel, tb8 (List.mem_of_getElem? (i := 215) rfl), tb1 (List.mem_of_getElem? (i := 14) rfl), by decide +kernel, by decide +kernel⟩
theorem oX12_judgeRule : Cond.instanceMethod mX12_judgeRule.1 ∈ lw_tbl := tb8 (List.mem_of_getElem? (i := 214) rfl)
theorem vX12_judgeRule : VOK mX12_judgeRule.1 := ⟨oX12_judgeRule, List.mem_append_left _ (List.mem_of_getElem? (i := 107) rfl)⟩
def mX12_named : Mth := (yX12_named, cX12_named, 9, (some .long), 1, 26)
theorem kX12_named : MOK mX12_named := ⟨by decide +kernel, tb8 (List.mem_of_getElem? (i := 236) rfl), tb1 (List.mem_of_getElem? (i := 14) rfl), by decide +kernel, by decide +kernel⟩
theorem oX12_named : Cond.instanceMethod mX12_named.1 ∈ lw_tbl := tb8 (List.mem_of_getElem? (i := 235) rfl)
theorem vX12_named : VOK mX12_named.1 := ⟨oX12_named, List.mem_append_left _ (List.mem_of_getElem? (i := 112) rfl)⟩
def mX12_fits : Mth := (yX12_fits, cX12_fits, 12, (some .boolean), 2, 54)
theorem kX12_fits : MOK mX12_fits := ⟨by decide +kernel, tb8 (List.mem_of_getElem? (i := 232) rfl), tb1 (List.mem_of_getElem? (i := 14) rfl), by decide +kernel, by decide +kernel⟩
theorem oX12_fits : Cond.instanceMethod mX12_fits.1 ∈ lw_tbl := tb8 (List.mem_of_getElem? (i := 231) rfl)
theorem vX12_fits : VOK mX12_fits.1 := ⟨oX12_fits, List.mem_append_left _ (List.mem_of_getElem? (i := 111) rfl)⟩
def mX12_ruleFor : Mth := (yX12_ruleFor, cX12_ruleFor, 5, (some .int), 1, 26)
theorem kX12_ruleFor : MOK mX12_ruleFor := ⟨by decide +kernel, tb9 (List.mem_of_getElem? (i := 0) rfl), tb1 (List.mem_of_getElem? (i := 14) rfl), by decide +kernel, by decide +kernel⟩
theorem oX12_ruleFor : Cond.instanceMethod mX12_ruleFor.1 ∈ lw_tbl := tb8 (List.mem_of_getElem? (i := 239) rfl)
theorem vX12_ruleFor : VOK mX12_ruleFor.1 := ⟨oX12_ruleFor, List.mem_append_left _ (List.mem_of_getElem? (i := 113) rfl)⟩
def mX12_areSameKept : Mth := (yX12_areSameKept, cX12_areSameKept, 7, (some .boolean), 0, 0)
theorem kX12_areSameKept : MOK mX12_areSameKept := ⟨by decide +kernel, tb9 (List.mem_of_getElem? (i := 4) rfl), tb1 (List.mem_of_getElem? (i := 14) rfl), by decide +kernel, by decide +kernel⟩
theorem oX12_areSameKept : Cond.instanceMethod mX12_areSameKept.1 ∈ lw_tbl := tb9 (List.mem_of_getElem? (i := 3) rfl)
theorem vX12_areSameKept : VOK mX12_areSameKept.1 := ⟨oX12_areSameKept, List.mem_append_left _ (List.mem_of_getElem? (i := 114) rfl)⟩
def mX12_isTaken : Mth := (yX12_isTaken, cX12_isTaken, 6, (some .boolean), 2, 50)
theorem kX12_isTaken : MOK mX12_isTaken := ⟨by decide +kernel, tb9 (List.mem_of_getElem? (i := 8) rfl), tb1 (List.mem_of_getElem? (i := 14) rfl), by decide +kernel, by decide +kernel⟩
theorem oX12_isTaken : Cond.instanceMethod mX12_isTaken.1 ∈ lw_tbl := tb9 (List.mem_of_getElem? (i := 7) rfl)
theorem vX12_isTaken : VOK mX12_isTaken.1 := ⟨oX12_isTaken, List.mem_append_left _ (List.mem_of_getElem? (i := 115) rfl)⟩
def mX12_judgeElement : Mth := (yX12_judgeElement, cX12_judgeElement, 6, none, 5, 115)
theorem kX12_judgeElement : MOK mX12_judgeElement := ⟨by decide +kernel, tb8 (List.mem_of_getElem? (i := 228) rfl), tb1 (List.mem_of_getElem? (i := 14) rfl), by decide +kernel, by decide +kernel⟩
theorem oX12_judgeElement : Cond.instanceMethod mX12_judgeElement.1 ∈ lw_tbl := tb8 (List.mem_of_getElem? (i := 227) rfl)
theorem vX12_judgeElement : VOK mX12_judgeElement.1 := ⟨oX12_judgeElement, List.mem_append_left _ (List.mem_of_getElem? (i := 110) rfl)⟩
def mX12_judge : Mth := (yX12_judge, cX12_judge, 3, none, 6, 140)
theorem kX12_judge : MOK mX12_judge := ⟨by decide +kernel, tb8 (List.mem_of_getElem? (i := 190) rfl), tb1 (List.mem_of_getElem? (i := 14) rfl), by decide +kernel, by decide +kernel⟩
theorem oX12_judge : Cond.instanceMethod mX12_judge.1 ∈ lw_tbl := tb8 (List.mem_of_getElem? (i := 189) rfl)
theorem vX12_judge : VOK mX12_judge.1 := ⟨oX12_judge, List.mem_append_left _ (List.mem_of_getElem? (i := 101) rfl)⟩
def mX12_read : Mth := (yX12_read, cX12_read, 3, (some .int), 8, 187)
theorem kX12_read : MOK mX12_read := ⟨by decide +kernel, tb7 (List.mem_of_getElem? (i := 222) rfl), tb1 (List.mem_of_getElem? (i := 14) rfl), by decide +kernel, by decide +kernel⟩
theorem oX12_read : Cond.instanceMethod mX12_read.1 ∈ lw_tbl := tb7 (List.mem_of_getElem? (i := 220) rfl)
theorem vX12_read : VOK mX12_read.1 := ⟨oX12_read, tb7 (List.mem_of_getElem? (i := 221) rfl)⟩
def mX11_place : Mth := (yX11_place, cX11_place, 1, (some .int), 0, 0)
theorem kX11_place : MOK mX11_place := ⟨by decide +kernel, tb5 (List.mem_of_getElem? (i := 160) rfl), tb1 (List.mem_of_getElem? (i := 1) rfl), by decide +kernel, by decide +kernel⟩
theorem oX11_place : Cond.instanceMethod mX11_place.1 ∈ lw_tbl := tb5 (List.mem_of_getElem? (i := 158) rfl)
theorem vX11_place : VOK mX11_place.1 := ⟨oX11_place, tb5 (List.mem_of_getElem? (i := 159) rfl)⟩
def mX12_place : Mth := (yX12_place, cX12_place, 1, (some .int), 0, 0)
theorem kX12_place : MOK mX12_place := ⟨by decide +kernel, tb9 (List.mem_of_getElem? (i := 123) rfl), tb1 (List.mem_of_getElem? (i := 14) rfl), by decide +kernel, by decide +kernel⟩
theorem oX12_place : Cond.instanceMethod mX12_place.1 ∈ lw_tbl := tb9 (List.mem_of_getElem? (i := 121) rfl)
theorem vX12_place : VOK mX12_place.1 := ⟨oX12_place, tb9 (List.mem_of_getElem? (i := 122) rfl)⟩
def mX5_lengthOf : Mth := (yX5_lengthOf, cX5_lengthOf, 2, (some .int), 1, 21)
theorem kX5_lengthOf : MOK mX5_lengthOf := ⟨by decide +kernel, tb5 (List.mem_of_getElem? (i := 173) rfl), tb1 (List.mem_of_getElem? (i := 10) rfl), by decide +kernel, by decide +kernel⟩
theorem oX5_lengthOf : Cond.instanceMethod mX5_lengthOf.1 ∈ lw_tbl := tb5 (List.mem_of_getElem? (i := 171) rfl)
theorem vX5_lengthOf : VOK mX5_lengthOf.1 := ⟨oX5_lengthOf, tb5 (List.mem_of_getElem? (i := 172) rfl)⟩
def mX3_about : Mth := (yX3_about, cX3_about, 3, (some .int), 2, 42)
theorem kX3_about : MOK mX3_about := ⟨by decide +kernel, tb5 (List.mem_of_getElem? (i := 169) rfl), tb1 (List.mem_of_getElem? (i := 9) rfl), by decide +kernel, by decide +kernel⟩
theorem oX3_about : Cond.instanceMethod mX3_about.1 ∈ lw_tbl := tb5 (List.mem_of_getElem? (i := 167) rfl)
theorem vX3_about : VOK mX3_about.1 := ⟨oX3_about, tb5 (List.mem_of_getElem? (i := 168) rfl)⟩
def mX11_node : Mth := (yX11_node, cX11_node, 3, (some .int), 3, 64)
theorem kX11_node : MOK mX11_node := ⟨by decide +kernel, tb5 (List.mem_of_getElem? (i := 164) rfl), tb1 (List.mem_of_getElem? (i := 1) rfl), by decide +kernel, by decide +kernel⟩
theorem oX11_node : Cond.instanceMethod mX11_node.1 ∈ lw_tbl := tb5 (List.mem_of_getElem? (i := 162) rfl)
theorem vX11_node : VOK mX11_node.1 := ⟨oX11_node, tb5 (List.mem_of_getElem? (i := 163) rfl)⟩
def mX12_isNode : Mth := (yX12_isNode, cX12_isNode, 2, (some .boolean), 1, 25)
theorem kX12_isNode : MOK mX12_isNode := ⟨by decide +kernel, tb9 (List.mem_of_getElem? (i := 131) rfl), tb1 (List.mem_of_getElem? (i := 14) rfl), by decide +kernel, by decide +kernel⟩
theorem oX12_isNode : Cond.instanceMethod mX12_isNode.1 ∈ lw_tbl := tb9 (List.mem_of_getElem? (i := 130) rfl)
theorem vX12_isNode : VOK mX12_isNode.1 := ⟨oX12_isNode, List.mem_append_left _ (List.mem_of_getElem? (i := 138) rfl)⟩
def mX12_isWithin : Mth := (yX12_isWithin, cX12_isWithin, 5, (some .boolean), 0, 0)
theorem kX12_isWithin : MOK mX12_isWithin := ⟨by decide +kernel, tb9 (List.mem_of_getElem? (i := 41) rfl), tb1 (List.mem_of_getElem? (i := 14) rfl), by decide +kernel, by decide +kernel⟩
theorem oX12_isWithin : Cond.instanceMethod mX12_isWithin.1 ∈ lw_tbl := tb9 (List.mem_of_getElem? (i := 40) rfl)
theorem vX12_isWithin : VOK mX12_isWithin.1 := ⟨oX12_isWithin, List.mem_append_left _ (List.mem_of_getElem? (i := 121) rfl)⟩
def mX12_stringOf : Mth := (yX12_stringOf, cX12_stringOf, 5, (some .int), 1, 24)
theorem kX12_stringOf : MOK mX12_stringOf := ⟨by decide +kernel, tb9 (List.mem_of_getElem? (i := 65) rfl), tb1 (List.mem_of_getElem? (i := 14) rfl), by decide +kernel, by decide +kernel⟩
theorem oX12_stringOf : Cond.instanceMethod mX12_stringOf.1 ∈ lw_tbl := tb9 (List.mem_of_getElem? (i := 64) rfl)
theorem vX12_stringOf : VOK mX12_stringOf.1 := ⟨oX12_stringOf, List.mem_append_left _ (List.mem_of_getElem? (i := 127) rfl)⟩
def mX12_node : Mth := (yX12_node, cX12_node, 7, (some .int), 2, 48)
theorem kX12_node : MOK mX12_node := ⟨by decide +kernel, tb9 (List.mem_of_getElem? (i := 127) rfl), tb1 (List.mem_of_getElem? (i := 14) rfl), by decide +kernel, by decide +kernel⟩
theorem oX12_node : Cond.instanceMethod mX12_node.1 ∈ lw_tbl := tb9 (List.mem_of_getElem? (i := 125) rfl)
theorem vX12_node : VOK mX12_node.1 := ⟨oX12_node, tb9 (List.mem_of_getElem? (i := 126) rfl)⟩
def mX5_byteOf : Mth := (yX5_byteOf, cX5_byteOf, 3, (some .int), 2, 42)
theorem kX5_byteOf : MOK mX5_byteOf := ⟨by decide +kernel, tb5 (List.mem_of_getElem? (i := 181) rfl), tb1 (List.mem_of_getElem? (i := 10) rfl), by decide +kernel, by decide +kernel⟩
theorem oX5_byteOf : Cond.instanceMethod mX5_byteOf.1 ∈ lw_tbl := tb5 (List.mem_of_getElem? (i := 179) rfl)
theorem vX5_byteOf : VOK mX5_byteOf.1 := ⟨oX5_byteOf, tb5 (List.mem_of_getElem? (i := 180) rfl)⟩
def mX11_name : Mth := (yX11_name, cX11_name, 3, (some .int), 3, 64)
theorem kX11_name : MOK mX11_name := ⟨by decide +kernel, tb5 (List.mem_of_getElem? (i := 177) rfl), tb1 (List.mem_of_getElem? (i := 1) rfl), by decide +kernel, by decide +kernel⟩
theorem oX11_name : Cond.instanceMethod mX11_name.1 ∈ lw_tbl := tb5 (List.mem_of_getElem? (i := 175) rfl)
theorem vX11_name : VOK mX11_name.1 := ⟨oX11_name, tb5 (List.mem_of_getElem? (i := 176) rfl)⟩
def mX12_name : Mth := (yX12_name, cX12_name, 3, (some .int), 2, 46)
theorem kX12_name : MOK mX12_name := ⟨by decide +kernel, tb9 (List.mem_of_getElem? (i := 135) rfl), tb1 (List.mem_of_getElem? (i := 14) rfl), by decide +kernel, by decide +kernel⟩
theorem oX12_name : Cond.instanceMethod mX12_name.1 ∈ lw_tbl := tb9 (List.mem_of_getElem? (i := 133) rfl)
theorem vX12_name : VOK mX12_name.1 := ⟨oX12_name, tb9 (List.mem_of_getElem? (i := 134) rfl)⟩
def mX3_stringByte : Mth := (yX3_stringByte, cX3_stringByte, 3, (some .int), 0, 0)
theorem kX3_stringByte : MOK mX3_stringByte := ⟨by decide +kernel, tb5 (List.mem_of_getElem? (i := 190) rfl), tb1 (List.mem_of_getElem? (i := 9) rfl), by decide +kernel, by decide +kernel⟩
theorem oX3_stringByte : Cond.instanceMethod mX3_stringByte.1 ∈ lw_tbl := tb5 (List.mem_of_getElem? (i := 188) rfl)
theorem vX3_stringByte : VOK mX3_stringByte.1 := ⟨oX3_stringByte, tb5 (List.mem_of_getElem? (i := 189) rfl)⟩
def mX11_string : Mth := (yX11_string, cX11_string, 3, (some .int), 1, 22)
theorem kX11_string : MOK mX11_string := ⟨by decide +kernel, tb5 (List.mem_of_getElem? (i := 186) rfl), tb1 (List.mem_of_getElem? (i := 1) rfl), by decide +kernel, by decide +kernel⟩
theorem oX11_string : Cond.instanceMethod mX11_string.1 ∈ lw_tbl := tb5 (List.mem_of_getElem? (i := 184) rfl)
theorem vX11_string : VOK mX11_string.1 := ⟨oX11_string, tb5 (List.mem_of_getElem? (i := 185) rfl)⟩
def mX12_stringAt : Mth := (yX12_stringAt, cX12_stringAt, 7, (some .int), 1, 24)
theorem kX12_stringAt : MOK mX12_stringAt := ⟨by decide +kernel, tb9 (List.mem_of_getElem? (i := 69) rfl), tb1 (List.mem_of_getElem? (i := 14) rfl), by decide +kernel, by decide +kernel⟩
theorem oX12_stringAt : Cond.instanceMethod mX12_stringAt.1 ∈ lw_tbl := tb9 (List.mem_of_getElem? (i := 68) rfl)
theorem vX12_stringAt : VOK mX12_stringAt.1 := ⟨oX12_stringAt, List.mem_append_left _ (List.mem_of_getElem? (i := 128) rfl)⟩
def mX12_string : Mth := (yX12_string, cX12_string, 3, (some .int), 2, 50)
theorem kX12_string : MOK mX12_string := ⟨by decide +kernel, tb9 (List.mem_of_getElem? (i := 139) rfl), tb1 (List.mem_of_getElem? (i := 14) rfl), by decide +kernel, by decide +kernel⟩
theorem oX12_string : Cond.instanceMethod mX12_string.1 ∈ lw_tbl := tb9 (List.mem_of_getElem? (i := 137) rfl)
theorem vX12_string : VOK mX12_string.1 := ⟨oX12_string, tb9 (List.mem_of_getElem? (i := 138) rfl)⟩
def mX11_findings : Mth := (yX11_findings, cX11_findings, 1, (some .int), 0, 0)
theorem kX11_findings : MOK mX11_findings := ⟨by decide +kernel, tb5 (List.mem_of_getElem? (i := 194) rfl), tb1 (List.mem_of_getElem? (i := 1) rfl), by decide +kernel, by decide +kernel⟩
theorem oX11_findings : Cond.instanceMethod mX11_findings.1 ∈ lw_tbl := tb5 (List.mem_of_getElem? (i := 192) rfl)
theorem vX11_findings : VOK mX11_findings.1 := ⟨oX11_findings, tb5 (List.mem_of_getElem? (i := 193) rfl)⟩
def mX12_findings : Mth := (yX12_findings, cX12_findings, 1, (some .int), 0, 0)
theorem kX12_findings : MOK mX12_findings := ⟨by decide +kernel, tb9 (List.mem_of_getElem? (i := 143) rfl), tb1 (List.mem_of_getElem? (i := 14) rfl), by decide +kernel, by decide +kernel⟩
theorem oX12_findings : Cond.instanceMethod mX12_findings.1 ∈ lw_tbl := tb9 (List.mem_of_getElem? (i := 141) rfl)
theorem vX12_findings : VOK mX12_findings.1 := ⟨oX12_findings, tb9 (List.mem_of_getElem? (i := 142) rfl)⟩
def mX4_numberOf : Mth := (yX4_numberOf, cX4_numberOf, 2, (some .int), 0, 0)
theorem kX4_numberOf : MOK mX4_numberOf := ⟨by decide +kernel, tb5 (List.mem_of_getElem? (i := 202) rfl), tb1 (List.mem_of_getElem? (i := 5) rfl), by decide +kernel, by decide +kernel⟩
theorem oX4_numberOf : Cond.instanceMethod mX4_numberOf.1 ∈ lw_tbl := tb5 (List.mem_of_getElem? (i := 200) rfl)
theorem vX4_numberOf : VOK mX4_numberOf.1 := ⟨oX4_numberOf, tb5 (List.mem_of_getElem? (i := 201) rfl)⟩
def mX4_subjectOf : Mth := (yX4_subjectOf, cX4_subjectOf, 2, (some .int), 0, 0)
theorem kX4_subjectOf : MOK mX4_subjectOf := ⟨by decide +kernel, tb5 (List.mem_of_getElem? (i := 206) rfl), tb1 (List.mem_of_getElem? (i := 5) rfl), by decide +kernel, by decide +kernel⟩
theorem oX4_subjectOf : Cond.instanceMethod mX4_subjectOf.1 ∈ lw_tbl := tb5 (List.mem_of_getElem? (i := 204) rfl)
theorem vX4_subjectOf : VOK mX4_subjectOf.1 := ⟨oX4_subjectOf, tb5 (List.mem_of_getElem? (i := 205) rfl)⟩
def mX11_finding : Mth := (yX11_finding, cX11_finding, 3, (some .int), 1, 21)
theorem kX11_finding : MOK mX11_finding := ⟨by decide +kernel, tb5 (List.mem_of_getElem? (i := 198) rfl), tb1 (List.mem_of_getElem? (i := 1) rfl), by decide +kernel, by decide +kernel⟩
theorem oX11_finding : Cond.instanceMethod mX11_finding.1 ∈ lw_tbl := tb5 (List.mem_of_getElem? (i := 196) rfl)
theorem vX11_finding : VOK mX11_finding.1 := ⟨oX11_finding, tb5 (List.mem_of_getElem? (i := 197) rfl)⟩
def mX12_finding : Mth := (yX12_finding, cX12_finding, 3, (some .int), 1, 20)
theorem kX12_finding : MOK mX12_finding := ⟨by decide +kernel, tb9 (List.mem_of_getElem? (i := 147) rfl), tb1 (List.mem_of_getElem? (i := 14) rfl), by decide +kernel, by decide +kernel⟩
theorem oX12_finding : Cond.instanceMethod mX12_finding.1 ∈ lw_tbl := tb9 (List.mem_of_getElem? (i := 145) rfl)
theorem vX12_finding : VOK mX12_finding.1 := ⟨oX12_finding, tb9 (List.mem_of_getElem? (i := 146) rfl)⟩
def mX6_takeNumber : Mth := (yX6_takeNumber, cX6_takeNumber, 3, (some .int), 1, 20)
theorem kX6_takeNumber : MOK mX6_takeNumber := ⟨by decide +kernel, tb6 (List.mem_of_getElem? (i := 6) rfl), tb1 (List.mem_of_getElem? (i := 6) rfl), by decide +kernel, by decide +kernel⟩
theorem oX6_takeNumber : Cond.instanceMethod mX6_takeNumber.1 ∈ lw_tbl := tb6 (List.mem_of_getElem? (i := 5) rfl)
theorem vX6_takeNumber : VOK mX6_takeNumber.1 := ⟨oX6_takeNumber, List.mem_append_left _ (List.mem_of_getElem? (i := 44) rfl)⟩
def mX6_readQuoted : Mth := (yX6_readQuoted, cX6_readQuoted, 3, (some .boolean), 6, 129)
theorem kX6_readQuoted : MOK mX6_readQuoted := ⟨by decide +kernel, tb6 (List.mem_of_getElem? (i := 12) rfl), tb1 (List.mem_of_getElem? (i := 6) rfl), by decide +kernel, by decide +kernel⟩
theorem oX6_readQuoted : Cond.instanceMethod mX6_readQuoted.1 ∈ lw_tbl := tb6 (List.mem_of_getElem? (i := 11) rfl)
theorem vX6_readQuoted : VOK mX6_readQuoted.1 := ⟨oX6_readQuoted, List.mem_append_left _ (List.mem_of_getElem? (i := 45) rfl)⟩
def mX6_readBracket : Mth := (yX6_readBracket, cX6_readBracket, 3, (some .boolean), 7, 151)
theorem kX6_readBracket : MOK mX6_readBracket := ⟨by decide +kernel, tb6 (List.mem_of_getElem? (i := 1) rfl), tb1 (List.mem_of_getElem? (i := 6) rfl), by decide +kernel, by decide +kernel⟩
theorem oX6_readBracket : Cond.instanceMethod mX6_readBracket.1 ∈ lw_tbl := tb6 (List.mem_of_getElem? (i := 0) rfl)
theorem vX6_readBracket : VOK mX6_readBracket.1 := ⟨oX6_readBracket, List.mem_append_left _ (List.mem_of_getElem? (i := 43) rfl)⟩
def mX6_readBrackets : Mth := (yX6_readBrackets, cX6_readBrackets, 5, (some .boolean), 8, 173)
theorem kX6_readBrackets : MOK mX6_readBrackets := ⟨by decide +kernel, tb5 (List.mem_of_getElem? (i := 236) rfl), tb1 (List.mem_of_getElem? (i := 6) rfl), by decide +kernel, by decide +kernel⟩
theorem oX6_readBrackets : Cond.instanceMethod mX6_readBrackets.1 ∈ lw_tbl := tb5 (List.mem_of_getElem? (i := 235) rfl)
theorem vX6_readBrackets : VOK mX6_readBrackets.1 := ⟨oX6_readBrackets, List.mem_append_left _ (List.mem_of_getElem? (i := 42) rfl)⟩
def mX6_readStep : Mth := (yX6_readStep, cX6_readStep, 5, (some .boolean), 9, 197)
theorem kX6_readStep : MOK mX6_readStep := ⟨by decide +kernel, tb5 (List.mem_of_getElem? (i := 222) rfl), tb1 (List.mem_of_getElem? (i := 6) rfl), by decide +kernel, by decide +kernel⟩
theorem oX6_readStep : Cond.instanceMethod mX6_readStep.1 ∈ lw_tbl := tb5 (List.mem_of_getElem? (i := 221) rfl)
theorem vX6_readStep : VOK mX6_readStep.1 := ⟨oX6_readStep, List.mem_append_left _ (List.mem_of_getElem? (i := 41) rfl)⟩
def mX6_parse : Mth := (yX6_parse, cX6_parse, 4, (some .boolean), 10, 221)
theorem kX6_parse : MOK mX6_parse := ⟨by decide +kernel, tb5 (List.mem_of_getElem? (i := 214) rfl), tb1 (List.mem_of_getElem? (i := 6) rfl), by decide +kernel, by decide +kernel⟩
theorem oX6_parse : Cond.instanceMethod mX6_parse.1 ∈ lw_tbl := tb5 (List.mem_of_getElem? (i := 212) rfl)
theorem vX6_parse : VOK mX6_parse.1 := ⟨oX6_parse, tb5 (List.mem_of_getElem? (i := 213) rfl)⟩
def mJ7_fill_031fb : Mth := (yJ7_fill_031fb, cJ7_fill_031fb, 4, none, 0, 0)
theorem kJ7_fill_031fb : MOK mJ7_fill_031fb := ⟨by decide +kernel, tb6 (List.mem_of_getElem? (i := 24) rfl), tb1 (List.mem_of_getElem? (i := 11) rfl), by decide +kernel, by decide +kernel⟩
theorem vJ7_fill_031fb : Cond.static mJ7_fill_031fb.1 ∈ lw_tbl := tb6 (List.mem_of_getElem? (i := 23) rfl)
def mX8_spread : Mth := (yX8_spread, cX8_spread, 4, none, 1, 21)
theorem kX8_spread : MOK mX8_spread := ⟨by decide +kernel, tb6 (List.mem_of_getElem? (i := 28) rfl), tb1 (List.mem_of_getElem? (i := 7) rfl), by decide +kernel, by decide +kernel⟩
theorem oX8_spread : Cond.instanceMethod mX8_spread.1 ∈ lw_tbl := tb6 (List.mem_of_getElem? (i := 27) rfl)
theorem vX8_spread : VOK mX8_spread.1 := ⟨oX8_spread, List.mem_append_left _ (List.mem_of_getElem? (i := 46) rfl)⟩
def mX8_push : Mth := (yX8_push, cX8_push, 2, none, 0, 0)
theorem kX8_push : MOK mX8_push := ⟨by decide +kernel, tb6 (List.mem_of_getElem? (i := 41) rfl), tb1 (List.mem_of_getElem? (i := 7) rfl), by decide +kernel, by decide +kernel⟩
theorem oX8_push : Cond.instanceMethod mX8_push.1 ∈ lw_tbl := tb6 (List.mem_of_getElem? (i := 40) rfl)
theorem vX8_push : VOK mX8_push.1 := ⟨oX8_push, List.mem_append_left _ (List.mem_of_getElem? (i := 49) rfl)⟩
def mX8_leadInto : Mth := (yX8_leadInto, cX8_leadInto, 6, none, 1, 21)
theorem kX8_leadInto : MOK mX8_leadInto := ⟨by decide +kernel, tb6 (List.mem_of_getElem? (i := 45) rfl), tb1 (List.mem_of_getElem? (i := 7) rfl), by decide +kernel, by decide +kernel⟩
theorem oX8_leadInto : Cond.instanceMethod mX8_leadInto.1 ∈ lw_tbl := tb6 (List.mem_of_getElem? (i := 44) rfl)
theorem vX8_leadInto : VOK mX8_leadInto.1 := ⟨oX8_leadInto, List.mem_append_left _ (List.mem_of_getElem? (i := 50) rfl)⟩
def mX8_lead : Mth := (yX8_lead, cX8_lead, 7, none, 2, 46)
theorem kX8_lead : MOK mX8_lead := ⟨by decide +kernel, tb6 (List.mem_of_getElem? (i := 37) rfl), tb1 (List.mem_of_getElem? (i := 7) rfl), by decide +kernel, by decide +kernel⟩
theorem oX8_lead : Cond.instanceMethod mX8_lead.1 ∈ lw_tbl := tb6 (List.mem_of_getElem? (i := 36) rfl)
theorem vX8_lead : VOK mX8_lead.1 := ⟨oX8_lead, List.mem_append_left _ (List.mem_of_getElem? (i := 48) rfl)⟩
def mX6_quotedBytes : Mth := (yX6_quotedBytes, cX6_quotedBytes, 1, (some (.array .byte)), 0, 0)
theorem kX6_quotedBytes : MOK mX6_quotedBytes := ⟨by decide +kernel, tb6 (List.mem_of_getElem? (i := 62) rfl), tb1 (List.mem_of_getElem? (i := 6) rfl), by decide +kernel, by decide +kernel⟩
theorem oX6_quotedBytes : Cond.instanceMethod mX6_quotedBytes.1 ∈ lw_tbl := tb6 (List.mem_of_getElem? (i := 60) rfl)
theorem vX6_quotedBytes : VOK mX6_quotedBytes.1 := ⟨oX6_quotedBytes, tb6 (List.mem_of_getElem? (i := 61) rfl)⟩
def mX8_isQuoted : Mth := (yX8_isQuoted, cX8_isQuoted, 6, (some .boolean), 1, 26)
theorem kX8_isQuoted : MOK mX8_isQuoted := ⟨by decide +kernel, tb6 (List.mem_of_getElem? (i := 58) rfl), tb1 (List.mem_of_getElem? (i := 7) rfl), by decide +kernel, by decide +kernel⟩
theorem oX8_isQuoted : Cond.instanceMethod mX8_isQuoted.1 ∈ lw_tbl := tb6 (List.mem_of_getElem? (i := 57) rfl)
theorem vX8_isQuoted : VOK mX8_isQuoted.1 := ⟨oX8_isQuoted, List.mem_append_left _ (List.mem_of_getElem? (i := 53) rfl)⟩
def mX8_passes : Mth := (yX8_passes, cX8_passes, 7, (some .boolean), 2, 51)
theorem kX8_passes : MOK mX8_passes := ⟨by decide +kernel, tb6 (List.mem_of_getElem? (i := 54) rfl), tb1 (List.mem_of_getElem? (i := 7) rfl), by decide +kernel, by decide +kernel⟩
theorem oX8_passes : Cond.instanceMethod mX8_passes.1 ∈ lw_tbl := tb6 (List.mem_of_getElem? (i := 53) rfl)
theorem vX8_passes : VOK mX8_passes.1 := ⟨oX8_passes, List.mem_append_left _ (List.mem_of_getElem? (i := 52) rfl)⟩
def mX8_sift : Mth := (yX8_sift, cX8_sift, 8, none, 3, 77)
theorem kX8_sift : MOK mX8_sift := ⟨by decide +kernel, tb6 (List.mem_of_getElem? (i := 50) rfl), tb1 (List.mem_of_getElem? (i := 7) rfl), by decide +kernel, by decide +kernel⟩
theorem oX8_sift : Cond.instanceMethod mX8_sift.1 ∈ lw_tbl := tb6 (List.mem_of_getElem? (i := 49) rfl)
theorem vX8_sift : VOK mX8_sift.1 := ⟨oX8_sift, List.mem_append_left _ (List.mem_of_getElem? (i := 51) rfl)⟩
def mX8_takeStep : Mth := (yX8_takeStep, cX8_takeStep, 6, none, 4, 104)
theorem kX8_takeStep : MOK mX8_takeStep := ⟨by decide +kernel, tb6 (List.mem_of_getElem? (i := 33) rfl), tb1 (List.mem_of_getElem? (i := 7) rfl), by decide +kernel, by decide +kernel⟩
theorem oX8_takeStep : Cond.instanceMethod mX8_takeStep.1 ∈ lw_tbl := tb6 (List.mem_of_getElem? (i := 32) rfl)
theorem vX8_takeStep : VOK mX8_takeStep.1 := ⟨oX8_takeStep, List.mem_append_left _ (List.mem_of_getElem? (i := 47) rfl)⟩
def mX8_follow : Mth := (yX8_follow, cX8_follow, 5, none, 5, 129)
theorem kX8_follow : MOK mX8_follow := ⟨by decide +kernel, tb6 (List.mem_of_getElem? (i := 21) rfl), tb1 (List.mem_of_getElem? (i := 7) rfl), by decide +kernel, by decide +kernel⟩
theorem oX8_follow : Cond.instanceMethod mX8_follow.1 ∈ lw_tbl := tb6 (List.mem_of_getElem? (i := 19) rfl)
theorem vX8_follow : VOK mX8_follow.1 := ⟨oX8_follow, tb6 (List.mem_of_getElem? (i := 20) rfl)⟩
def mX11_select : Mth := (yX11_select, cX11_select, 4, (some .int), 11, 244)
theorem kX11_select : MOK mX11_select := ⟨by decide +kernel, tb5 (List.mem_of_getElem? (i := 210) rfl), tb1 (List.mem_of_getElem? (i := 1) rfl), by decide +kernel, by decide +kernel⟩
theorem oX11_select : Cond.instanceMethod mX11_select.1 ∈ lw_tbl := tb5 (List.mem_of_getElem? (i := 208) rfl)
theorem vX11_select : VOK mX11_select.1 := ⟨oX11_select, tb5 (List.mem_of_getElem? (i := 209) rfl)⟩
def mX12_quoted : Mth := (yX12_quoted, cX12_quoted, 3, none, 2, 45)
theorem kX12_quoted : MOK mX12_quoted := ⟨by decide +kernel, tb9 (List.mem_of_getElem? (i := 32) rfl), tb1 (List.mem_of_getElem? (i := 14) rfl), by decide +kernel, by decide +kernel⟩
theorem oX12_quoted : Cond.instanceMethod mX12_quoted.1 ∈ lw_tbl := tb9 (List.mem_of_getElem? (i := 31) rfl)
theorem vX12_quoted : VOK mX12_quoted.1 := ⟨oX12_quoted, List.mem_append_left _ (List.mem_of_getElem? (i := 119) rfl)⟩
def mX12_filter : Mth := (yX12_filter, cX12_filter, 5, none, 4, 86)
theorem kX12_filter : MOK mX12_filter := ⟨by decide +kernel, tb9 (List.mem_of_getElem? (i := 27) rfl), tb1 (List.mem_of_getElem? (i := 14) rfl), by decide +kernel, by decide +kernel⟩
theorem oX12_filter : Cond.instanceMethod mX12_filter.1 ∈ lw_tbl := tb9 (List.mem_of_getElem? (i := 26) rfl)
theorem vX12_filter : VOK mX12_filter.1 := ⟨oX12_filter, List.mem_append_left _ (List.mem_of_getElem? (i := 118) rfl)⟩
def mX12_step : Mth := (yX12_step, cX12_step, 4, none, 5, 110)
theorem kX12_step : MOK mX12_step := ⟨by decide +kernel, tb9 (List.mem_of_getElem? (i := 21) rfl), tb1 (List.mem_of_getElem? (i := 14) rfl), by decide +kernel, by decide +kernel⟩
theorem oX12_step : Cond.instanceMethod mX12_step.1 ∈ lw_tbl := tb9 (List.mem_of_getElem? (i := 20) rfl)
theorem vX12_step : VOK mX12_step.1 := ⟨oX12_step, List.mem_append_left _ (List.mem_of_getElem? (i := 117) rfl)⟩
def mX12_path : Mth := (yX12_path, cX12_path, 3, none, 6, 133)
theorem kX12_path : MOK mX12_path := ⟨by decide +kernel, tb9 (List.mem_of_getElem? (i := 16) rfl), tb1 (List.mem_of_getElem? (i := 14) rfl), by decide +kernel, by decide +kernel⟩
theorem oX12_path : Cond.instanceMethod mX12_path.1 ∈ lw_tbl := tb9 (List.mem_of_getElem? (i := 15) rfl)
theorem vX12_path : VOK mX12_path.1 := ⟨oX12_path, List.mem_append_left _ (List.mem_of_getElem? (i := 116) rfl)⟩
def mX12_isCalled : Mth := (yX12_isCalled, cX12_isCalled, 6, (some .boolean), 0, 0)
theorem kX12_isCalled : MOK mX12_isCalled := ⟨by decide +kernel, tb9 (List.mem_of_getElem? (i := 49) rfl), tb1 (List.mem_of_getElem? (i := 14) rfl), by decide +kernel, by decide +kernel⟩
theorem oX12_isCalled : Cond.instanceMethod mX12_isCalled.1 ∈ lw_tbl := tb9 (List.mem_of_getElem? (i := 48) rfl)
theorem vX12_isCalled : VOK mX12_isCalled.1 := ⟨oX12_isCalled, List.mem_append_left _ (List.mem_of_getElem? (i := 123) rfl)⟩
def mX12_leads : Mth := (yX12_leads, cX12_leads, 6, (some .boolean), 1, 25)
theorem kX12_leads : MOK mX12_leads := ⟨by decide +kernel, tb9 (List.mem_of_getElem? (i := 45) rfl), tb1 (List.mem_of_getElem? (i := 14) rfl), by decide +kernel, by decide +kernel⟩
theorem oX12_leads : Cond.instanceMethod mX12_leads.1 ∈ lw_tbl := tb9 (List.mem_of_getElem? (i := 44) rfl)
theorem vX12_leads : VOK mX12_leads.1 := ⟨oX12_leads, List.mem_append_left _ (List.mem_of_getElem? (i := 122) rfl)⟩
def mX12_hasString : Mth := (yX12_hasString, cX12_hasString, 6, (some .boolean), 2, 50)
theorem kX12_hasString : MOK mX12_hasString := ⟨by decide +kernel, tb9 (List.mem_of_getElem? (i := 61) rfl), tb1 (List.mem_of_getElem? (i := 14) rfl), by decide +kernel, by decide +kernel⟩
theorem oX12_hasString : Cond.instanceMethod mX12_hasString.1 ∈ lw_tbl := tb9 (List.mem_of_getElem? (i := 60) rfl)
theorem vX12_hasString : VOK mX12_hasString.1 := ⟨oX12_hasString, List.mem_append_left _ (List.mem_of_getElem? (i := 126) rfl)⟩
def mX12_passesFilter : Mth := (yX12_passesFilter, cX12_passesFilter, 5, (some .boolean), 3, 75)
theorem kX12_passesFilter : MOK mX12_passesFilter := ⟨by decide +kernel, tb9 (List.mem_of_getElem? (i := 57) rfl), tb1 (List.mem_of_getElem? (i := 14) rfl), by decide +kernel, by decide +kernel⟩
theorem oX12_passesFilter : Cond.instanceMethod mX12_passesFilter.1 ∈ lw_tbl := tb9 (List.mem_of_getElem? (i := 56) rfl)
theorem vX12_passesFilter : VOK mX12_passesFilter.1 := ⟨oX12_passesFilter, List.mem_append_left _ (List.mem_of_getElem? (i := 125) rfl)⟩
def mX12_filterMine : Mth := (yX12_filterMine, cX12_filterMine, 5, none, 4, 99)
theorem kX12_filterMine : MOK mX12_filterMine := ⟨by decide +kernel, tb9 (List.mem_of_getElem? (i := 53) rfl), tb1 (List.mem_of_getElem? (i := 14) rfl), by decide +kernel, by decide +kernel⟩
theorem oX12_filterMine : Cond.instanceMethod mX12_filterMine.1 ∈ lw_tbl := tb9 (List.mem_of_getElem? (i := 52) rfl)
theorem vX12_filterMine : VOK mX12_filterMine.1 := ⟨oX12_filterMine, List.mem_append_left _ (List.mem_of_getElem? (i := 124) rfl)⟩
def mX12_goStep : Mth := (yX12_goStep, cX12_goStep, 5, none, 5, 123)
theorem kX12_goStep : MOK mX12_goStep := ⟨by decide +kernel, tb9 (List.mem_of_getElem? (i := 37) rfl), tb1 (List.mem_of_getElem? (i := 14) rfl), by decide +kernel, by decide +kernel⟩
theorem oX12_goStep : Cond.instanceMethod mX12_goStep.1 ∈ lw_tbl := tb9 (List.mem_of_getElem? (i := 36) rfl)
theorem vX12_goStep : VOK mX12_goStep.1 := ⟨oX12_goStep, List.mem_append_left _ (List.mem_of_getElem? (i := 120) rfl)⟩
def mX12_select : Mth := (yX12_select, cX12_select, 4, (some .int), 7, 155)
theorem kX12_select : MOK mX12_select := ⟨by decide +kernel, tb9 (List.mem_of_getElem? (i := 12) rfl), tb1 (List.mem_of_getElem? (i := 14) rfl), by decide +kernel, by decide +kernel⟩
theorem oX12_select : Cond.instanceMethod mX12_select.1 ∈ lw_tbl := tb9 (List.mem_of_getElem? (i := 10) rfl)
theorem vX12_select : VOK mX12_select.1 := ⟨oX12_select, tb9 (List.mem_of_getElem? (i := 11) rfl)⟩
def mX11_told : Mth := (yX11_told, cX11_told, 2, (some .int), 0, 0)
theorem kX11_told : MOK mX11_told := ⟨by decide +kernel, tb6 (List.mem_of_getElem? (i := 68) rfl), tb1 (List.mem_of_getElem? (i := 1) rfl), by decide +kernel, by decide +kernel⟩
theorem oX11_told : Cond.instanceMethod mX11_told.1 ∈ lw_tbl := tb6 (List.mem_of_getElem? (i := 66) rfl)
theorem vX11_told : VOK mX11_told.1 := ⟨oX11_told, tb6 (List.mem_of_getElem? (i := 67) rfl)⟩
def mX12_told : Mth := (yX12_told, cX12_told, 2, (some .int), 1, 25)
theorem kX12_told : MOK mX12_told := ⟨by decide +kernel, tb9 (List.mem_of_getElem? (i := 73) rfl), tb1 (List.mem_of_getElem? (i := 14) rfl), by decide +kernel, by decide +kernel⟩
theorem oX12_told : Cond.instanceMethod mX12_told.1 ∈ lw_tbl := tb9 (List.mem_of_getElem? (i := 71) rfl)
theorem vX12_told : VOK mX12_told.1 := ⟨oX12_told, tb9 (List.mem_of_getElem? (i := 72) rfl)⟩
def mX0_finishLine : Mth := (yX0_finishLine, cX0_finishLine, 1, none, 0, 0)
theorem kX0_finishLine : MOK mX0_finishLine := ⟨by decide +kernel, tb6 (List.mem_of_getElem? (i := 93) rfl), tb1 (List.mem_of_getElem? (i := 8) rfl), by decide +kernel, by decide +kernel⟩
theorem oX0_finishLine : Cond.instanceMethod mX0_finishLine.1 ∈ lw_tbl := tb6 (List.mem_of_getElem? (i := 92) rfl)
theorem vX0_finishLine : VOK mX0_finishLine.1 := ⟨oX0_finishLine, List.mem_append_left _ (List.mem_of_getElem? (i := 57) rfl)⟩
def mX0_append : Mth := (yX0_append, cX0_append, 4, none, 1, 40)
theorem kX0_append : MOK mX0_append := ⟨by decide +kernel, tb6 (List.mem_of_getElem? (i := 97) rfl), tb1 (List.mem_of_getElem? (i := 8) rfl), by decide +kernel, by decide +kernel⟩
theorem oX0_append : Cond.instanceMethod mX0_append.1 ∈ lw_tbl := tb6 (List.mem_of_getElem? (i := 96) rfl)
theorem vX0_append : VOK mX0_append.1 := ⟨oX0_append, List.mem_append_left _ (List.mem_of_getElem? (i := 58) rfl)⟩
def mX0_endWord : Mth := (yX0_endWord, cX0_endWord, 3, none, 2, 63)
theorem kX0_endWord : MOK mX0_endWord := ⟨by decide +kernel, tb6 (List.mem_of_getElem? (i := 89) rfl), tb1 (List.mem_of_getElem? (i := 8) rfl), by decide +kernel, by decide +kernel⟩
theorem oX0_endWord : Cond.instanceMethod mX0_endWord.1 ∈ lw_tbl := tb6 (List.mem_of_getElem? (i := 88) rfl)
theorem vX0_endWord : VOK mX0_endWord.1 := ⟨oX0_endWord, List.mem_append_left _ (List.mem_of_getElem? (i := 56) rfl)⟩
def mX0_endLine : Mth := (yX0_endLine, cX0_endLine, 2, none, 3, 85)
theorem kX0_endLine : MOK mX0_endLine := ⟨by decide +kernel, tb6 (List.mem_of_getElem? (i := 85) rfl), tb1 (List.mem_of_getElem? (i := 8) rfl), by decide +kernel, by decide +kernel⟩
theorem oX0_endLine : Cond.instanceMethod mX0_endLine.1 ∈ lw_tbl := tb6 (List.mem_of_getElem? (i := 84) rfl)
theorem vX0_endLine : VOK mX0_endLine.1 := ⟨oX0_endLine, List.mem_append_left _ (List.mem_of_getElem? (i := 55) rfl)⟩
def mX0_isNamedKeep : Mth := (yX0_isNamedKeep, cX0_isNamedKeep, 2, (some .boolean), 3, 64)
theorem kX0_isNamedKeep : MOK mX0_isNamedKeep := ⟨by decide +kernel, tb6 (List.mem_of_getElem? (i := 105) rfl), tb1 (List.mem_of_getElem? (i := 8) rfl), by decide +kernel, by decide +kernel⟩
theorem vX0_isNamedKeep : Cond.static mX0_isNamedKeep.1 ∈ lw_tbl := tb6 (List.mem_of_getElem? (i := 104) rfl)
def mX0_isKept : Mth := (yX0_isKept, cX0_isKept, 4, (some .boolean), 4, 85)
theorem kX0_isKept : MOK mX0_isKept := ⟨by decide +kernel, tb6 (List.mem_of_getElem? (i := 101) rfl), tb1 (List.mem_of_getElem? (i := 8) rfl), by decide +kernel, by decide +kernel⟩
theorem vX0_isKept : Cond.static mX0_isKept.1 ∈ lw_tbl := tb6 (List.mem_of_getElem? (i := 100) rfl)
def mX0_closeBlocks : Mth := (yX0_closeBlocks, cX0_closeBlocks, 5, none, 5, 108)
theorem kX0_closeBlocks : MOK mX0_closeBlocks := ⟨by decide +kernel, tb6 (List.mem_of_getElem? (i := 81) rfl), tb1 (List.mem_of_getElem? (i := 8) rfl), by decide +kernel, by decide +kernel⟩
theorem oX0_closeBlocks : Cond.instanceMethod mX0_closeBlocks.1 ∈ lw_tbl := tb6 (List.mem_of_getElem? (i := 80) rfl)
theorem vX0_closeBlocks : VOK mX0_closeBlocks.1 := ⟨oX0_closeBlocks, List.mem_append_left _ (List.mem_of_getElem? (i := 54) rfl)⟩
def mX0_takeText : Mth := (yX0_takeText, cX0_takeText, 4, none, 3, 85)
theorem kX0_takeText : MOK mX0_takeText := ⟨by decide +kernel, tb6 (List.mem_of_getElem? (i := 112) rfl), tb1 (List.mem_of_getElem? (i := 8) rfl), by decide +kernel, by decide +kernel⟩
theorem oX0_takeText : Cond.instanceMethod mX0_takeText.1 ∈ lw_tbl := tb6 (List.mem_of_getElem? (i := 111) rfl)
theorem vX0_takeText : VOK mX0_takeText.1 := ⟨oX0_takeText, List.mem_append_left _ (List.mem_of_getElem? (i := 59) rfl)⟩
def mX0_isBlock : Mth := (yX0_isBlock, cX0_isBlock, 3, (some .boolean), 3, 64)
theorem kX0_isBlock : MOK mX0_isBlock := ⟨by decide +kernel, tb6 (List.mem_of_getElem? (i := 116) rfl), tb1 (List.mem_of_getElem? (i := 8) rfl), by decide +kernel, by decide +kernel⟩
theorem vX0_isBlock : Cond.static mX0_isBlock.1 ∈ lw_tbl := tb6 (List.mem_of_getElem? (i := 115) rfl)
def mX0_openBlock : Mth := (yX0_openBlock, cX0_openBlock, 3, none, 4, 106)
theorem kX0_openBlock : MOK mX0_openBlock := ⟨by decide +kernel, tb6 (List.mem_of_getElem? (i := 120) rfl), tb1 (List.mem_of_getElem? (i := 8) rfl), by decide +kernel, by decide +kernel⟩
theorem oX0_openBlock : Cond.instanceMethod mX0_openBlock.1 ∈ lw_tbl := tb6 (List.mem_of_getElem? (i := 119) rfl)
theorem vX0_openBlock : VOK mX0_openBlock.1 := ⟨oX0_openBlock, List.mem_append_left _ (List.mem_of_getElem? (i := 60) rfl)⟩
def mX0_layPages : Mth := (yX0_layPages, cX0_layPages, 4, none, 0, 0)
theorem kX0_layPages : MOK mX0_layPages := ⟨by decide +kernel, tb6 (List.mem_of_getElem? (i := 124) rfl), tb1 (List.mem_of_getElem? (i := 8) rfl), by decide +kernel, by decide +kernel⟩
theorem oX0_layPages : Cond.instanceMethod mX0_layPages.1 ∈ lw_tbl := tb6 (List.mem_of_getElem? (i := 123) rfl)
theorem vX0_layPages : VOK mX0_layPages.1 := ⟨oX0_layPages, List.mem_append_left _ (List.mem_of_getElem? (i := 61) rfl)⟩
def mX0_compose : Mth := (yX0_compose, cX0_compose, 5, none, 6, 132)
theorem kX0_compose : MOK mX0_compose := ⟨by decide +kernel, tb6 (List.mem_of_getElem? (i := 76) rfl), tb1 (List.mem_of_getElem? (i := 8) rfl), by decide +kernel, by decide +kernel⟩
theorem oX0_compose : Cond.instanceMethod mX0_compose.1 ∈ lw_tbl := tb6 (List.mem_of_getElem? (i := 74) rfl)
theorem vX0_compose : VOK mX0_compose.1 := ⟨oX0_compose, tb6 (List.mem_of_getElem? (i := 75) rfl)⟩
def mX11_set : Mth := (yX11_set, cX11_set, 3, (some .int), 7, 156)
theorem kX11_set : MOK mX11_set := ⟨by decide +kernel, tb6 (List.mem_of_getElem? (i := 72) rfl), tb1 (List.mem_of_getElem? (i := 1) rfl), by decide +kernel, by decide +kernel⟩
theorem oX11_set : Cond.instanceMethod mX11_set.1 ∈ lw_tbl := tb6 (List.mem_of_getElem? (i := 70) rfl)
theorem vX11_set : VOK mX11_set.1 := ⟨oX11_set, tb6 (List.mem_of_getElem? (i := 71) rfl)⟩
def mX12_isBlock : Mth := (yX12_isBlock, cX12_isBlock, 3, (some .boolean), 1, 25)
theorem kX12_isBlock : MOK mX12_isBlock := ⟨by decide +kernel, tb9 (List.mem_of_getElem? (i := 87) rfl), tb1 (List.mem_of_getElem? (i := 14) rfl), by decide +kernel, by decide +kernel⟩
theorem oX12_isBlock : Cond.instanceMethod mX12_isBlock.1 ∈ lw_tbl := tb9 (List.mem_of_getElem? (i := 86) rfl)
theorem vX12_isBlock : VOK mX12_isBlock.1 := ⟨oX12_isBlock, List.mem_append_left _ (List.mem_of_getElem? (i := 130) rfl)⟩
def mX12_toLine : Mth := (yX12_toLine, cX12_toLine, 4, none, 0, 0)
theorem kX12_toLine : MOK mX12_toLine := ⟨by decide +kernel, tb9 (List.mem_of_getElem? (i := 95) rfl), tb1 (List.mem_of_getElem? (i := 14) rfl), by decide +kernel, by decide +kernel⟩
theorem oX12_toLine : Cond.instanceMethod mX12_toLine.1 ∈ lw_tbl := tb9 (List.mem_of_getElem? (i := 94) rfl)
theorem vX12_toLine : VOK mX12_toLine.1 := ⟨oX12_toLine, List.mem_append_left _ (List.mem_of_getElem? (i := 132) rfl)⟩
def mX12_endLine : Mth := (yX12_endLine, cX12_endLine, 1, none, 0, 0)
theorem kX12_endLine : MOK mX12_endLine := ⟨by decide +kernel, tb9 (List.mem_of_getElem? (i := 99) rfl), tb1 (List.mem_of_getElem? (i := 14) rfl), by decide +kernel, by decide +kernel⟩
theorem oX12_endLine : Cond.instanceMethod mX12_endLine.1 ∈ lw_tbl := tb9 (List.mem_of_getElem? (i := 98) rfl)
theorem vX12_endLine : VOK mX12_endLine.1 := ⟨oX12_endLine, List.mem_append_left _ (List.mem_of_getElem? (i := 133) rfl)⟩
def mX12_endWord : Mth := (yX12_endWord, cX12_endWord, 2, none, 1, 23)
theorem kX12_endWord : MOK mX12_endWord := ⟨by decide +kernel, tb9 (List.mem_of_getElem? (i := 91) rfl), tb1 (List.mem_of_getElem? (i := 14) rfl), by decide +kernel, by decide +kernel⟩
theorem oX12_endWord : Cond.instanceMethod mX12_endWord.1 ∈ lw_tbl := tb9 (List.mem_of_getElem? (i := 90) rfl)
theorem vX12_endWord : VOK mX12_endWord.1 := ⟨oX12_endWord, List.mem_append_left _ (List.mem_of_getElem? (i := 131) rfl)⟩
def mX12_leave : Mth := (yX12_leave, cX12_leave, 5, (some .int), 2, 47)
theorem kX12_leave : MOK mX12_leave := ⟨by decide +kernel, tb9 (List.mem_of_getElem? (i := 83) rfl), tb1 (List.mem_of_getElem? (i := 14) rfl), by decide +kernel, by decide +kernel⟩
theorem oX12_leave : Cond.instanceMethod mX12_leave.1 ∈ lw_tbl := tb9 (List.mem_of_getElem? (i := 82) rfl)
theorem vX12_leave : VOK mX12_leave.1 := ⟨oX12_leave, List.mem_append_left _ (List.mem_of_getElem? (i := 129) rfl)⟩
def mX12_isKept : Mth := (yX12_isKept, cX12_isKept, 5, (some .boolean), 0, 0)
theorem kX12_isKept : MOK mX12_isKept := ⟨by decide +kernel, tb9 (List.mem_of_getElem? (i := 107) rfl), tb1 (List.mem_of_getElem? (i := 14) rfl), by decide +kernel, by decide +kernel⟩
theorem oX12_isKept : Cond.instanceMethod mX12_isKept.1 ∈ lw_tbl := tb9 (List.mem_of_getElem? (i := 106) rfl)
theorem vX12_isKept : VOK mX12_isKept.1 := ⟨oX12_isKept, List.mem_append_left _ (List.mem_of_getElem? (i := 135) rfl)⟩
def mX12_beginElement : Mth := (yX12_beginElement, cX12_beginElement, 2, none, 2, 47)
theorem kX12_beginElement : MOK mX12_beginElement := ⟨by decide +kernel, tb9 (List.mem_of_getElem? (i := 103) rfl), tb1 (List.mem_of_getElem? (i := 14) rfl), by decide +kernel, by decide +kernel⟩
theorem oX12_beginElement : Cond.instanceMethod mX12_beginElement.1 ∈ lw_tbl := tb9 (List.mem_of_getElem? (i := 102) rfl)
theorem vX12_beginElement : VOK mX12_beginElement.1 := ⟨oX12_beginElement, List.mem_append_left _ (List.mem_of_getElem? (i := 134) rfl)⟩
def mX12_setText : Mth := (yX12_setText, cX12_setText, 4, none, 2, 44)
theorem kX12_setText : MOK mX12_setText := ⟨by decide +kernel, tb9 (List.mem_of_getElem? (i := 111) rfl), tb1 (List.mem_of_getElem? (i := 14) rfl), by decide +kernel, by decide +kernel⟩
theorem oX12_setText : Cond.instanceMethod mX12_setText.1 ∈ lw_tbl := tb9 (List.mem_of_getElem? (i := 110) rfl)
theorem vX12_setText : VOK mX12_setText.1 := ⟨oX12_setText, List.mem_append_left _ (List.mem_of_getElem? (i := 136) rfl)⟩
def mX12_toPages : Mth := (yX12_toPages, cX12_toPages, 7, none, 0, 0)
theorem kX12_toPages : MOK mX12_toPages := ⟨by decide +kernel, tb9 (List.mem_of_getElem? (i := 115) rfl), tb1 (List.mem_of_getElem? (i := 14) rfl), by decide +kernel, by decide +kernel⟩
theorem oX12_toPages : Cond.instanceMethod mX12_toPages.1 ∈ lw_tbl := tb9 (List.mem_of_getElem? (i := 114) rfl)
theorem vX12_toPages : VOK mX12_toPages.1 := ⟨oX12_toPages, List.mem_append_left _ (List.mem_of_getElem? (i := 137) rfl)⟩
def mX12_set : Mth := (yX12_set, cX12_set, 6, (some .int), 3, 71)
theorem kX12_set : MOK mX12_set := ⟨by decide +kernel, tb9 (List.mem_of_getElem? (i := 77) rfl), tb1 (List.mem_of_getElem? (i := 14) rfl), by decide +kernel, by decide +kernel⟩
theorem oX12_set : Cond.instanceMethod mX12_set.1 ∈ lw_tbl := tb9 (List.mem_of_getElem? (i := 75) rfl)
theorem vX12_set : VOK mX12_set.1 := ⟨oX12_set, tb9 (List.mem_of_getElem? (i := 76) rfl)⟩
def mX3_textAt : Mth := (yX3_textAt, cX3_textAt, 3, (some .int), 0, 0)
theorem kX3_textAt : MOK mX3_textAt := ⟨by decide +kernel, tb6 (List.mem_of_getElem? (i := 132) rfl), tb1 (List.mem_of_getElem? (i := 9) rfl), by decide +kernel, by decide +kernel⟩
theorem oX3_textAt : Cond.instanceMethod mX3_textAt.1 ∈ lw_tbl := tb6 (List.mem_of_getElem? (i := 130) rfl)
theorem vX3_textAt : VOK mX3_textAt.1 := ⟨oX3_textAt, tb6 (List.mem_of_getElem? (i := 131) rfl)⟩
def mX11_line : Mth := (yX11_line, cX11_line, 3, (some .int), 1, 22)
theorem kX11_line : MOK mX11_line := ⟨by decide +kernel, tb6 (List.mem_of_getElem? (i := 128) rfl), tb1 (List.mem_of_getElem? (i := 1) rfl), by decide +kernel, by decide +kernel⟩
theorem oX11_line : Cond.instanceMethod mX11_line.1 ∈ lw_tbl := tb6 (List.mem_of_getElem? (i := 126) rfl)
theorem vX11_line : VOK mX11_line.1 := ⟨oX11_line, tb6 (List.mem_of_getElem? (i := 127) rfl)⟩
def mX12_line : Mth := (yX12_line, cX12_line, 3, (some .int), 1, 25)
theorem kX12_line : MOK mX12_line := ⟨by decide +kernel, tb9 (List.mem_of_getElem? (i := 152) rfl), tb1 (List.mem_of_getElem? (i := 14) rfl), by decide +kernel, by decide +kernel⟩
theorem oX12_line : Cond.instanceMethod mX12_line.1 ∈ lw_tbl := tb9 (List.mem_of_getElem? (i := 150) rfl)
theorem vX12_line : VOK mX12_line.1 := ⟨oX12_line, tb9 (List.mem_of_getElem? (i := 151) rfl)⟩
def mX0_byteOf : Mth := (yX0_byteOf, cX0_byteOf, 3, (some .int), 0, 0)
theorem kX0_byteOf : MOK mX0_byteOf := ⟨by decide +kernel, tb6 (List.mem_of_getElem? (i := 140) rfl), tb1 (List.mem_of_getElem? (i := 8) rfl), by decide +kernel, by decide +kernel⟩
theorem oX0_byteOf : Cond.instanceMethod mX0_byteOf.1 ∈ lw_tbl := tb6 (List.mem_of_getElem? (i := 138) rfl)
theorem vX0_byteOf : VOK mX0_byteOf.1 := ⟨oX0_byteOf, tb6 (List.mem_of_getElem? (i := 139) rfl)⟩
def mX11_at : Mth := (yX11_at, cX11_at, 3, (some .int), 1, 22)
theorem kX11_at : MOK mX11_at := ⟨by decide +kernel, tb6 (List.mem_of_getElem? (i := 136) rfl), tb1 (List.mem_of_getElem? (i := 1) rfl), by decide +kernel, by decide +kernel⟩
theorem oX11_at : Cond.instanceMethod mX11_at.1 ∈ lw_tbl := tb6 (List.mem_of_getElem? (i := 134) rfl)
theorem vX11_at : VOK mX11_at.1 := ⟨oX11_at, tb6 (List.mem_of_getElem? (i := 135) rfl)⟩
def mX12_at : Mth := (yX12_at, cX12_at, 3, (some .int), 1, 25)
theorem kX12_at : MOK mX12_at := ⟨by decide +kernel, tb9 (List.mem_of_getElem? (i := 156) rfl), tb1 (List.mem_of_getElem? (i := 14) rfl), by decide +kernel, by decide +kernel⟩
theorem oX12_at : Cond.instanceMethod mX12_at.1 ∈ lw_tbl := tb9 (List.mem_of_getElem? (i := 154) rfl)
theorem vX12_at : VOK mX12_at.1 := ⟨oX12_at, tb9 (List.mem_of_getElem? (i := 155) rfl)⟩
def mX11_count : Mth := (yX11_count, cX11_count, 2, (some .int), 0, 0)
theorem kX11_count : MOK mX11_count := ⟨by decide +kernel, tb6 (List.mem_of_getElem? (i := 144) rfl), tb1 (List.mem_of_getElem? (i := 1) rfl), by decide +kernel, by decide +kernel⟩
theorem oX11_count : Cond.instanceMethod mX11_count.1 ∈ lw_tbl := tb6 (List.mem_of_getElem? (i := 142) rfl)
theorem vX11_count : VOK mX11_count.1 := ⟨oX11_count, tb6 (List.mem_of_getElem? (i := 143) rfl)⟩
def mX12_count : Mth := (yX12_count, cX12_count, 2, (some .int), 0, 0)
theorem kX12_count : MOK mX12_count := ⟨by decide +kernel, tb9 (List.mem_of_getElem? (i := 160) rfl), tb1 (List.mem_of_getElem? (i := 14) rfl), by decide +kernel, by decide +kernel⟩
theorem oX12_count : Cond.instanceMethod mX12_count.1 ∈ lw_tbl := tb9 (List.mem_of_getElem? (i := 158) rfl)
theorem vX12_count : VOK mX12_count.1 := ⟨oX12_count, tb9 (List.mem_of_getElem? (i := 159) rfl)⟩
def mL_law : Mth := (yL_law, code, 4, some .boolean, 12, 267)
