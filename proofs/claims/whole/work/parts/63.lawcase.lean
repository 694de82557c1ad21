theorem lgc (x : Int64) : lg_cmp x x = 0 := by
  unfold lg_cmp
  simp
def OKX (oc om : Option (Int32 × HS)) (th : Prop) (hc : HS) : Prop := (∃ r hc1 hm1, oc = some (r, hc1) ∧ om = some (r, hm1) ∧ gI hm1 0 22 = 0 ∧ RR hc1 hm1) ∨ (∃ r hm1, th ∧ om = some (r, hm1) ∧ gI hm1 0 22 = 1 ∧ RR hc hm1)
theorem lmL_36 : Cond.methodLink RL 36 yX11_load ∈ GW := gwt_3 24 (by decide +kernel) rfl
theorem wlX11_load : YV yX11_load cX11_load 7 (some .int) 5 := ⟨gwt_3 25 (by decide +kernel) rfl, gwt_3 26 (by decide +kernel) rfl, gwt_1 1 (by decide +kernel) rfl, gwt_3 27 (by decide +kernel) rfl, by decide +kernel, by decide⟩
theorem lmL_40 : Cond.methodLink RL 40 yX12_load ∈ GW := gwt_7 120 (by decide +kernel) rfl
theorem wlX12_load : YV yX12_load cX12_load 6 (some .int) 5 := ⟨gwt_7 121 (by decide +kernel) rfl, gwt_7 122 (by decide +kernel) rfl, gwt_1 13 (by decide +kernel) rfl, gwt_7 123 (by decide +kernel) rfl, by decide +kernel, by decide⟩
theorem lmL_41 : Cond.methodLink RL 41 yX11_fill ∈ GW := gwt_3 39 (by decide +kernel) rfl
theorem wlX11_fill : YV yX11_fill cX11_fill 4 (some .int) 2 := ⟨gwt_3 40 (by decide +kernel) rfl, gwt_3 41 (by decide +kernel) rfl, gwt_1 1 (by decide +kernel) rfl, gwt_3 42 (by decide +kernel) rfl, by decide +kernel, by decide⟩
theorem lmL_44 : Cond.methodLink RL 44 yX12_fill ∈ GW := gwt_7 127 (by decide +kernel) rfl
theorem wlX12_fill : YV yX12_fill cX12_fill 4 (some .int) 2 := ⟨gwt_7 128 (by decide +kernel) rfl, gwt_7 129 (by decide +kernel) rfl, gwt_1 13 (by decide +kernel) rfl, gwt_7 130 (by decide +kernel) rfl, by decide +kernel, by decide⟩
theorem lmL_45 : Cond.methodLink RL 45 yX11_sheet ∈ GW := gwt_3 47 (by decide +kernel) rfl
theorem wlX11_sheet : YV yX11_sheet cX11_sheet 7 (some .int) 4 := ⟨gwt_3 48 (by decide +kernel) rfl, gwt_3 49 (by decide +kernel) rfl, gwt_1 1 (by decide +kernel) rfl, gwt_3 50 (by decide +kernel) rfl, by decide +kernel, by decide⟩
theorem lmL_48 : Cond.methodLink RL 48 yX12_sheet ∈ GW := gwt_7 135 (by decide +kernel) rfl
theorem wlX12_sheet : YV yX12_sheet cX12_sheet 9 (some .int) 4 := ⟨gwt_7 136 (by decide +kernel) rfl, gwt_7 137 (by decide +kernel) rfl, gwt_1 13 (by decide +kernel) rfl, gwt_7 138 (by decide +kernel) rfl, by decide +kernel, by decide⟩
theorem lmL_49 : Cond.methodLink RL 49 yX11_base ∈ GW := gwt_3 72 (by decide +kernel) rfl
theorem wlX11_base : YV yX11_base cX11_base 5 (some .boolean) 3 := ⟨gwt_3 73 (by decide +kernel) rfl, gwt_3 74 (by decide +kernel) rfl, gwt_1 1 (by decide +kernel) rfl, gwt_3 75 (by decide +kernel) rfl, by decide +kernel, by decide⟩
theorem lmL_53 : Cond.methodLink RL 53 yX12_base ∈ GW := gwt_7 141 (by decide +kernel) rfl
theorem wlX12_base : YV yX12_base cX12_base 4 (some .boolean) 3 := ⟨gwt_7 142 (by decide +kernel) rfl, gwt_7 143 (by decide +kernel) rfl, gwt_1 13 (by decide +kernel) rfl, gwt_7 144 (by decide +kernel) rfl, by decide +kernel, by decide⟩
theorem lmL_54 : Cond.methodLink RL 54 yX11_hull ∈ GW := gwt_3 80 (by decide +kernel) rfl
theorem wlX11_hull : YV yX11_hull cX11_hull 4 (some .boolean) 2 := ⟨gwt_3 81 (by decide +kernel) rfl, gwt_3 82 (by decide +kernel) rfl, gwt_1 1 (by decide +kernel) rfl, gwt_3 83 (by decide +kernel) rfl, by decide +kernel, by decide⟩
theorem lmL_58 : Cond.methodLink RL 58 yX12_hull ∈ GW := gwt_7 149 (by decide +kernel) rfl
theorem wlX12_hull : YV yX12_hull cX12_hull 3 (some .boolean) 2 := ⟨gwt_7 150 (by decide +kernel) rfl, gwt_7 151 (by decide +kernel) rfl, gwt_1 13 (by decide +kernel) rfl, gwt_7 152 (by decide +kernel) rfl, by decide +kernel, by decide⟩
theorem lmL_59 : Cond.methodLink RL 59 yX11_layer ∈ GW := gwt_3 84 (by decide +kernel) rfl
theorem wlX11_layer : YV yX11_layer cX11_layer 3 (some .int) 2 := ⟨gwt_3 85 (by decide +kernel) rfl, gwt_3 86 (by decide +kernel) rfl, gwt_1 1 (by decide +kernel) rfl, gwt_3 87 (by decide +kernel) rfl, by decide +kernel, by decide⟩
theorem lmL_62 : Cond.methodLink RL 62 yX12_layer ∈ GW := gwt_7 153 (by decide +kernel) rfl
theorem wlX12_layer : YV yX12_layer cX12_layer 3 (some .int) 2 := ⟨gwt_7 154 (by decide +kernel) rfl, gwt_7 155 (by decide +kernel) rfl, gwt_1 13 (by decide +kernel) rfl, gwt_7 156 (by decide +kernel) rfl, by decide +kernel, by decide⟩
theorem lmL_63 : Cond.methodLink RL 63 yX11_mix ∈ GW := gwt_3 95 (by decide +kernel) rfl
theorem wlX11_mix : YV yX11_mix cX11_mix 2 (some .int) 0 := ⟨gwt_3 96 (by decide +kernel) rfl, gwt_3 97 (by decide +kernel) rfl, gwt_1 1 (by decide +kernel) rfl, gwt_3 98 (by decide +kernel) rfl, by decide +kernel, by decide⟩
theorem lmL_67 : Cond.methodLink RL 67 yX12_mix ∈ GW := gwt_7 160 (by decide +kernel) rfl
theorem wlX12_mix : YV yX12_mix cX12_mix 2 (some .int) 0 := ⟨gwt_7 161 (by decide +kernel) rfl, gwt_7 162 (by decide +kernel) rfl, gwt_1 13 (by decide +kernel) rfl, gwt_7 163 (by decide +kernel) rfl, by decide +kernel, by decide⟩
theorem lmL_68 : Cond.methodLink RL 68 yX11_slack ∈ GW := gwt_3 99 (by decide +kernel) rfl
theorem wlX11_slack : YV yX11_slack cX11_slack 4 (some .int) 2 := ⟨gwt_3 100 (by decide +kernel) rfl, gwt_3 101 (by decide +kernel) rfl, gwt_1 1 (by decide +kernel) rfl, gwt_3 102 (by decide +kernel) rfl, by decide +kernel, by decide⟩
theorem lmL_71 : Cond.methodLink RL 71 yX12_slack ∈ GW := gwt_7 164 (by decide +kernel) rfl
theorem wlX12_slack : YV yX12_slack cX12_slack 4 (some .int) 2 := ⟨gwt_7 165 (by decide +kernel) rfl, gwt_7 166 (by decide +kernel) rfl, gwt_1 13 (by decide +kernel) rfl, gwt_7 167 (by decide +kernel) rfl, by decide +kernel, by decide⟩
theorem lh_of : Cond.methodLink RL 72 yL_of ∈ GW ∧ Cond.static yL_of ∈ GW ∧ Cond.initialized yL_of.cls ∈ GW ∧ Cond.codeWith yL_of cL_of 5 (some .int) [(0, 10, 13, 13)] ∈ GW := ⟨gwt_6 25 (by decide +kernel) rfl, gwt_6 26 (by decide +kernel) rfl, gwt_1 0 (by decide +kernel) rfl, gwt_6 27 (by decide +kernel) rfl⟩
theorem lmL_77 : Cond.methodLink RL 77 yX12_of ∈ GW := gwt_7 168 (by decide +kernel) rfl
theorem wlX12_of : YV yX12_of cX12_of 3 (some .int) 2 := ⟨gwt_7 169 (by decide +kernel) rfl, gwt_7 170 (by decide +kernel) rfl, gwt_1 13 (by decide +kernel) rfl, gwt_7 171 (by decide +kernel) rfl, by decide +kernel, by decide⟩
theorem lmL_78 : Cond.methodLink RL 78 yX12_thrown ∈ GW := gwt_7 116 (by decide +kernel) rfl
theorem wlX12_thrown : YV yX12_thrown cX12_thrown 1 (some .int) 0 := ⟨gwt_7 117 (by decide +kernel) rfl, gwt_7 118 (by decide +kernel) rfl, gwt_1 13 (by decide +kernel) rfl, gwt_7 119 (by decide +kernel) rfl, by decide +kernel, by decide⟩
theorem lh_heavy : Cond.methodLink RL 81 yL_heavy ∈ GW ∧ Cond.static yL_heavy ∈ GW ∧ Cond.initialized yL_heavy.cls ∈ GW ∧ Cond.codeWith yL_heavy cL_heavy 4 (some .int) [(0, 9, 12, 13)] ∈ GW := ⟨gwt_6 100 (by decide +kernel) rfl, gwt_6 101 (by decide +kernel) rfl, gwt_1 0 (by decide +kernel) rfl, gwt_6 102 (by decide +kernel) rfl⟩
theorem lmL_84 : Cond.methodLink RL 84 yX12_heavy ∈ GW := gwt_7 176 (by decide +kernel) rfl
theorem wlX12_heavy : YV yX12_heavy cX12_heavy 2 (some .int) 1 := ⟨gwt_7 177 (by decide +kernel) rfl, gwt_7 178 (by decide +kernel) rfl, gwt_1 13 (by decide +kernel) rfl, gwt_7 179 (by decide +kernel) rfl, by decide +kernel, by decide⟩
theorem lh_moment : Cond.methodLink RL 85 yL_moment ∈ GW ∧ Cond.static yL_moment ∈ GW ∧ Cond.initialized yL_moment.cls ∈ GW ∧ Cond.codeWith yL_moment cL_moment 4 (some .int) [(0, 9, 12, 13)] ∈ GW := ⟨gwt_6 108 (by decide +kernel) rfl, gwt_6 109 (by decide +kernel) rfl, gwt_1 0 (by decide +kernel) rfl, gwt_6 110 (by decide +kernel) rfl⟩
theorem lmL_87 : Cond.methodLink RL 87 yX12_moment ∈ GW := gwt_7 196 (by decide +kernel) rfl
theorem wlX12_moment : YV yX12_moment cX12_moment 2 (some .int) 1 := ⟨gwt_7 197 (by decide +kernel) rfl, gwt_7 198 (by decide +kernel) rfl, gwt_1 13 (by decide +kernel) rfl, gwt_7 199 (by decide +kernel) rfl, by decide +kernel, by decide⟩
theorem lmL_88 : Cond.methodLink RL 88 yX11_balanced ∈ GW := gwt_3 103 (by decide +kernel) rfl
theorem wlX11_balanced : YV yX11_balanced cX11_balanced 2 (some .int) 1 := ⟨gwt_3 104 (by decide +kernel) rfl, gwt_3 105 (by decide +kernel) rfl, gwt_1 1 (by decide +kernel) rfl, gwt_3 106 (by decide +kernel) rfl, by decide +kernel, by decide⟩
theorem lmL_91 : Cond.methodLink RL 91 yX12_balanced ∈ GW := gwt_7 204 (by decide +kernel) rfl
theorem wlX12_balanced : YV yX12_balanced cX12_balanced 2 (some .int) 1 := ⟨gwt_7 205 (by decide +kernel) rfl, gwt_7 206 (by decide +kernel) rfl, gwt_1 13 (by decide +kernel) rfl, gwt_7 207 (by decide +kernel) rfl, by decide +kernel, by decide⟩
theorem lmL_92 : Cond.methodLink RL 92 yX11_lies ∈ GW := gwt_3 154 (by decide +kernel) rfl
theorem wlX11_lies : YV yX11_lies cX11_lies 5 (some .int) 2 := ⟨gwt_3 155 (by decide +kernel) rfl, gwt_3 156 (by decide +kernel) rfl, gwt_1 1 (by decide +kernel) rfl, gwt_3 157 (by decide +kernel) rfl, by decide +kernel, by decide⟩
theorem lmL_95 : Cond.methodLink RL 95 yX12_lies ∈ GW := gwt_7 213 (by decide +kernel) rfl
theorem wlX12_lies : YV yX12_lies cX12_lies 4 (some .int) 2 := ⟨gwt_7 214 (by decide +kernel) rfl, gwt_7 215 (by decide +kernel) rfl, gwt_1 13 (by decide +kernel) rfl, gwt_7 216 (by decide +kernel) rfl, by decide +kernel, by decide⟩
theorem lmL_96 : Cond.methodLink RL 96 yX11_hover ∈ GW := gwt_3 163 (by decide +kernel) rfl
theorem wlX11_hover : YV yX11_hover cX11_hover 9 (some .int) 2 := ⟨gwt_3 164 (by decide +kernel) rfl, gwt_3 165 (by decide +kernel) rfl, gwt_1 1 (by decide +kernel) rfl, gwt_3 166 (by decide +kernel) rfl, by decide +kernel, by decide⟩
theorem lmL_99 : Cond.methodLink RL 99 yX12_hover ∈ GW := gwt_7 217 (by decide +kernel) rfl
theorem wlX12_hover : YV yX12_hover cX12_hover 7 (some .int) 2 := ⟨gwt_7 218 (by decide +kernel) rfl, gwt_7 219 (by decide +kernel) rfl, gwt_1 13 (by decide +kernel) rfl, gwt_7 220 (by decide +kernel) rfl, by decide +kernel, by decide⟩
theorem lmL_100 : Cond.methodLink RL 100 yX11_sign ∈ GW := gwt_3 177 (by decide +kernel) rfl
theorem wlX11_sign : YV yX11_sign cX11_sign 3 (some .int) 1 := ⟨gwt_3 178 (by decide +kernel) rfl, gwt_3 179 (by decide +kernel) rfl, gwt_1 1 (by decide +kernel) rfl, gwt_3 180 (by decide +kernel) rfl, by decide +kernel, by decide⟩
theorem lmL_103 : Cond.methodLink RL 103 yX12_sign ∈ GW := gwt_7 225 (by decide +kernel) rfl
theorem wlX12_sign : YV yX12_sign cX12_sign 3 (some .int) 1 := ⟨gwt_7 226 (by decide +kernel) rfl, gwt_7 227 (by decide +kernel) rfl, gwt_1 13 (by decide +kernel) rfl, gwt_7 228 (by decide +kernel) rfl, by decide +kernel, by decide⟩
theorem lmL_104 : Cond.methodLink RL 104 yX11_end ∈ GW := gwt_3 181 (by decide +kernel) rfl
theorem wlX11_end : YV yX11_end cX11_end 2 (some .boolean) 1 := ⟨gwt_3 182 (by decide +kernel) rfl, gwt_3 183 (by decide +kernel) rfl, gwt_1 1 (by decide +kernel) rfl, gwt_3 184 (by decide +kernel) rfl, by decide +kernel, by decide⟩
theorem lmL_108 : Cond.methodLink RL 108 yX12_end ∈ GW := gwt_7 229 (by decide +kernel) rfl
theorem wlX12_end : YV yX12_end cX12_end 2 (some .boolean) 1 := ⟨gwt_7 230 (by decide +kernel) rfl, gwt_7 231 (by decide +kernel) rfl, gwt_1 13 (by decide +kernel) rfl, gwt_7 232 (by decide +kernel) rfl, by decide +kernel, by decide⟩
theorem lmL_109 : Cond.methodLink RL 109 yX11_book ∈ GW := gwt_3 185 (by decide +kernel) rfl
theorem wlX11_book : YV yX11_book cX11_book 2 (some .int) 0 := ⟨gwt_3 186 (by decide +kernel) rfl, gwt_3 187 (by decide +kernel) rfl, gwt_1 1 (by decide +kernel) rfl, gwt_3 188 (by decide +kernel) rfl, by decide +kernel, by decide⟩
theorem lmL_112 : Cond.methodLink RL 112 yX12_book ∈ GW := gwt_7 233 (by decide +kernel) rfl
theorem wlX12_book : YV yX12_book cX12_book 4 (some .int) 0 := ⟨gwt_7 234 (by decide +kernel) rfl, gwt_7 235 (by decide +kernel) rfl, gwt_1 13 (by decide +kernel) rfl, gwt_7 236 (by decide +kernel) rfl, by decide +kernel, by decide⟩
theorem lh_line : Cond.methodLink RL 113 yL_line ∈ GW ∧ Cond.static yL_line ∈ GW ∧ Cond.initialized yL_line.cls ∈ GW ∧ Cond.codeWith yL_line cL_line 4 (some .int) [(0, 9, 12, 13)] ∈ GW := ⟨gwt_6 116 (by decide +kernel) rfl, gwt_6 117 (by decide +kernel) rfl, gwt_1 0 (by decide +kernel) rfl, gwt_6 118 (by decide +kernel) rfl⟩
theorem lmL_115 : Cond.methodLink RL 115 yX12_line ∈ GW := gwt_8 37 (by decide +kernel) rfl
theorem wlX12_line : YV yX12_line cX12_line 2 (some .int) 1 := ⟨gwt_8 38 (by decide +kernel) rfl, gwt_8 39 (by decide +kernel) rfl, gwt_1 13 (by decide +kernel) rfl, gwt_8 40 (by decide +kernel) rfl, by decide +kernel, by decide⟩
theorem lmL_116 : Cond.methodLink RL 116 yX11_morning ∈ GW := gwt_4 22 (by decide +kernel) rfl
theorem wlX11_morning : YV yX11_morning cX11_morning 3 (some .int) 0 := ⟨gwt_4 23 (by decide +kernel) rfl, gwt_4 24 (by decide +kernel) rfl, gwt_1 1 (by decide +kernel) rfl, gwt_4 25 (by decide +kernel) rfl, by decide +kernel, by decide⟩
theorem lmL_119 : Cond.methodLink RL 119 yX12_morning ∈ GW := gwt_8 45 (by decide +kernel) rfl
theorem wlX12_morning : YV yX12_morning cX12_morning 2 (some .int) 0 := ⟨gwt_8 46 (by decide +kernel) rfl, gwt_8 47 (by decide +kernel) rfl, gwt_1 13 (by decide +kernel) rfl, gwt_8 48 (by decide +kernel) rfl, by decide +kernel, by decide⟩
theorem lmL_120 : Cond.methodLink RL 120 yX11_holds ∈ GW := gwt_4 44 (by decide +kernel) rfl
theorem wlX11_holds : YV yX11_holds cX11_holds 5 (some .int) 1 := ⟨gwt_4 45 (by decide +kernel) rfl, gwt_4 46 (by decide +kernel) rfl, gwt_1 1 (by decide +kernel) rfl, gwt_4 47 (by decide +kernel) rfl, by decide +kernel, by decide⟩
theorem lmL_123 : Cond.methodLink RL 123 yX12_holds ∈ GW := gwt_8 57 (by decide +kernel) rfl
theorem wlX12_holds : YV yX12_holds cX12_holds 5 (some .int) 1 := ⟨gwt_8 58 (by decide +kernel) rfl, gwt_8 59 (by decide +kernel) rfl, gwt_1 13 (by decide +kernel) rfl, gwt_8 60 (by decide +kernel) rfl, by decide +kernel, by decide⟩
theorem lmL_124 : Cond.methodLink RL 124 yX11_liar ∈ GW := gwt_4 70 (by decide +kernel) rfl
theorem wlX11_liar : YV yX11_liar cX11_liar 16 (some .int) 4 := ⟨gwt_4 71 (by decide +kernel) rfl, gwt_4 72 (by decide +kernel) rfl, gwt_1 1 (by decide +kernel) rfl, gwt_4 73 (by decide +kernel) rfl, by decide +kernel, by decide⟩
theorem lmL_127 : Cond.methodLink RL 127 yX12_liar ∈ GW := gwt_8 77 (by decide +kernel) rfl
theorem wlX12_liar : YV yX12_liar cX12_liar 12 (some .int) 4 := ⟨gwt_8 78 (by decide +kernel) rfl, gwt_8 79 (by decide +kernel) rfl, gwt_1 13 (by decide +kernel) rfl, gwt_8 80 (by decide +kernel) rfl, by decide +kernel, by decide⟩
theorem lmL_128 : Cond.methodLink RL 128 yX11_two ∈ GW := gwt_4 74 (by decide +kernel) rfl
theorem wlX11_two : YV yX11_two cX11_two 16 (some .int) 4 := ⟨gwt_4 75 (by decide +kernel) rfl, gwt_4 76 (by decide +kernel) rfl, gwt_1 1 (by decide +kernel) rfl, gwt_4 77 (by decide +kernel) rfl, by decide +kernel, by decide⟩
theorem lmL_131 : Cond.methodLink RL 131 yX12_two ∈ GW := gwt_8 81 (by decide +kernel) rfl
theorem wlX12_two : YV yX12_two cX12_two 20 (some .int) 4 := ⟨gwt_8 82 (by decide +kernel) rfl, gwt_8 83 (by decide +kernel) rfl, gwt_1 13 (by decide +kernel) rfl, gwt_8 84 (by decide +kernel) rfl, by decide +kernel, by decide⟩
theorem lmL_132 : Cond.methodLink RL 132 yX11_pump ∈ GW := gwt_4 122 (by decide +kernel) rfl
theorem wlX11_pump : YV yX11_pump cX11_pump 6 (some .int) 4 := ⟨gwt_4 123 (by decide +kernel) rfl, gwt_4 124 (by decide +kernel) rfl, gwt_1 1 (by decide +kernel) rfl, gwt_4 125 (by decide +kernel) rfl, by decide +kernel, by decide⟩
theorem lmL_136 : Cond.methodLink RL 136 yX12_pump ∈ GW := gwt_8 85 (by decide +kernel) rfl
theorem wlX12_pump : YV yX12_pump cX12_pump 5 (some .int) 4 := ⟨gwt_8 86 (by decide +kernel) rfl, gwt_8 87 (by decide +kernel) rfl, gwt_1 13 (by decide +kernel) rfl, gwt_8 88 (by decide +kernel) rfl, by decide +kernel, by decide⟩
theorem lmL_137 : Cond.methodLink RL 137 yX11_run ∈ GW := gwt_4 135 (by decide +kernel) rfl
theorem wlX11_run : YV yX11_run cX11_run 3 (some .int) 2 := ⟨gwt_4 136 (by decide +kernel) rfl, gwt_4 137 (by decide +kernel) rfl, gwt_1 1 (by decide +kernel) rfl, gwt_4 138 (by decide +kernel) rfl, by decide +kernel, by decide⟩
theorem lmL_140 : Cond.methodLink RL 140 yX12_run ∈ GW := gwt_8 93 (by decide +kernel) rfl
theorem wlX12_run : YV yX12_run cX12_run 3 (some .int) 2 := ⟨gwt_8 94 (by decide +kernel) rfl, gwt_8 95 (by decide +kernel) rfl, gwt_1 13 (by decide +kernel) rfl, gwt_8 96 (by decide +kernel) rfl, by decide +kernel, by decide⟩
theorem lmL_141 : Cond.methodLink RL 141 yX11_best ∈ GW := gwt_4 157 (by decide +kernel) rfl
theorem wlX11_best : YV yX11_best cX11_best 3 (some .int) 2 := ⟨gwt_4 158 (by decide +kernel) rfl, gwt_4 159 (by decide +kernel) rfl, gwt_1 1 (by decide +kernel) rfl, gwt_4 160 (by decide +kernel) rfl, by decide +kernel, by decide⟩
theorem lmL_144 : Cond.methodLink RL 144 yX12_best ∈ GW := gwt_8 101 (by decide +kernel) rfl
theorem wlX12_best : YV yX12_best cX12_best 10 (some .int) 2 := ⟨gwt_8 102 (by decide +kernel) rfl, gwt_8 103 (by decide +kernel) rfl, gwt_1 13 (by decide +kernel) rfl, gwt_8 104 (by decide +kernel) rfl, by decide +kernel, by decide⟩
theorem lmL_145 : Cond.methodLink RL 145 yX11_trim ∈ GW := gwt_4 181 (by decide +kernel) rfl
theorem wlX11_trim : YV yX11_trim cX11_trim 4 (some .int) 2 := ⟨gwt_4 182 (by decide +kernel) rfl, gwt_4 183 (by decide +kernel) rfl, gwt_1 1 (by decide +kernel) rfl, gwt_4 184 (by decide +kernel) rfl, by decide +kernel, by decide⟩
theorem lmL_149 : Cond.methodLink RL 149 yX12_trim ∈ GW := gwt_8 105 (by decide +kernel) rfl
theorem wlX12_trim : YV yX12_trim cX12_trim 12 (some .int) 2 := ⟨gwt_8 106 (by decide +kernel) rfl, gwt_8 107 (by decide +kernel) rfl, gwt_1 13 (by decide +kernel) rfl, gwt_8 108 (by decide +kernel) rfl, by decide +kernel, by decide⟩
theorem lmL_150 : Cond.methodLink RL 150 yX11_reach ∈ GW := gwt_4 224 (by decide +kernel) rfl
theorem wlX11_reach : YV yX11_reach cX11_reach 3 (some .int) 1 := ⟨gwt_4 225 (by decide +kernel) rfl, gwt_4 226 (by decide +kernel) rfl, gwt_1 1 (by decide +kernel) rfl, gwt_4 227 (by decide +kernel) rfl, by decide +kernel, by decide⟩
theorem lmL_153 : Cond.methodLink RL 153 yX12_reach ∈ GW := gwt_8 109 (by decide +kernel) rfl
theorem wlX12_reach : YV yX12_reach cX12_reach 3 (some .int) 1 := ⟨gwt_8 110 (by decide +kernel) rfl, gwt_8 111 (by decide +kernel) rfl, gwt_1 13 (by decide +kernel) rfl, gwt_8 112 (by decide +kernel) rfl, by decide +kernel, by decide⟩
theorem lmL_154 : Cond.methodLink RL 154 yX11_shot ∈ GW := gwt_5 11 (by decide +kernel) rfl
theorem wlX11_shot : YV yX11_shot cX11_shot 11 (some .int) 5 := ⟨gwt_5 12 (by decide +kernel) rfl, gwt_5 13 (by decide +kernel) rfl, gwt_1 1 (by decide +kernel) rfl, gwt_5 14 (by decide +kernel) rfl, by decide +kernel, by decide⟩
theorem lmL_157 : Cond.methodLink RL 157 yX12_shot ∈ GW := gwt_8 125 (by decide +kernel) rfl
theorem wlX12_shot : YV yX12_shot cX12_shot 10 (some .int) 5 := ⟨gwt_8 126 (by decide +kernel) rfl, gwt_8 127 (by decide +kernel) rfl, gwt_1 13 (by decide +kernel) rfl, gwt_8 128 (by decide +kernel) rfl, by decide +kernel, by decide⟩
theorem lmL_158 : Cond.methodLink RL 158 yX11_dive ∈ GW := gwt_5 15 (by decide +kernel) rfl
theorem wlX11_dive : YV yX11_dive cX11_dive 6 (some .int) 3 := ⟨gwt_5 16 (by decide +kernel) rfl, gwt_5 17 (by decide +kernel) rfl, gwt_1 1 (by decide +kernel) rfl, gwt_5 18 (by decide +kernel) rfl, by decide +kernel, by decide⟩
theorem lmL_162 : Cond.methodLink RL 162 yX12_dive ∈ GW := gwt_8 129 (by decide +kernel) rfl
theorem wlX12_dive : YV yX12_dive cX12_dive 5 (some .int) 3 := ⟨gwt_8 130 (by decide +kernel) rfl, gwt_8 131 (by decide +kernel) rfl, gwt_1 13 (by decide +kernel) rfl, gwt_8 132 (by decide +kernel) rfl, by decide +kernel, by decide⟩
theorem lmL_163 : Cond.methodLink RL 163 yX11_forward ∈ GW := gwt_5 34 (by decide +kernel) rfl
theorem wlX11_forward : YV yX11_forward cX11_forward 14 (some .int) 5 := ⟨gwt_5 35 (by decide +kernel) rfl, gwt_5 36 (by decide +kernel) rfl, gwt_1 1 (by decide +kernel) rfl, gwt_5 37 (by decide +kernel) rfl, by decide +kernel, by decide⟩
theorem lmL_166 : Cond.methodLink RL 166 yX12_forward ∈ GW := gwt_8 141 (by decide +kernel) rfl
theorem wlX12_forward : YV yX12_forward cX12_forward 9 (some .int) 5 := ⟨gwt_8 142 (by decide +kernel) rfl, gwt_8 143 (by decide +kernel) rfl, gwt_1 13 (by decide +kernel) rfl, gwt_8 144 (by decide +kernel) rfl, by decide +kernel, by decide⟩
theorem lmL_167 : Cond.methodLink RL 167 yX11_carry ∈ GW := gwt_5 43 (by decide +kernel) rfl
theorem wlX11_carry : YV yX11_carry cX11_carry 5 (some .boolean) 3 := ⟨gwt_5 44 (by decide +kernel) rfl, gwt_5 45 (by decide +kernel) rfl, gwt_1 1 (by decide +kernel) rfl, gwt_5 46 (by decide +kernel) rfl, by decide +kernel, by decide⟩
theorem lmL_170 : Cond.methodLink RL 170 yX12_carry ∈ GW := gwt_8 145 (by decide +kernel) rfl
theorem wlX12_carry : YV yX12_carry cX12_carry 4 (some .boolean) 3 := ⟨gwt_8 146 (by decide +kernel) rfl, gwt_8 147 (by decide +kernel) rfl, gwt_1 13 (by decide +kernel) rfl, gwt_8 148 (by decide +kernel) rfl, by decide +kernel, by decide⟩
theorem lmL_171 : Cond.methodLink RL 171 yX11_telling ∈ GW := gwt_5 47 (by decide +kernel) rfl
theorem wlX11_telling : YV yX11_telling cX11_telling 3 (some .int) 0 := ⟨gwt_5 48 (by decide +kernel) rfl, gwt_5 49 (by decide +kernel) rfl, gwt_1 1 (by decide +kernel) rfl, gwt_5 50 (by decide +kernel) rfl, by decide +kernel, by decide⟩
theorem lmL_174 : Cond.methodLink RL 174 yX12_telling ∈ GW := gwt_8 149 (by decide +kernel) rfl
theorem wlX12_telling : YV yX12_telling cX12_telling 10 (some .int) 0 := ⟨gwt_8 150 (by decide +kernel) rfl, gwt_8 151 (by decide +kernel) rfl, gwt_1 13 (by decide +kernel) rfl, gwt_8 152 (by decide +kernel) rfl, by decide +kernel, by decide⟩
theorem lmL_175 : Cond.methodLink RL 175 yX11_gauge ∈ GW := gwt_5 77 (by decide +kernel) rfl
theorem wlX11_gauge : YV yX11_gauge cX11_gauge 6 (some .int) 4 := ⟨gwt_5 78 (by decide +kernel) rfl, gwt_5 79 (by decide +kernel) rfl, gwt_1 1 (by decide +kernel) rfl, gwt_5 80 (by decide +kernel) rfl, by decide +kernel, by decide⟩
theorem lmL_178 : Cond.methodLink RL 178 yX12_gauge ∈ GW := gwt_8 157 (by decide +kernel) rfl
theorem wlX12_gauge : YV yX12_gauge cX12_gauge 5 (some .int) 4 := ⟨gwt_8 158 (by decide +kernel) rfl, gwt_8 159 (by decide +kernel) rfl, gwt_1 13 (by decide +kernel) rfl, gwt_8 160 (by decide +kernel) rfl, by decide +kernel, by decide⟩
theorem lh_tells : Cond.methodLink RL 179 yL_tells ∈ GW ∧ Cond.static yL_tells ∈ GW ∧ Cond.initialized yL_tells.cls ∈ GW ∧ Cond.codeWith yL_tells cL_tells 7 (some .int) [(0, 14, 17, 13)] ∈ GW := ⟨gwt_6 125 (by decide +kernel) rfl, gwt_6 126 (by decide +kernel) rfl, gwt_1 0 (by decide +kernel) rfl, gwt_6 127 (by decide +kernel) rfl⟩
theorem lmL_182 : Cond.methodLink RL 182 yX12_tells ∈ GW := gwt_8 161 (by decide +kernel) rfl
theorem wlX12_tells : YV yX12_tells cX12_tells 5 (some .int) 4 := ⟨gwt_8 162 (by decide +kernel) rfl, gwt_8 163 (by decide +kernel) rfl, gwt_1 13 (by decide +kernel) rfl, gwt_8 164 (by decide +kernel) rfl, by decide +kernel, by decide⟩
theorem lmL_183 : Cond.methodLink RL 183 yX11_fits ∈ GW := gwt_5 85 (by decide +kernel) rfl
theorem wlX11_fits : YV yX11_fits cX11_fits 3 (some .int) 1 := ⟨gwt_5 86 (by decide +kernel) rfl, gwt_5 87 (by decide +kernel) rfl, gwt_1 1 (by decide +kernel) rfl, gwt_5 88 (by decide +kernel) rfl, by decide +kernel, by decide⟩
theorem lmL_186 : Cond.methodLink RL 186 yX12_fits ∈ GW := gwt_8 169 (by decide +kernel) rfl
theorem wlX12_fits : YV yX12_fits cX12_fits 4 (some .int) 1 := ⟨gwt_8 170 (by decide +kernel) rfl, gwt_8 171 (by decide +kernel) rfl, gwt_1 13 (by decide +kernel) rfl, gwt_8 172 (by decide +kernel) rfl, by decide +kernel, by decide⟩
theorem lmL_187 : Cond.methodLink RL 187 yX11_look ∈ GW := gwt_5 110 (by decide +kernel) rfl
theorem wlX11_look : YV yX11_look cX11_look 10 (some .int) 2 := ⟨gwt_5 111 (by decide +kernel) rfl, gwt_5 112 (by decide +kernel) rfl, gwt_1 1 (by decide +kernel) rfl, gwt_5 113 (by decide +kernel) rfl, by decide +kernel, by decide⟩
theorem lmL_190 : Cond.methodLink RL 190 yX12_look ∈ GW := gwt_8 177 (by decide +kernel) rfl
theorem wlX12_look : YV yX12_look cX12_look 13 (some .int) 2 := ⟨gwt_8 178 (by decide +kernel) rfl, gwt_8 179 (by decide +kernel) rfl, gwt_1 13 (by decide +kernel) rfl, gwt_8 180 (by decide +kernel) rfl, by decide +kernel, by decide⟩
theorem lmL_191 : Cond.methodLink RL 191 yX11_air ∈ GW := gwt_5 129 (by decide +kernel) rfl
theorem wlX11_air : YV yX11_air cX11_air 3 (some .int) 1 := ⟨gwt_5 130 (by decide +kernel) rfl, gwt_5 131 (by decide +kernel) rfl, gwt_1 1 (by decide +kernel) rfl, gwt_5 132 (by decide +kernel) rfl, by decide +kernel, by decide⟩
theorem lmL_194 : Cond.methodLink RL 194 yX12_air ∈ GW := gwt_8 185 (by decide +kernel) rfl
theorem wlX12_air : YV yX12_air cX12_air 3 (some .int) 1 := ⟨gwt_8 186 (by decide +kernel) rfl, gwt_8 187 (by decide +kernel) rfl, gwt_1 13 (by decide +kernel) rfl, gwt_8 188 (by decide +kernel) rfl, by decide +kernel, by decide⟩
theorem lmL_195 : Cond.methodLink RL 195 yX11_blow ∈ GW := gwt_5 133 (by decide +kernel) rfl
theorem wlX11_blow : YV yX11_blow cX11_blow 4 (some .int) 2 := ⟨gwt_5 134 (by decide +kernel) rfl, gwt_5 135 (by decide +kernel) rfl, gwt_1 1 (by decide +kernel) rfl, gwt_5 136 (by decide +kernel) rfl, by decide +kernel, by decide⟩
theorem lmL_198 : Cond.methodLink RL 198 yX12_blow ∈ GW := gwt_8 189 (by decide +kernel) rfl
theorem wlX12_blow : YV yX12_blow cX12_blow 4 (some .int) 2 := ⟨gwt_8 190 (by decide +kernel) rfl, gwt_8 191 (by decide +kernel) rfl, gwt_1 13 (by decide +kernel) rfl, gwt_8 192 (by decide +kernel) rfl, by decide +kernel, by decide⟩
theorem lmL_199 : Cond.methodLink RL 199 yX11_rise ∈ GW := gwt_5 140 (by decide +kernel) rfl
theorem wlX11_rise : YV yX11_rise cX11_rise 10 (some .int) 2 := ⟨gwt_5 141 (by decide +kernel) rfl, gwt_5 142 (by decide +kernel) rfl, gwt_1 1 (by decide +kernel) rfl, gwt_5 143 (by decide +kernel) rfl, by decide +kernel, by decide⟩
theorem lmL_202 : Cond.methodLink RL 202 yX12_rise ∈ GW := gwt_8 196 (by decide +kernel) rfl
theorem wlX12_rise : YV yX12_rise cX12_rise 9 (some .int) 2 := ⟨gwt_8 197 (by decide +kernel) rfl, gwt_8 198 (by decide +kernel) rfl, gwt_1 13 (by decide +kernel) rfl, gwt_8 199 (by decide +kernel) rfl, by decide +kernel, by decide⟩
theorem lmL_203 : Cond.methodLink RL 203 yX11_times ∈ GW := gwt_5 159 (by decide +kernel) rfl
theorem wlX11_times : YV yX11_times cX11_times 5 (some .int) 2 := ⟨gwt_5 160 (by decide +kernel) rfl, gwt_5 161 (by decide +kernel) rfl, gwt_1 1 (by decide +kernel) rfl, gwt_5 162 (by decide +kernel) rfl, by decide +kernel, by decide⟩
theorem lmL_206 : Cond.methodLink RL 206 yX12_times ∈ GW := gwt_8 204 (by decide +kernel) rfl
theorem wlX12_times : YV yX12_times cX12_times 5 (some .int) 2 := ⟨gwt_8 205 (by decide +kernel) rfl, gwt_8 206 (by decide +kernel) rfl, gwt_1 13 (by decide +kernel) rfl, gwt_8 207 (by decide +kernel) rfl, by decide +kernel, by decide⟩
theorem lmL_207 : Cond.methodLink RL 207 yX11_eats ∈ GW := gwt_5 163 (by decide +kernel) rfl
theorem wlX11_eats : YV yX11_eats cX11_eats 6 (some .boolean) 4 := ⟨gwt_5 164 (by decide +kernel) rfl, gwt_5 165 (by decide +kernel) rfl, gwt_1 1 (by decide +kernel) rfl, gwt_5 166 (by decide +kernel) rfl, by decide +kernel, by decide⟩
theorem lmL_211 : Cond.methodLink RL 211 yX12_eats ∈ GW := gwt_8 208 (by decide +kernel) rfl
theorem wlX12_eats : YV yX12_eats cX12_eats 5 (some .boolean) 4 := ⟨gwt_8 209 (by decide +kernel) rfl, gwt_8 210 (by decide +kernel) rfl, gwt_1 13 (by decide +kernel) rfl, gwt_8 211 (by decide +kernel) rfl, by decide +kernel, by decide⟩
theorem lmL_212 : Cond.methodLink RL 212 yX11_days ∈ GW := gwt_5 167 (by decide +kernel) rfl
theorem wlX11_days : YV yX11_days cX11_days 3 (some .int) 1 := ⟨gwt_5 168 (by decide +kernel) rfl, gwt_5 169 (by decide +kernel) rfl, gwt_1 1 (by decide +kernel) rfl, gwt_5 170 (by decide +kernel) rfl, by decide +kernel, by decide⟩
theorem lmL_215 : Cond.methodLink RL 215 yX12_days ∈ GW := gwt_8 212 (by decide +kernel) rfl
theorem wlX12_days : YV yX12_days cX12_days 4 (some .int) 1 := ⟨gwt_8 213 (by decide +kernel) rfl, gwt_8 214 (by decide +kernel) rfl, gwt_1 13 (by decide +kernel) rfl, gwt_8 215 (by decide +kernel) rfl, by decide +kernel, by decide⟩
theorem lmL_216 : Cond.methodLink RL 216 yX11_lasts ∈ GW := gwt_5 175 (by decide +kernel) rfl
theorem wlX11_lasts : YV yX11_lasts cX11_lasts 2 (some .int) 1 := ⟨gwt_5 176 (by decide +kernel) rfl, gwt_5 177 (by decide +kernel) rfl, gwt_1 1 (by decide +kernel) rfl, gwt_5 178 (by decide +kernel) rfl, by decide +kernel, by decide⟩
theorem lmL_219 : Cond.methodLink RL 219 yX12_lasts ∈ GW := gwt_8 216 (by decide +kernel) rfl
theorem wlX12_lasts : YV yX12_lasts cX12_lasts 2 (some .int) 1 := ⟨gwt_8 217 (by decide +kernel) rfl, gwt_8 218 (by decide +kernel) rfl, gwt_1 13 (by decide +kernel) rfl, gwt_8 219 (by decide +kernel) rfl, by decide +kernel, by decide⟩
theorem lmL_220 : Cond.methodLink RL 220 yX11_shift ∈ GW := gwt_5 187 (by decide +kernel) rfl
theorem wlX11_shift : YV yX11_shift cX11_shift 2 (some .int) 1 := ⟨gwt_5 188 (by decide +kernel) rfl, gwt_5 189 (by decide +kernel) rfl, gwt_1 1 (by decide +kernel) rfl, gwt_5 190 (by decide +kernel) rfl, by decide +kernel, by decide⟩
theorem lmL_223 : Cond.methodLink RL 223 yX12_shift ∈ GW := gwt_8 224 (by decide +kernel) rfl
theorem wlX12_shift : YV yX12_shift cX12_shift 8 (some .int) 1 := ⟨gwt_8 225 (by decide +kernel) rfl, gwt_8 226 (by decide +kernel) rfl, gwt_1 13 (by decide +kernel) rfl, gwt_8 227 (by decide +kernel) rfl, by decide +kernel, by decide⟩
theorem lmL_224 : Cond.methodLink RL 224 yX11_ground ∈ GW := gwt_5 206 (by decide +kernel) rfl
theorem wlX11_ground : YV yX11_ground cX11_ground 5 (some .int) 2 := ⟨gwt_5 207 (by decide +kernel) rfl, gwt_5 208 (by decide +kernel) rfl, gwt_1 1 (by decide +kernel) rfl, gwt_5 209 (by decide +kernel) rfl, by decide +kernel, by decide⟩
theorem lmL_227 : Cond.methodLink RL 227 yX12_ground ∈ GW := gwt_8 228 (by decide +kernel) rfl
theorem wlX12_ground : YV yX12_ground cX12_ground 8 (some .int) 2 := ⟨gwt_8 229 (by decide +kernel) rfl, gwt_8 230 (by decide +kernel) rfl, gwt_1 13 (by decide +kernel) rfl, gwt_8 231 (by decide +kernel) rfl, by decide +kernel, by decide⟩
theorem lmL_228 : Cond.methodLink RL 228 yX11_ice ∈ GW := gwt_5 219 (by decide +kernel) rfl
theorem wlX11_ice : YV yX11_ice cX11_ice 6 (some .int) 2 := ⟨gwt_5 220 (by decide +kernel) rfl, gwt_5 221 (by decide +kernel) rfl, gwt_1 1 (by decide +kernel) rfl, gwt_5 222 (by decide +kernel) rfl, by decide +kernel, by decide⟩
theorem lmL_231 : Cond.methodLink RL 231 yX12_ice ∈ GW := gwt_8 232 (by decide +kernel) rfl
theorem wlX12_ice : YV yX12_ice cX12_ice 6 (some .int) 2 := ⟨gwt_8 233 (by decide +kernel) rfl, gwt_8 234 (by decide +kernel) rfl, gwt_1 13 (by decide +kernel) rfl, gwt_8 235 (by decide +kernel) rfl, by decide +kernel, by decide⟩
theorem lmL_232 : Cond.methodLink RL 232 yX11_keep ∈ GW := gwt_5 223 (by decide +kernel) rfl
theorem wlX11_keep : YV yX11_keep cX11_keep 2 (some .boolean) 1 := ⟨gwt_5 224 (by decide +kernel) rfl, gwt_5 225 (by decide +kernel) rfl, gwt_1 1 (by decide +kernel) rfl, gwt_5 226 (by decide +kernel) rfl, by decide +kernel, by decide⟩
theorem lmL_235 : Cond.methodLink RL 235 yX12_keep ∈ GW := gwt_8 236 (by decide +kernel) rfl
theorem wlX12_keep : YV yX12_keep cX12_keep 3 (some .boolean) 1 := ⟨gwt_8 237 (by decide +kernel) rfl, gwt_8 238 (by decide +kernel) rfl, gwt_1 13 (by decide +kernel) rfl, gwt_8 239 (by decide +kernel) rfl, by decide +kernel, by decide⟩
theorem lmL_236 : Cond.methodLink RL 236 yX11_again ∈ GW := gwt_5 232 (by decide +kernel) rfl
theorem wlX11_again : YV yX11_again cX11_again 2 (some .boolean) 1 := ⟨gwt_5 233 (by decide +kernel) rfl, gwt_5 234 (by decide +kernel) rfl, gwt_1 1 (by decide +kernel) rfl, gwt_5 235 (by decide +kernel) rfl, by decide +kernel, by decide⟩
theorem lmL_239 : Cond.methodLink RL 239 yX12_again ∈ GW := gwt_9 0 (by decide +kernel) rfl
theorem wlX12_again : YV yX12_again cX12_again 3 (some .boolean) 1 := ⟨gwt_9 1 (by decide +kernel) rfl, gwt_9 2 (by decide +kernel) rfl, gwt_1 13 (by decide +kernel) rfl, gwt_9 3 (by decide +kernel) rfl, by decide +kernel, by decide⟩
theorem lmL_240 : Cond.methodLink RL 240 yX11_seed ∈ GW := gwt_6 0 (by decide +kernel) rfl
theorem wlX11_seed : YV yX11_seed cX11_seed 3 (some .int) 1 := ⟨gwt_6 1 (by decide +kernel) rfl, gwt_6 2 (by decide +kernel) rfl, gwt_1 1 (by decide +kernel) rfl, gwt_6 3 (by decide +kernel) rfl, by decide +kernel, by decide⟩
theorem lmL_243 : Cond.methodLink RL 243 yX12_seed ∈ GW := gwt_9 4 (by decide +kernel) rfl
theorem wlX12_seed : YV yX12_seed cX12_seed 3 (some .int) 1 := ⟨gwt_9 5 (by decide +kernel) rfl, gwt_9 6 (by decide +kernel) rfl, gwt_1 13 (by decide +kernel) rfl, gwt_9 7 (by decide +kernel) rfl, by decide +kernel, by decide⟩
theorem lmL_244 : Cond.methodLink RL 244 yX11_lie ∈ GW := gwt_6 4 (by decide +kernel) rfl
theorem wlX11_lie : YV yX11_lie cX11_lie 3 (some .int) 0 := ⟨gwt_6 5 (by decide +kernel) rfl, gwt_6 6 (by decide +kernel) rfl, gwt_1 1 (by decide +kernel) rfl, gwt_6 7 (by decide +kernel) rfl, by decide +kernel, by decide⟩
theorem lmL_247 : Cond.methodLink RL 247 yX12_lie ∈ GW := gwt_9 8 (by decide +kernel) rfl
theorem wlX12_lie : YV yX12_lie cX12_lie 4 (some .int) 0 := ⟨gwt_9 9 (by decide +kernel) rfl, gwt_9 10 (by decide +kernel) rfl, gwt_1 13 (by decide +kernel) rfl, gwt_9 11 (by decide +kernel) rfl, by decide +kernel, by decide⟩
theorem lmL_248 : Cond.methodLink RL 248 yX11_count ∈ GW := gwt_6 21 (by decide +kernel) rfl
theorem wlX11_count : YV yX11_count cX11_count 2 (some .int) 1 := ⟨gwt_6 22 (by decide +kernel) rfl, gwt_6 23 (by decide +kernel) rfl, gwt_1 1 (by decide +kernel) rfl, gwt_6 24 (by decide +kernel) rfl, by decide +kernel, by decide⟩
theorem lmL_251 : Cond.methodLink RL 251 yX12_count ∈ GW := gwt_9 17 (by decide +kernel) rfl
theorem wlX12_count : YV yX12_count cX12_count 2 (some .int) 1 := ⟨gwt_9 18 (by decide +kernel) rfl, gwt_9 19 (by decide +kernel) rfl, gwt_1 13 (by decide +kernel) rfl, gwt_9 20 (by decide +kernel) rfl, by decide +kernel, by decide⟩
theorem lh_row : Cond.methodLink RL 252 yL_row ∈ GW ∧ Cond.static yL_row ∈ GW ∧ Cond.initialized yL_row.cls ∈ GW ∧ Cond.codeWith yL_row cL_row 4 (some .int) [(0, 9, 12, 13)] ∈ GW := ⟨gwt_6 134 (by decide +kernel) rfl, gwt_6 135 (by decide +kernel) rfl, gwt_1 0 (by decide +kernel) rfl, gwt_6 136 (by decide +kernel) rfl⟩
theorem lmL_254 : Cond.methodLink RL 254 yX12_row ∈ GW := gwt_9 21 (by decide +kernel) rfl
theorem wlX12_row : YV yX12_row cX12_row 2 (some .int) 1 := ⟨gwt_9 22 (by decide +kernel) rfl, gwt_9 23 (by decide +kernel) rfl, gwt_1 13 (by decide +kernel) rfl, gwt_9 24 (by decide +kernel) rfl, by decide +kernel, by decide⟩
set_option maxRecDepth 20000 in
set_option maxHeartbeats 1000000 in
theorem lc_0 {p : Program} {l : Launch} {e : Env} {s : State} {m : MethodId} {b L : Nat} {xs : Nat → Int32} {below : List Frame} {meth : Method} {c : Code} {D : va_G} {ca adc adm : Nat → Nat} {ao : Nat} {Z : State → Prop} {cl sl i : Nat} {hc hm : HS} {x : Int64} (X : LX p l s m c b L xs D ca) (hi : i + 6 ≤ L) (hR : RR hc hm) (hop : ∀ {hc hm : HS}, RR hc hm → ∀ (p1 p2 p3 p4 p5 : Int32), OK2 (fX11_load p1 p2 p3 p4 p5 hc) (fX12_load p1 p2 p3 p4 p5 hm)) (hcl9 : cl + 1 ≤ 601024) (hsl9 : sl + 6 ≤ 7293034) (next : ∀ (hc1 hm1 : HS) (x1 : Int64), RR hc1 hm1 → LH p l e s m b below meth c D ca adc adm ao Z i 2382 hc1 hm1 x1 (cl + 1) (sl + 6)) : LH p l e s m b below meth c D ca adc adm ao Z i 264 hc hm x cl sl := by
  intro H locs ls hP hD hS hl
  have C := X.1
  obtain ⟨r, hc1, hm1, e1, e2, hR1⟩ := hop hR (xs (i + 1)) (xs (i + 2)) (xs (i + 3)) (xs (i + 4)) (xs (i + 5))
  refine lv_aload_n C.1 C.2.1 dL_law_264 rfl (lv_at hl 1 rfl) ?_
  refine l_arg (j := 1) X hS hi (by decide) (by decide) (lv_at hl 0 rfl) (lv_at hl 4 rfl) dL_law_265 dL_law_266 dL_law_268 dL_law_269 dL_law_270 ?_
  refine l_arg (j := 2) X hS hi (by decide) (by decide) (lv_at hl 0 rfl) (lv_at hl 4 rfl) dL_law_271 dL_law_272 dL_law_274 dL_law_275 dL_law_276 ?_
  refine l_arg (j := 3) X hS hi (by decide) (by decide) (lv_at hl 0 rfl) (lv_at hl 4 rfl) dL_law_277 dL_law_278 dL_law_280 dL_law_281 dL_law_282 ?_
  refine l_arg (j := 4) X hS hi (by decide) (by decide) (lv_at hl 0 rfl) (lv_at hl 4 rfl) dL_law_283 dL_law_284 dL_law_286 dL_law_287 dL_law_288 ?_
  refine l_arg (j := 5) X hS hi (by decide) (by decide) (lv_at hl 0 rfl) (lv_at hl 4 rfl) dL_law_289 dL_law_290 dL_law_292 dL_law_293 dL_law_294 ?_
  refine l_callC (d1 := 2) X hP hD hS hl.1 dL_law_295 lmL_36 wlX11_load (tX11_load e1) (by decide) (by decide) (by omega) (by omega) rfl rfl (by decide) rfl rfl (fun H1 locs1 hP1 hD1 hS1 => ?_)
  refine lv_aload_n C.1 C.2.1 dL_law_298 rfl (lv_at hl 2 rfl) ?_
  refine l_arg (j := 1) X hS1 hi (by decide) (by decide) (lv_at hl 0 rfl) (lv_at hl 4 rfl) dL_law_299 dL_law_300 dL_law_302 dL_law_303 dL_law_304 ?_
  refine l_arg (j := 2) X hS1 hi (by decide) (by decide) (lv_at hl 0 rfl) (lv_at hl 4 rfl) dL_law_305 dL_law_306 dL_law_308 dL_law_309 dL_law_310 ?_
  refine l_arg (j := 3) X hS1 hi (by decide) (by decide) (lv_at hl 0 rfl) (lv_at hl 4 rfl) dL_law_311 dL_law_312 dL_law_314 dL_law_315 dL_law_316 ?_
  refine l_arg (j := 4) X hS1 hi (by decide) (by decide) (lv_at hl 0 rfl) (lv_at hl 4 rfl) dL_law_317 dL_law_318 dL_law_320 dL_law_321 dL_law_322 ?_
  refine l_arg (j := 5) X hS1 hi (by decide) (by decide) (lv_at hl 0 rfl) (lv_at hl 4 rfl) dL_law_323 dL_law_324 dL_law_326 dL_law_327 dL_law_328 ?_
  refine l_callM (d1 := 1) X hP1 hD1 hS1 hl.1 dL_law_329 lmL_40 wlX12_load (tX12_load e2) (by decide) (by decide) (by omega) (by omega) rfl rfl (by simp [Value.category]) rfl rfl (fun H2 locs2 hP2 hD2 hS2 => ?_)
  refine lv_icmp_eq (tgt := 2382) C.1 C.2.1 dL_law_332 (by decide) (fun _ => ?_) (fun q => absurd rfl q)
  exact W.widen (k := cl + 1) (n := sl + 6) (by omega) (by omega) (next hc1 hm1 x hR1 H2 locs2 ls hP2 hD2 hS2 hl)
set_option maxRecDepth 20000 in
set_option maxHeartbeats 1000000 in
theorem lc_1 {p : Program} {l : Launch} {e : Env} {s : State} {m : MethodId} {b L : Nat} {xs : Nat → Int32} {below : List Frame} {meth : Method} {c : Code} {D : va_G} {ca adc adm : Nat → Nat} {ao : Nat} {Z : State → Prop} {cl sl i : Nat} {hc hm : HS} {x : Int64} (X : LX p l s m c b L xs D ca) (hi : i + 6 ≤ L) (hR : RR hc hm) (hop : ∀ {hc hm : HS}, RR hc hm → ∀ (p1 p2 : Int32), OK2 (fX11_fill p1 p2 hc) (fX12_fill p1 p2 hm)) (hcl9 : cl + 1 ≤ 601024) (hsl9 : sl + 6 ≤ 7293034) (next : ∀ (hc1 hm1 : HS) (x1 : Int64), RR hc1 hm1 → LH p l e s m b below meth c D ca adc adm ao Z i 2382 hc1 hm1 x1 (cl + 1) (sl + 6)) : LH p l e s m b below meth c D ca adc adm ao Z i 337 hc hm x cl sl := by
  intro H locs ls hP hD hS hl
  have C := X.1
  obtain ⟨r, hc1, hm1, e1, e2, hR1⟩ := hop hR (xs (i + 1)) (xs (i + 2))
  refine lv_aload_n C.1 C.2.1 dL_law_337 rfl (lv_at hl 1 rfl) ?_
  refine l_arg (j := 1) X hS hi (by decide) (by decide) (lv_at hl 0 rfl) (lv_at hl 4 rfl) dL_law_338 dL_law_339 dL_law_341 dL_law_342 dL_law_343 ?_
  refine l_arg (j := 2) X hS hi (by decide) (by decide) (lv_at hl 0 rfl) (lv_at hl 4 rfl) dL_law_344 dL_law_345 dL_law_347 dL_law_348 dL_law_349 ?_
  refine l_callC (d1 := 1) X hP hD hS hl.1 dL_law_350 lmL_41 wlX11_fill (tX11_fill e1) (by decide) (by decide) (by omega) (by omega) rfl rfl (by decide) rfl rfl (fun H1 locs1 hP1 hD1 hS1 => ?_)
  refine lv_aload_n C.1 C.2.1 dL_law_353 rfl (lv_at hl 2 rfl) ?_
  refine l_arg (j := 1) X hS1 hi (by decide) (by decide) (lv_at hl 0 rfl) (lv_at hl 4 rfl) dL_law_354 dL_law_355 dL_law_357 dL_law_358 dL_law_359 ?_
  refine l_arg (j := 2) X hS1 hi (by decide) (by decide) (lv_at hl 0 rfl) (lv_at hl 4 rfl) dL_law_360 dL_law_361 dL_law_363 dL_law_364 dL_law_365 ?_
  refine l_callM (d1 := 2) X hP1 hD1 hS1 hl.1 dL_law_366 lmL_44 wlX12_fill (tX12_fill e2) (by decide) (by decide) (by omega) (by omega) rfl rfl (by simp [Value.category]) rfl rfl (fun H2 locs2 hP2 hD2 hS2 => ?_)
  refine lv_icmp_eq (tgt := 2382) C.1 C.2.1 dL_law_369 (by decide) (fun _ => ?_) (fun q => absurd rfl q)
  exact W.widen (k := cl + 1) (n := sl + 6) (by omega) (by omega) (next hc1 hm1 x hR1 H2 locs2 ls hP2 hD2 hS2 hl)
set_option maxRecDepth 20000 in
set_option maxHeartbeats 1000000 in
theorem lc_2 {p : Program} {l : Launch} {e : Env} {s : State} {m : MethodId} {b L : Nat} {xs : Nat → Int32} {below : List Frame} {meth : Method} {c : Code} {D : va_G} {ca adc adm : Nat → Nat} {ao : Nat} {Z : State → Prop} {cl sl i : Nat} {hc hm : HS} {x : Int64} (X : LX p l s m c b L xs D ca) (hi : i + 6 ≤ L) (hR : RR hc hm) (hop : ∀ {hc hm : HS}, RR hc hm → ∀ (p1 p2 p3 p4 : Int32), OK2 (fX11_sheet p1 p2 p3 p4 hc) (fX12_sheet p1 p2 p3 p4 hm)) (hcl9 : cl + 1 ≤ 601024) (hsl9 : sl + 6 ≤ 7293034) (next : ∀ (hc1 hm1 : HS) (x1 : Int64), RR hc1 hm1 → LH p l e s m b below meth c D ca adc adm ao Z i 2382 hc1 hm1 x1 (cl + 1) (sl + 6)) : LH p l e s m b below meth c D ca adc adm ao Z i 374 hc hm x cl sl := by
  intro H locs ls hP hD hS hl
  have C := X.1
  obtain ⟨r, hc1, hm1, e1, e2, hR1⟩ := hop hR (xs (i + 1)) (xs (i + 2)) (xs (i + 3)) (xs (i + 4))
  refine lv_aload_n C.1 C.2.1 dL_law_374 rfl (lv_at hl 1 rfl) ?_
  refine l_arg (j := 1) X hS hi (by decide) (by decide) (lv_at hl 0 rfl) (lv_at hl 4 rfl) dL_law_375 dL_law_376 dL_law_378 dL_law_379 dL_law_380 ?_
  refine l_arg (j := 2) X hS hi (by decide) (by decide) (lv_at hl 0 rfl) (lv_at hl 4 rfl) dL_law_381 dL_law_382 dL_law_384 dL_law_385 dL_law_386 ?_
  refine l_arg (j := 3) X hS hi (by decide) (by decide) (lv_at hl 0 rfl) (lv_at hl 4 rfl) dL_law_387 dL_law_388 dL_law_390 dL_law_391 dL_law_392 ?_
  refine l_arg (j := 4) X hS hi (by decide) (by decide) (lv_at hl 0 rfl) (lv_at hl 4 rfl) dL_law_393 dL_law_394 dL_law_396 dL_law_397 dL_law_398 ?_
  refine l_callC (d1 := 2) X hP hD hS hl.1 dL_law_399 lmL_45 wlX11_sheet (tX11_sheet e1) (by decide) (by decide) (by omega) (by omega) rfl rfl (by decide) rfl rfl (fun H1 locs1 hP1 hD1 hS1 => ?_)
  refine lv_aload_n C.1 C.2.1 dL_law_402 rfl (lv_at hl 2 rfl) ?_
  refine l_arg (j := 1) X hS1 hi (by decide) (by decide) (lv_at hl 0 rfl) (lv_at hl 4 rfl) dL_law_403 dL_law_404 dL_law_406 dL_law_407 dL_law_408 ?_
  refine l_arg (j := 2) X hS1 hi (by decide) (by decide) (lv_at hl 0 rfl) (lv_at hl 4 rfl) dL_law_409 dL_law_410 dL_law_412 dL_law_413 dL_law_414 ?_
  refine l_arg (j := 3) X hS1 hi (by decide) (by decide) (lv_at hl 0 rfl) (lv_at hl 4 rfl) dL_law_415 dL_law_416 dL_law_418 dL_law_419 dL_law_420 ?_
  refine l_arg (j := 4) X hS1 hi (by decide) (by decide) (lv_at hl 0 rfl) (lv_at hl 4 rfl) dL_law_421 dL_law_422 dL_law_424 dL_law_425 dL_law_426 ?_
  refine l_callM (d1 := 1) X hP1 hD1 hS1 hl.1 dL_law_427 lmL_48 wlX12_sheet (tX12_sheet e2) (by decide) (by decide) (by omega) (by omega) rfl rfl (by simp [Value.category]) rfl rfl (fun H2 locs2 hP2 hD2 hS2 => ?_)
  refine lv_icmp_eq (tgt := 2382) C.1 C.2.1 dL_law_430 (by decide) (fun _ => ?_) (fun q => absurd rfl q)
  exact W.widen (k := cl + 1) (n := sl + 6) (by omega) (by omega) (next hc1 hm1 x hR1 H2 locs2 ls hP2 hD2 hS2 hl)
set_option maxRecDepth 20000 in
set_option maxHeartbeats 1000000 in
theorem lc_3 {p : Program} {l : Launch} {e : Env} {s : State} {m : MethodId} {b L : Nat} {xs : Nat → Int32} {below : List Frame} {meth : Method} {c : Code} {D : va_G} {ca adc adm : Nat → Nat} {ao : Nat} {Z : State → Prop} {cl sl i : Nat} {hc hm : HS} {x : Int64} (X : LX p l s m c b L xs D ca) (hi : i + 6 ≤ L) (hR : RR hc hm) (hop : ∀ {hc hm : HS}, RR hc hm → ∀ (p1 p2 p3 : Int32), OK2 (fX11_base p1 p2 p3 hc) (fX12_base p1 p2 p3 hm)) (hcl9 : cl + 1 ≤ 601024) (hsl9 : sl + 6 ≤ 7293034) (next : ∀ (hc1 hm1 : HS) (x1 : Int64), RR hc1 hm1 → LH p l e s m b below meth c D ca adc adm ao Z i 2382 hc1 hm1 x1 (cl + 1) (sl + 6)) : LH p l e s m b below meth c D ca adc adm ao Z i 435 hc hm x cl sl := by
  intro H locs ls hP hD hS hl
  have C := X.1
  obtain ⟨r, hc1, hm1, e1, e2, hR1⟩ := hop hR (xs (i + 1)) (xs (i + 2)) (xs (i + 3))
  refine lv_aload_n C.1 C.2.1 dL_law_435 rfl (lv_at hl 1 rfl) ?_
  refine l_arg (j := 1) X hS hi (by decide) (by decide) (lv_at hl 0 rfl) (lv_at hl 4 rfl) dL_law_436 dL_law_437 dL_law_439 dL_law_440 dL_law_441 ?_
  refine l_arg (j := 2) X hS hi (by decide) (by decide) (lv_at hl 0 rfl) (lv_at hl 4 rfl) dL_law_442 dL_law_443 dL_law_445 dL_law_446 dL_law_447 ?_
  refine l_arg (j := 3) X hS hi (by decide) (by decide) (lv_at hl 0 rfl) (lv_at hl 4 rfl) dL_law_448 dL_law_449 dL_law_451 dL_law_452 dL_law_453 ?_
  refine l_callC (d1 := 1) X hP hD hS hl.1 dL_law_454 lmL_49 wlX11_base (tX11_base e1) (by decide) (by decide) (by omega) (by omega) rfl rfl (by decide) rfl rfl (fun H1 locs1 hP1 hD1 hS1 => ?_)
  refine lv_aload_n C.1 C.2.1 dL_law_457 rfl (lv_at hl 2 rfl) ?_
  refine l_arg (j := 1) X hS1 hi (by decide) (by decide) (lv_at hl 0 rfl) (lv_at hl 4 rfl) dL_law_458 dL_law_459 dL_law_461 dL_law_462 dL_law_463 ?_
  refine l_arg (j := 2) X hS1 hi (by decide) (by decide) (lv_at hl 0 rfl) (lv_at hl 4 rfl) dL_law_464 dL_law_465 dL_law_467 dL_law_468 dL_law_469 ?_
  refine l_arg (j := 3) X hS1 hi (by decide) (by decide) (lv_at hl 0 rfl) (lv_at hl 4 rfl) dL_law_470 dL_law_471 dL_law_473 dL_law_474 dL_law_475 ?_
  refine l_callM (d1 := 1) X hP1 hD1 hS1 hl.1 dL_law_476 lmL_53 wlX12_base (tX12_base e2) (by decide) (by decide) (by omega) (by omega) rfl rfl (by simp [Value.category]) rfl rfl (fun H2 locs2 hP2 hD2 hS2 => ?_)
  refine lv_icmp_eq (tgt := 2382) C.1 C.2.1 dL_law_479 (by decide) (fun _ => ?_) (fun q => absurd rfl q)
  exact W.widen (k := cl + 1) (n := sl + 6) (by omega) (by omega) (next hc1 hm1 x hR1 H2 locs2 ls hP2 hD2 hS2 hl)
set_option maxRecDepth 20000 in
set_option maxHeartbeats 1000000 in
theorem lc_4 {p : Program} {l : Launch} {e : Env} {s : State} {m : MethodId} {b L : Nat} {xs : Nat → Int32} {below : List Frame} {meth : Method} {c : Code} {D : va_G} {ca adc adm : Nat → Nat} {ao : Nat} {Z : State → Prop} {cl sl i : Nat} {hc hm : HS} {x : Int64} (X : LX p l s m c b L xs D ca) (hi : i + 6 ≤ L) (hR : RR hc hm) (hop : ∀ {hc hm : HS}, RR hc hm → ∀ (p1 p2 : Int32), OK2 (fX11_hull p1 p2 hc) (fX12_hull p1 p2 hm)) (hcl9 : cl + 1 ≤ 601024) (hsl9 : sl + 6 ≤ 7293034) (next : ∀ (hc1 hm1 : HS) (x1 : Int64), RR hc1 hm1 → LH p l e s m b below meth c D ca adc adm ao Z i 2382 hc1 hm1 x1 (cl + 1) (sl + 6)) : LH p l e s m b below meth c D ca adc adm ao Z i 484 hc hm x cl sl := by
  intro H locs ls hP hD hS hl
  have C := X.1
  obtain ⟨r, hc1, hm1, e1, e2, hR1⟩ := hop hR (xs (i + 1)) (xs (i + 2))
  refine lv_aload_n C.1 C.2.1 dL_law_484 rfl (lv_at hl 1 rfl) ?_
  refine l_arg (j := 1) X hS hi (by decide) (by decide) (lv_at hl 0 rfl) (lv_at hl 4 rfl) dL_law_485 dL_law_486 dL_law_488 dL_law_489 dL_law_490 ?_
  refine l_arg (j := 2) X hS hi (by decide) (by decide) (lv_at hl 0 rfl) (lv_at hl 4 rfl) dL_law_491 dL_law_492 dL_law_494 dL_law_495 dL_law_496 ?_
  refine l_callC (d1 := 1) X hP hD hS hl.1 dL_law_497 lmL_54 wlX11_hull (tX11_hull e1) (by decide) (by decide) (by omega) (by omega) rfl rfl (by decide) rfl rfl (fun H1 locs1 hP1 hD1 hS1 => ?_)
  refine lv_aload_n C.1 C.2.1 dL_law_500 rfl (lv_at hl 2 rfl) ?_
  refine l_arg (j := 1) X hS1 hi (by decide) (by decide) (lv_at hl 0 rfl) (lv_at hl 4 rfl) dL_law_501 dL_law_502 dL_law_504 dL_law_505 dL_law_506 ?_
  refine l_arg (j := 2) X hS1 hi (by decide) (by decide) (lv_at hl 0 rfl) (lv_at hl 4 rfl) dL_law_507 dL_law_508 dL_law_510 dL_law_511 dL_law_512 ?_
  refine l_callM (d1 := 1) X hP1 hD1 hS1 hl.1 dL_law_513 lmL_58 wlX12_hull (tX12_hull e2) (by decide) (by decide) (by omega) (by omega) rfl rfl (by simp [Value.category]) rfl rfl (fun H2 locs2 hP2 hD2 hS2 => ?_)
  refine lv_icmp_eq (tgt := 2382) C.1 C.2.1 dL_law_516 (by decide) (fun _ => ?_) (fun q => absurd rfl q)
  exact W.widen (k := cl + 1) (n := sl + 6) (by omega) (by omega) (next hc1 hm1 x hR1 H2 locs2 ls hP2 hD2 hS2 hl)
set_option maxRecDepth 20000 in
set_option maxHeartbeats 1000000 in
theorem lc_5 {p : Program} {l : Launch} {e : Env} {s : State} {m : MethodId} {b L : Nat} {xs : Nat → Int32} {below : List Frame} {meth : Method} {c : Code} {D : va_G} {ca adc adm : Nat → Nat} {ao : Nat} {Z : State → Prop} {cl sl i : Nat} {hc hm : HS} {x : Int64} (X : LX p l s m c b L xs D ca) (hi : i + 6 ≤ L) (hR : RR hc hm) (hop : ∀ {hc hm : HS}, RR hc hm → ∀ (p1 p2 : Int32), OK2 (fX11_layer p1 p2 hc) (fX12_layer p1 p2 hm)) (hcl9 : cl + 1 ≤ 601024) (hsl9 : sl + 6 ≤ 7293034) (next : ∀ (hc1 hm1 : HS) (x1 : Int64), RR hc1 hm1 → LH p l e s m b below meth c D ca adc adm ao Z i 2382 hc1 hm1 x1 (cl + 1) (sl + 6)) : LH p l e s m b below meth c D ca adc adm ao Z i 521 hc hm x cl sl := by
  intro H locs ls hP hD hS hl
  have C := X.1
  obtain ⟨r, hc1, hm1, e1, e2, hR1⟩ := hop hR (xs (i + 1)) (xs (i + 2))
  refine lv_aload_n C.1 C.2.1 dL_law_521 rfl (lv_at hl 1 rfl) ?_
  refine l_arg (j := 1) X hS hi (by decide) (by decide) (lv_at hl 0 rfl) (lv_at hl 4 rfl) dL_law_522 dL_law_523 dL_law_525 dL_law_526 dL_law_527 ?_
  refine l_arg (j := 2) X hS hi (by decide) (by decide) (lv_at hl 0 rfl) (lv_at hl 4 rfl) dL_law_528 dL_law_529 dL_law_531 dL_law_532 dL_law_533 ?_
  refine l_callC (d1 := 2) X hP hD hS hl.1 dL_law_534 lmL_59 wlX11_layer (tX11_layer e1) (by decide) (by decide) (by omega) (by omega) rfl rfl (by decide) rfl rfl (fun H1 locs1 hP1 hD1 hS1 => ?_)
  refine lv_aload_n C.1 C.2.1 dL_law_537 rfl (lv_at hl 2 rfl) ?_
  refine l_arg (j := 1) X hS1 hi (by decide) (by decide) (lv_at hl 0 rfl) (lv_at hl 4 rfl) dL_law_538 dL_law_539 dL_law_541 dL_law_542 dL_law_543 ?_
  refine l_arg (j := 2) X hS1 hi (by decide) (by decide) (lv_at hl 0 rfl) (lv_at hl 4 rfl) dL_law_544 dL_law_545 dL_law_547 dL_law_548 dL_law_549 ?_
  refine l_callM (d1 := 2) X hP1 hD1 hS1 hl.1 dL_law_550 lmL_62 wlX12_layer (tX12_layer e2) (by decide) (by decide) (by omega) (by omega) rfl rfl (by simp [Value.category]) rfl rfl (fun H2 locs2 hP2 hD2 hS2 => ?_)
  refine lv_icmp_eq (tgt := 2382) C.1 C.2.1 dL_law_553 (by decide) (fun _ => ?_) (fun q => absurd rfl q)
  exact W.widen (k := cl + 1) (n := sl + 6) (by omega) (by omega) (next hc1 hm1 x hR1 H2 locs2 ls hP2 hD2 hS2 hl)
set_option maxRecDepth 20000 in
set_option maxHeartbeats 1000000 in
theorem lc_6 {p : Program} {l : Launch} {e : Env} {s : State} {m : MethodId} {b L : Nat} {xs : Nat → Int32} {below : List Frame} {meth : Method} {c : Code} {D : va_G} {ca adc adm : Nat → Nat} {ao : Nat} {Z : State → Prop} {cl sl i : Nat} {hc hm : HS} {x : Int64} (X : LX p l s m c b L xs D ca) (hi : i + 6 ≤ L) (hR : RR hc hm) (hop : ∀ {hc hm : HS}, RR hc hm → OK2 (fX11_mix  hc) (fX12_mix  hm)) (hcl9 : cl + 1 ≤ 601024) (hsl9 : sl + 6 ≤ 7293034) (next : ∀ (hc1 hm1 : HS) (x1 : Int64), RR hc1 hm1 → LH p l e s m b below meth c D ca adc adm ao Z i 2382 hc1 hm1 x1 (cl + 1) (sl + 6)) : LH p l e s m b below meth c D ca adc adm ao Z i 558 hc hm x cl sl := by
  intro H locs ls hP hD hS hl
  have C := X.1
  obtain ⟨r, hc1, hm1, e1, e2, hR1⟩ := hop hR 
  refine lv_aload_n C.1 C.2.1 dL_law_558 rfl (lv_at hl 1 rfl) ?_
  refine l_callC (d1 := 0) X hP hD hS hl.1 dL_law_559 lmL_63 wlX11_mix (tX11_mix e1) (by decide) (by decide) (by omega) (by omega) rfl rfl (by decide) rfl rfl (fun H1 locs1 hP1 hD1 hS1 => ?_)
  refine lv_aload_n C.1 C.2.1 dL_law_562 rfl (lv_at hl 2 rfl) ?_
  refine l_callM (d1 := 0) X hP1 hD1 hS1 hl.1 dL_law_563 lmL_67 wlX12_mix (tX12_mix e2) (by decide) (by decide) (by omega) (by omega) rfl rfl (by simp [Value.category]) rfl rfl (fun H2 locs2 hP2 hD2 hS2 => ?_)
  refine lv_icmp_eq (tgt := 2382) C.1 C.2.1 dL_law_566 (by decide) (fun _ => ?_) (fun q => absurd rfl q)
  exact W.widen (k := cl + 1) (n := sl + 6) (by omega) (by omega) (next hc1 hm1 x hR1 H2 locs2 ls hP2 hD2 hS2 hl)
set_option maxRecDepth 20000 in
set_option maxHeartbeats 1000000 in
theorem lc_7 {p : Program} {l : Launch} {e : Env} {s : State} {m : MethodId} {b L : Nat} {xs : Nat → Int32} {below : List Frame} {meth : Method} {c : Code} {D : va_G} {ca adc adm : Nat → Nat} {ao : Nat} {Z : State → Prop} {cl sl i : Nat} {hc hm : HS} {x : Int64} (X : LX p l s m c b L xs D ca) (hi : i + 6 ≤ L) (hR : RR hc hm) (hop : ∀ {hc hm : HS}, RR hc hm → ∀ (p1 p2 : Int32), OK2 (fX11_slack p1 p2 hc) (fX12_slack p1 p2 hm)) (hcl9 : cl + 1 ≤ 601024) (hsl9 : sl + 6 ≤ 7293034) (next : ∀ (hc1 hm1 : HS) (x1 : Int64), RR hc1 hm1 → LH p l e s m b below meth c D ca adc adm ao Z i 2382 hc1 hm1 x1 (cl + 1) (sl + 6)) : LH p l e s m b below meth c D ca adc adm ao Z i 571 hc hm x cl sl := by
  intro H locs ls hP hD hS hl
  have C := X.1
  obtain ⟨r, hc1, hm1, e1, e2, hR1⟩ := hop hR (xs (i + 1)) (xs (i + 2))
  refine lv_aload_n C.1 C.2.1 dL_law_571 rfl (lv_at hl 1 rfl) ?_
  refine l_arg (j := 1) X hS hi (by decide) (by decide) (lv_at hl 0 rfl) (lv_at hl 4 rfl) dL_law_572 dL_law_573 dL_law_575 dL_law_576 dL_law_577 ?_
  refine l_arg (j := 2) X hS hi (by decide) (by decide) (lv_at hl 0 rfl) (lv_at hl 4 rfl) dL_law_578 dL_law_579 dL_law_581 dL_law_582 dL_law_583 ?_
  refine l_callC (d1 := 1) X hP hD hS hl.1 dL_law_584 lmL_68 wlX11_slack (tX11_slack e1) (by decide) (by decide) (by omega) (by omega) rfl rfl (by decide) rfl rfl (fun H1 locs1 hP1 hD1 hS1 => ?_)
  refine lv_aload_n C.1 C.2.1 dL_law_587 rfl (lv_at hl 2 rfl) ?_
  refine l_arg (j := 1) X hS1 hi (by decide) (by decide) (lv_at hl 0 rfl) (lv_at hl 4 rfl) dL_law_588 dL_law_589 dL_law_591 dL_law_592 dL_law_593 ?_
  refine l_arg (j := 2) X hS1 hi (by decide) (by decide) (lv_at hl 0 rfl) (lv_at hl 4 rfl) dL_law_594 dL_law_595 dL_law_597 dL_law_598 dL_law_599 ?_
  refine l_callM (d1 := 1) X hP1 hD1 hS1 hl.1 dL_law_600 lmL_71 wlX12_slack (tX12_slack e2) (by decide) (by decide) (by omega) (by omega) rfl rfl (by simp [Value.category]) rfl rfl (fun H2 locs2 hP2 hD2 hS2 => ?_)
  refine lv_icmp_eq (tgt := 2382) C.1 C.2.1 dL_law_603 (by decide) (fun _ => ?_) (fun q => absurd rfl q)
  exact W.widen (k := cl + 1) (n := sl + 6) (by omega) (by omega) (next hc1 hm1 x hR1 H2 locs2 ls hP2 hD2 hS2 hl)
set_option maxRecDepth 20000 in
set_option maxHeartbeats 1000000 in
theorem lc_8 {p : Program} {l : Launch} {e : Env} {s : State} {m : MethodId} {b L : Nat} {xs : Nat → Int32} {below : List Frame} {meth : Method} {c : Code} {D : va_G} {ca adc adm : Nat → Nat} {ao : Nat} {Z : State → Prop} {cl sl i : Nat} {hc hm : HS} {x : Int64} (X : LX p l s m c b L xs D ca) (hi : i + 6 ≤ L) (hR : RR hc hm) (hop : ∀ {hc hm : HS}, RR hc hm → ∀ (p1 p2 : Int32), OKX (fX11_of p1 p2 hc) (fX12_of p1 p2 hm) (fX11_of_x11 p1 p2 hc = some hc ∨ fX11_of_x106 p1 p2 hc = some hc) hc) (hcl9 : cl + 1 ≤ 601024) (hsl9 : sl + 6 ≤ 7293034) (next : ∀ (hc1 hm1 : HS) (x1 : Int64), RR hc1 hm1 → LH p l e s m b below meth c D ca adc adm ao Z i 2382 hc1 hm1 x1 (cl + 1) (sl + 6)) : LH p l e s m b below meth c D ca adc adm ao Z i 608 hc hm x cl sl := by
  intro H locs ls hP hD hS hl
  have C := X.1
  rcases hop hR (xs (i + 1)) (xs (i + 2)) with ⟨r, hc1, hm1, e1, e2, eT, hR1⟩ | ⟨r, hm1, eX, e2, eT, hR1⟩
  · refine lv_aload_n C.1 C.2.1 dL_law_608 rfl (lv_at hl 1 rfl) ?_
    refine l_arg (j := 1) X hS hi (by decide) (by decide) (lv_at hl 0 rfl) (lv_at hl 4 rfl) dL_law_609 dL_law_610 dL_law_612 dL_law_613 dL_law_614 ?_
    refine l_arg (j := 2) X hS hi (by decide) (by decide) (lv_at hl 0 rfl) (lv_at hl 4 rfl) dL_law_615 dL_law_616 dL_law_618 dL_law_619 dL_law_620 ?_
    refine lv_aload_n C.1 C.2.1 dL_law_621 rfl (lv_at hl 3 rfl) ?_
    refine l_help (n := 4) (d1 := 1) (h1 := hc1) (x1 := r.toInt64) (k := 0) (As := [.ref (adc 0), .int (xs (i + 1)), .int (xs (i + 2)), .ref ao]) X hP hD hS hl.1 dL_law_622 lh_of (by decide +kernel) (hp_of l X.2.1 D ca adc ao hc hc1 (xs (i + 1)) (xs (i + 2)) 0 x r.toInt64 (Or.inl ⟨r, e1, rfl, rfl⟩)) (by decide) (by decide) hcl9 hsl9 rfl (by decide) rfl (fun H1 locs1 hP1 hD1 hS1 => ?_)
    refine lv_istore (lv' := (5, .int 0) :: lv5 b adc adm ao i) C.1 C.2.1 dL_law_625 hl (by decide) rfl (fun ls hl => ?_)
    refine lv_aload_n C.1 C.2.1 dL_law_627 rfl (lv_at hl 3 rfl) ?_
    refine l_arg (j := 1) X hS1 hi (by decide) (by decide) (lv_at hl 1 rfl) (lv_at hl 5 rfl) dL_law_628 dL_law_629 dL_law_631 dL_law_632 dL_law_633 ?_
    refine l_arg (j := 2) X hS1 hi (by decide) (by decide) (lv_at hl 1 rfl) (lv_at hl 5 rfl) dL_law_634 dL_law_635 dL_law_637 dL_law_638 dL_law_639 ?_
    refine l_callM (d1 := 2) X hP1 hD1 hS1 hl.1 dL_law_640 lmL_77 wlX12_of (tX12_of e2) (by decide) (by decide) (by omega) (by omega) rfl rfl (by decide) rfl rfl (fun H2 locs2 hP2 hD2 hS2 => ?_)
    refine lv_istore (lv' := (6, .int r) :: (5, .int 0) :: lv5 b adc adm ao i) C.1 C.2.1 dL_law_643 hl (by decide) rfl (fun ls hl => ?_)
    refine lv_aload_n C.1 C.2.1 dL_law_645 rfl (lv_at hl 4 rfl) ?_
    refine l_callM (d1 := 0) (r := gI hm1 0 22) (h1 := hm1) X hP2 hD2 hS2 hl.1 dL_law_646 lmL_78 wlX12_thrown (tX12_thrown rfl) (by decide) (by decide) (by omega) (by omega) rfl rfl (by decide) rfl rfl (fun H3 locs3 hP3 hD3 hS3 => ?_)
    refine lv_iload C.1 C.2.1 dL_law_649 (lv_at hl 1 rfl) ?_
    refine lv_icmp_eq (tgt := 656) C.1 C.2.1 dL_law_651 (by decide) (fun _ => ?_) (fun q => absurd eT q)
    refine lv_iload C.1 C.2.1 dL_law_656 (lv_at hl 1 rfl) ?_
    refine lv_if_ne (tgt := 673) C.1 C.2.1 dL_law_658 (by decide) (fun q => absurd rfl q) (fun _ => ?_)
    refine lv_aload_n C.1 C.2.1 dL_law_661 rfl (lv_at hl 5 rfl) ?_
    refine lv_iconst (v := 0) C.1 C.2.1 dL_law_662 (by decide) ?_
    refine va_lald C.1 C.2.1 X.2.2.1.1 hP3 (39 + 68) 3 wl_out rfl (inb_in (i := 0) (n := 1) (by decide)) dL_law_663 ?_
    refine lv_iload C.1 C.2.1 dL_law_664 (lv_at hl 0 rfl) ?_
    refine lv_i2l C.1 C.2.1 dL_law_666 rfl ?_
    refine W.lcmp C.1 C.2.1 dL_law_667 ?_
    refine lv_if_eq (tgt := 673) C.1 C.2.1 dL_law_668 (by decide) (fun _ => ?_) (fun q => absurd (lgc _) q)
    refine lv_goto (tgt := 2382) C.1 C.2.1 dL_law_673 (by decide) ?_
    exact next hc1 hm1 r.toInt64 hR1 H3 locs3 ls hP3 hD3 hS3 (lv_sub hl [2, 3, 4, 5, 6] rfl)
  · refine lv_aload_n C.1 C.2.1 dL_law_608 rfl (lv_at hl 1 rfl) ?_
    refine l_arg (j := 1) X hS hi (by decide) (by decide) (lv_at hl 0 rfl) (lv_at hl 4 rfl) dL_law_609 dL_law_610 dL_law_612 dL_law_613 dL_law_614 ?_
    refine l_arg (j := 2) X hS hi (by decide) (by decide) (lv_at hl 0 rfl) (lv_at hl 4 rfl) dL_law_615 dL_law_616 dL_law_618 dL_law_619 dL_law_620 ?_
    refine lv_aload_n C.1 C.2.1 dL_law_621 rfl (lv_at hl 3 rfl) ?_
    refine l_help (n := 4) (d1 := 1) (h1 := hc) (x1 := x) (k := 1) (As := [.ref (adc 0), .int (xs (i + 1)), .int (xs (i + 2)), .ref ao]) X hP hD hS hl.1 dL_law_622 lh_of (by decide +kernel) (hp_of l X.2.1 D ca adc ao hc hc (xs (i + 1)) (xs (i + 2)) 1 x x (Or.inr ⟨eX, rfl, rfl⟩)) (by decide) (by decide) hcl9 hsl9 rfl (by decide) rfl (fun H1 locs1 hP1 hD1 hS1 => ?_)
    refine lv_istore (lv' := (5, .int 1) :: lv5 b adc adm ao i) C.1 C.2.1 dL_law_625 hl (by decide) rfl (fun ls hl => ?_)
    refine lv_aload_n C.1 C.2.1 dL_law_627 rfl (lv_at hl 3 rfl) ?_
    refine l_arg (j := 1) X hS1 hi (by decide) (by decide) (lv_at hl 1 rfl) (lv_at hl 5 rfl) dL_law_628 dL_law_629 dL_law_631 dL_law_632 dL_law_633 ?_
    refine l_arg (j := 2) X hS1 hi (by decide) (by decide) (lv_at hl 1 rfl) (lv_at hl 5 rfl) dL_law_634 dL_law_635 dL_law_637 dL_law_638 dL_law_639 ?_
    refine l_callM (d1 := 2) X hP1 hD1 hS1 hl.1 dL_law_640 lmL_77 wlX12_of (tX12_of e2) (by decide) (by decide) (by omega) (by omega) rfl rfl (by decide) rfl rfl (fun H2 locs2 hP2 hD2 hS2 => ?_)
    refine lv_istore (lv' := (6, .int r) :: (5, .int 1) :: lv5 b adc adm ao i) C.1 C.2.1 dL_law_643 hl (by decide) rfl (fun ls hl => ?_)
    refine lv_aload_n C.1 C.2.1 dL_law_645 rfl (lv_at hl 4 rfl) ?_
    refine l_callM (d1 := 0) (r := gI hm1 0 22) (h1 := hm1) X hP2 hD2 hS2 hl.1 dL_law_646 lmL_78 wlX12_thrown (tX12_thrown rfl) (by decide) (by decide) (by omega) (by omega) rfl rfl (by decide) rfl rfl (fun H3 locs3 hP3 hD3 hS3 => ?_)
    refine lv_iload C.1 C.2.1 dL_law_649 (lv_at hl 1 rfl) ?_
    refine lv_icmp_eq (tgt := 656) C.1 C.2.1 dL_law_651 (by decide) (fun _ => ?_) (fun q => absurd eT q)
    refine lv_iload C.1 C.2.1 dL_law_656 (lv_at hl 1 rfl) ?_
    refine lv_if_ne (tgt := 673) C.1 C.2.1 dL_law_658 (by decide) (fun _ => ?_) (fun q => absurd q (by decide))
    refine lv_goto (tgt := 2382) C.1 C.2.1 dL_law_673 (by decide) ?_
    exact next hc hm1 x hR1 H3 locs3 ls hP3 hD3 hS3 (lv_sub hl [2, 3, 4, 5, 6] rfl)
set_option maxRecDepth 20000 in
set_option maxHeartbeats 1000000 in
theorem lc_9 {p : Program} {l : Launch} {e : Env} {s : State} {m : MethodId} {b L : Nat} {xs : Nat → Int32} {below : List Frame} {meth : Method} {c : Code} {D : va_G} {ca adc adm : Nat → Nat} {ao : Nat} {Z : State → Prop} {cl sl i : Nat} {hc hm : HS} {x : Int64} (X : LX p l s m c b L xs D ca) (hi : i + 6 ≤ L) (hR : RR hc hm) (hop : ∀ {hc hm : HS}, RR hc hm → ∀ (p1 : Int32), OKX (fX11_heavy p1 hc) (fX12_heavy p1 hm) (fX11_heavy_x7 p1 hc = some hc) hc) (hcl9 : cl + 1 ≤ 601024) (hsl9 : sl + 6 ≤ 7293034) (next : ∀ (hc1 hm1 : HS) (x1 : Int64), RR hc1 hm1 → LH p l e s m b below meth c D ca adc adm ao Z i 2382 hc1 hm1 x1 (cl + 1) (sl + 6)) : LH p l e s m b below meth c D ca adc adm ao Z i 676 hc hm x cl sl := by
  intro H locs ls hP hD hS hl
  have C := X.1
  rcases hop hR (xs (i + 1)) with ⟨r, hc1, hm1, e1, e2, eT, hR1⟩ | ⟨r, hm1, eX, e2, eT, hR1⟩
  · refine lv_aload_n C.1 C.2.1 dL_law_676 rfl (lv_at hl 1 rfl) ?_
    refine l_arg (j := 1) X hS hi (by decide) (by decide) (lv_at hl 0 rfl) (lv_at hl 4 rfl) dL_law_677 dL_law_678 dL_law_680 dL_law_681 dL_law_682 ?_
    refine lv_aload_n C.1 C.2.1 dL_law_683 rfl (lv_at hl 3 rfl) ?_
    refine l_help (n := 3) (d1 := 3) (h1 := hc1) (x1 := r.toInt64) (k := 0) (As := [.ref (adc 0), .int (xs (i + 1)), .ref ao]) X hP hD hS hl.1 dL_law_684 lh_heavy (by decide +kernel) (hp_heavy l X.2.1 D ca adc ao hc hc1 (xs (i + 1)) 0 x r.toInt64 (Or.inl ⟨r, e1, rfl, rfl⟩)) (by decide) (by decide) hcl9 hsl9 rfl (by decide) rfl (fun H1 locs1 hP1 hD1 hS1 => ?_)
    refine lv_istore (lv' := (5, .int 0) :: lv5 b adc adm ao i) C.1 C.2.1 dL_law_687 hl (by decide) rfl (fun ls hl => ?_)
    refine lv_aload_n C.1 C.2.1 dL_law_689 rfl (lv_at hl 3 rfl) ?_
    refine l_arg (j := 1) X hS1 hi (by decide) (by decide) (lv_at hl 1 rfl) (lv_at hl 5 rfl) dL_law_690 dL_law_691 dL_law_693 dL_law_694 dL_law_695 ?_
    refine l_callM (d1 := 3) X hP1 hD1 hS1 hl.1 dL_law_696 lmL_84 wlX12_heavy (tX12_heavy e2) (by decide) (by decide) (by omega) (by omega) rfl rfl (by decide) rfl rfl (fun H2 locs2 hP2 hD2 hS2 => ?_)
    refine lv_istore (lv' := (6, .int r) :: (5, .int 0) :: lv5 b adc adm ao i) C.1 C.2.1 dL_law_699 hl (by decide) rfl (fun ls hl => ?_)
    refine lv_aload_n C.1 C.2.1 dL_law_701 rfl (lv_at hl 4 rfl) ?_
    refine l_callM (d1 := 0) (r := gI hm1 0 22) (h1 := hm1) X hP2 hD2 hS2 hl.1 dL_law_702 lmL_78 wlX12_thrown (tX12_thrown rfl) (by decide) (by decide) (by omega) (by omega) rfl rfl (by decide) rfl rfl (fun H3 locs3 hP3 hD3 hS3 => ?_)
    refine lv_iload C.1 C.2.1 dL_law_705 (lv_at hl 1 rfl) ?_
    refine lv_icmp_eq (tgt := 712) C.1 C.2.1 dL_law_707 (by decide) (fun _ => ?_) (fun q => absurd eT q)
    refine lv_iload C.1 C.2.1 dL_law_712 (lv_at hl 1 rfl) ?_
    refine lv_if_ne (tgt := 729) C.1 C.2.1 dL_law_714 (by decide) (fun q => absurd rfl q) (fun _ => ?_)
    refine lv_aload_n C.1 C.2.1 dL_law_717 rfl (lv_at hl 5 rfl) ?_
    refine lv_iconst (v := 0) C.1 C.2.1 dL_law_718 (by decide) ?_
    refine va_lald C.1 C.2.1 X.2.2.1.1 hP3 (39 + 68) 3 wl_out rfl (inb_in (i := 0) (n := 1) (by decide)) dL_law_719 ?_
    refine lv_iload C.1 C.2.1 dL_law_720 (lv_at hl 0 rfl) ?_
    refine lv_i2l C.1 C.2.1 dL_law_722 rfl ?_
    refine W.lcmp C.1 C.2.1 dL_law_723 ?_
    refine lv_if_eq (tgt := 729) C.1 C.2.1 dL_law_724 (by decide) (fun _ => ?_) (fun q => absurd (lgc _) q)
    refine lv_goto (tgt := 2382) C.1 C.2.1 dL_law_729 (by decide) ?_
    exact next hc1 hm1 r.toInt64 hR1 H3 locs3 ls hP3 hD3 hS3 (lv_sub hl [2, 3, 4, 5, 6] rfl)
  · refine lv_aload_n C.1 C.2.1 dL_law_676 rfl (lv_at hl 1 rfl) ?_
    refine l_arg (j := 1) X hS hi (by decide) (by decide) (lv_at hl 0 rfl) (lv_at hl 4 rfl) dL_law_677 dL_law_678 dL_law_680 dL_law_681 dL_law_682 ?_
    refine lv_aload_n C.1 C.2.1 dL_law_683 rfl (lv_at hl 3 rfl) ?_
    refine l_help (n := 3) (d1 := 3) (h1 := hc) (x1 := x) (k := 1) (As := [.ref (adc 0), .int (xs (i + 1)), .ref ao]) X hP hD hS hl.1 dL_law_684 lh_heavy (by decide +kernel) (hp_heavy l X.2.1 D ca adc ao hc hc (xs (i + 1)) 1 x x (Or.inr ⟨eX, rfl, rfl⟩)) (by decide) (by decide) hcl9 hsl9 rfl (by decide) rfl (fun H1 locs1 hP1 hD1 hS1 => ?_)
    refine lv_istore (lv' := (5, .int 1) :: lv5 b adc adm ao i) C.1 C.2.1 dL_law_687 hl (by decide) rfl (fun ls hl => ?_)
    refine lv_aload_n C.1 C.2.1 dL_law_689 rfl (lv_at hl 3 rfl) ?_
    refine l_arg (j := 1) X hS1 hi (by decide) (by decide) (lv_at hl 1 rfl) (lv_at hl 5 rfl) dL_law_690 dL_law_691 dL_law_693 dL_law_694 dL_law_695 ?_
    refine l_callM (d1 := 3) X hP1 hD1 hS1 hl.1 dL_law_696 lmL_84 wlX12_heavy (tX12_heavy e2) (by decide) (by decide) (by omega) (by omega) rfl rfl (by decide) rfl rfl (fun H2 locs2 hP2 hD2 hS2 => ?_)
    refine lv_istore (lv' := (6, .int r) :: (5, .int 1) :: lv5 b adc adm ao i) C.1 C.2.1 dL_law_699 hl (by decide) rfl (fun ls hl => ?_)
    refine lv_aload_n C.1 C.2.1 dL_law_701 rfl (lv_at hl 4 rfl) ?_
    refine l_callM (d1 := 0) (r := gI hm1 0 22) (h1 := hm1) X hP2 hD2 hS2 hl.1 dL_law_702 lmL_78 wlX12_thrown (tX12_thrown rfl) (by decide) (by decide) (by omega) (by omega) rfl rfl (by decide) rfl rfl (fun H3 locs3 hP3 hD3 hS3 => ?_)
    refine lv_iload C.1 C.2.1 dL_law_705 (lv_at hl 1 rfl) ?_
    refine lv_icmp_eq (tgt := 712) C.1 C.2.1 dL_law_707 (by decide) (fun _ => ?_) (fun q => absurd eT q)
    refine lv_iload C.1 C.2.1 dL_law_712 (lv_at hl 1 rfl) ?_
    refine lv_if_ne (tgt := 729) C.1 C.2.1 dL_law_714 (by decide) (fun _ => ?_) (fun q => absurd q (by decide))
    refine lv_goto (tgt := 2382) C.1 C.2.1 dL_law_729 (by decide) ?_
    exact next hc hm1 x hR1 H3 locs3 ls hP3 hD3 hS3 (lv_sub hl [2, 3, 4, 5, 6] rfl)
set_option maxRecDepth 20000 in
set_option maxHeartbeats 1000000 in
theorem lc_10 {p : Program} {l : Launch} {e : Env} {s : State} {m : MethodId} {b L : Nat} {xs : Nat → Int32} {below : List Frame} {meth : Method} {c : Code} {D : va_G} {ca adc adm : Nat → Nat} {ao : Nat} {Z : State → Prop} {cl sl i : Nat} {hc hm : HS} {x : Int64} (X : LX p l s m c b L xs D ca) (hi : i + 6 ≤ L) (hR : RR hc hm) (hop : ∀ {hc hm : HS}, RR hc hm → ∀ (p1 : Int32), OKX (fX11_moment p1 hc) (fX12_moment p1 hm) (fX11_moment_x9 p1 hc = some hc) hc) (hcl9 : cl + 1 ≤ 601024) (hsl9 : sl + 6 ≤ 7293034) (next : ∀ (hc1 hm1 : HS) (x1 : Int64), RR hc1 hm1 → LH p l e s m b below meth c D ca adc adm ao Z i 2382 hc1 hm1 x1 (cl + 1) (sl + 6)) : LH p l e s m b below meth c D ca adc adm ao Z i 732 hc hm x cl sl := by
  intro H locs ls hP hD hS hl
  have C := X.1
  rcases hop hR (xs (i + 1)) with ⟨r, hc1, hm1, e1, e2, eT, hR1⟩ | ⟨r, hm1, eX, e2, eT, hR1⟩
  · refine lv_aload_n C.1 C.2.1 dL_law_732 rfl (lv_at hl 1 rfl) ?_
    refine l_arg (j := 1) X hS hi (by decide) (by decide) (lv_at hl 0 rfl) (lv_at hl 4 rfl) dL_law_733 dL_law_734 dL_law_736 dL_law_737 dL_law_738 ?_
    refine lv_aload_n C.1 C.2.1 dL_law_739 rfl (lv_at hl 3 rfl) ?_
    refine l_help (n := 3) (d1 := 2) (h1 := hc1) (x1 := r.toInt64) (k := 0) (As := [.ref (adc 0), .int (xs (i + 1)), .ref ao]) X hP hD hS hl.1 dL_law_740 lh_moment (by decide +kernel) (hp_moment l X.2.1 D ca adc ao hc hc1 (xs (i + 1)) 0 x r.toInt64 (Or.inl ⟨r, e1, rfl, rfl⟩)) (by decide) (by decide) hcl9 hsl9 rfl (by decide) rfl (fun H1 locs1 hP1 hD1 hS1 => ?_)
    refine lv_istore (lv' := (5, .int 0) :: lv5 b adc adm ao i) C.1 C.2.1 dL_law_743 hl (by decide) rfl (fun ls hl => ?_)
    refine lv_aload_n C.1 C.2.1 dL_law_745 rfl (lv_at hl 3 rfl) ?_
    refine l_arg (j := 1) X hS1 hi (by decide) (by decide) (lv_at hl 1 rfl) (lv_at hl 5 rfl) dL_law_746 dL_law_747 dL_law_749 dL_law_750 dL_law_751 ?_
    refine l_callM (d1 := 1) X hP1 hD1 hS1 hl.1 dL_law_752 lmL_87 wlX12_moment (tX12_moment e2) (by decide) (by decide) (by omega) (by omega) rfl rfl (by decide) rfl rfl (fun H2 locs2 hP2 hD2 hS2 => ?_)
    refine lv_istore (lv' := (6, .int r) :: (5, .int 0) :: lv5 b adc adm ao i) C.1 C.2.1 dL_law_755 hl (by decide) rfl (fun ls hl => ?_)
    refine lv_aload_n C.1 C.2.1 dL_law_757 rfl (lv_at hl 4 rfl) ?_
    refine l_callM (d1 := 0) (r := gI hm1 0 22) (h1 := hm1) X hP2 hD2 hS2 hl.1 dL_law_758 lmL_78 wlX12_thrown (tX12_thrown rfl) (by decide) (by decide) (by omega) (by omega) rfl rfl (by decide) rfl rfl (fun H3 locs3 hP3 hD3 hS3 => ?_)
    refine lv_iload C.1 C.2.1 dL_law_761 (lv_at hl 1 rfl) ?_
    refine lv_icmp_eq (tgt := 768) C.1 C.2.1 dL_law_763 (by decide) (fun _ => ?_) (fun q => absurd eT q)
    refine lv_iload C.1 C.2.1 dL_law_768 (lv_at hl 1 rfl) ?_
    refine lv_if_ne (tgt := 785) C.1 C.2.1 dL_law_770 (by decide) (fun q => absurd rfl q) (fun _ => ?_)
    refine lv_aload_n C.1 C.2.1 dL_law_773 rfl (lv_at hl 5 rfl) ?_
    refine lv_iconst (v := 0) C.1 C.2.1 dL_law_774 (by decide) ?_
    refine va_lald C.1 C.2.1 X.2.2.1.1 hP3 (39 + 68) 3 wl_out rfl (inb_in (i := 0) (n := 1) (by decide)) dL_law_775 ?_
    refine lv_iload C.1 C.2.1 dL_law_776 (lv_at hl 0 rfl) ?_
    refine lv_i2l C.1 C.2.1 dL_law_778 rfl ?_
    refine W.lcmp C.1 C.2.1 dL_law_779 ?_
    refine lv_if_eq (tgt := 785) C.1 C.2.1 dL_law_780 (by decide) (fun _ => ?_) (fun q => absurd (lgc _) q)
    refine lv_goto (tgt := 2382) C.1 C.2.1 dL_law_785 (by decide) ?_
    exact next hc1 hm1 r.toInt64 hR1 H3 locs3 ls hP3 hD3 hS3 (lv_sub hl [2, 3, 4, 5, 6] rfl)
  · refine lv_aload_n C.1 C.2.1 dL_law_732 rfl (lv_at hl 1 rfl) ?_
    refine l_arg (j := 1) X hS hi (by decide) (by decide) (lv_at hl 0 rfl) (lv_at hl 4 rfl) dL_law_733 dL_law_734 dL_law_736 dL_law_737 dL_law_738 ?_
    refine lv_aload_n C.1 C.2.1 dL_law_739 rfl (lv_at hl 3 rfl) ?_
    refine l_help (n := 3) (d1 := 2) (h1 := hc) (x1 := x) (k := 1) (As := [.ref (adc 0), .int (xs (i + 1)), .ref ao]) X hP hD hS hl.1 dL_law_740 lh_moment (by decide +kernel) (hp_moment l X.2.1 D ca adc ao hc hc (xs (i + 1)) 1 x x (Or.inr ⟨eX, rfl, rfl⟩)) (by decide) (by decide) hcl9 hsl9 rfl (by decide) rfl (fun H1 locs1 hP1 hD1 hS1 => ?_)
    refine lv_istore (lv' := (5, .int 1) :: lv5 b adc adm ao i) C.1 C.2.1 dL_law_743 hl (by decide) rfl (fun ls hl => ?_)
    refine lv_aload_n C.1 C.2.1 dL_law_745 rfl (lv_at hl 3 rfl) ?_
    refine l_arg (j := 1) X hS1 hi (by decide) (by decide) (lv_at hl 1 rfl) (lv_at hl 5 rfl) dL_law_746 dL_law_747 dL_law_749 dL_law_750 dL_law_751 ?_
    refine l_callM (d1 := 1) X hP1 hD1 hS1 hl.1 dL_law_752 lmL_87 wlX12_moment (tX12_moment e2) (by decide) (by decide) (by omega) (by omega) rfl rfl (by decide) rfl rfl (fun H2 locs2 hP2 hD2 hS2 => ?_)
    refine lv_istore (lv' := (6, .int r) :: (5, .int 1) :: lv5 b adc adm ao i) C.1 C.2.1 dL_law_755 hl (by decide) rfl (fun ls hl => ?_)
    refine lv_aload_n C.1 C.2.1 dL_law_757 rfl (lv_at hl 4 rfl) ?_
    refine l_callM (d1 := 0) (r := gI hm1 0 22) (h1 := hm1) X hP2 hD2 hS2 hl.1 dL_law_758 lmL_78 wlX12_thrown (tX12_thrown rfl) (by decide) (by decide) (by omega) (by omega) rfl rfl (by decide) rfl rfl (fun H3 locs3 hP3 hD3 hS3 => ?_)
    refine lv_iload C.1 C.2.1 dL_law_761 (lv_at hl 1 rfl) ?_
    refine lv_icmp_eq (tgt := 768) C.1 C.2.1 dL_law_763 (by decide) (fun _ => ?_) (fun q => absurd eT q)
    refine lv_iload C.1 C.2.1 dL_law_768 (lv_at hl 1 rfl) ?_
    refine lv_if_ne (tgt := 785) C.1 C.2.1 dL_law_770 (by decide) (fun _ => ?_) (fun q => absurd q (by decide))
    refine lv_goto (tgt := 2382) C.1 C.2.1 dL_law_785 (by decide) ?_
    exact next hc hm1 x hR1 H3 locs3 ls hP3 hD3 hS3 (lv_sub hl [2, 3, 4, 5, 6] rfl)
set_option maxRecDepth 20000 in
set_option maxHeartbeats 1000000 in
theorem lc_11 {p : Program} {l : Launch} {e : Env} {s : State} {m : MethodId} {b L : Nat} {xs : Nat → Int32} {below : List Frame} {meth : Method} {c : Code} {D : va_G} {ca adc adm : Nat → Nat} {ao : Nat} {Z : State → Prop} {cl sl i : Nat} {hc hm : HS} {x : Int64} (X : LX p l s m c b L xs D ca) (hi : i + 6 ≤ L) (hR : RR hc hm) (hop : ∀ {hc hm : HS}, RR hc hm → ∀ (p1 : Int32), OK2 (fX11_balanced p1 hc) (fX12_balanced p1 hm)) (hcl9 : cl + 1 ≤ 601024) (hsl9 : sl + 6 ≤ 7293034) (next : ∀ (hc1 hm1 : HS) (x1 : Int64), RR hc1 hm1 → LH p l e s m b below meth c D ca adc adm ao Z i 2382 hc1 hm1 x1 (cl + 1) (sl + 6)) : LH p l e s m b below meth c D ca adc adm ao Z i 788 hc hm x cl sl := by
  intro H locs ls hP hD hS hl
  have C := X.1
  obtain ⟨r, hc1, hm1, e1, e2, hR1⟩ := hop hR (xs (i + 1))
  refine lv_aload_n C.1 C.2.1 dL_law_788 rfl (lv_at hl 1 rfl) ?_
  refine l_arg (j := 1) X hS hi (by decide) (by decide) (lv_at hl 0 rfl) (lv_at hl 4 rfl) dL_law_789 dL_law_790 dL_law_792 dL_law_793 dL_law_794 ?_
  refine l_callC (d1 := 4) X hP hD hS hl.1 dL_law_795 lmL_88 wlX11_balanced (tX11_balanced e1) (by decide) (by decide) (by omega) (by omega) rfl rfl (by decide) rfl rfl (fun H1 locs1 hP1 hD1 hS1 => ?_)
  refine lv_aload_n C.1 C.2.1 dL_law_798 rfl (lv_at hl 2 rfl) ?_
  refine l_arg (j := 1) X hS1 hi (by decide) (by decide) (lv_at hl 0 rfl) (lv_at hl 4 rfl) dL_law_799 dL_law_800 dL_law_802 dL_law_803 dL_law_804 ?_
  refine l_callM (d1 := 4) X hP1 hD1 hS1 hl.1 dL_law_805 lmL_91 wlX12_balanced (tX12_balanced e2) (by decide) (by decide) (by omega) (by omega) rfl rfl (by simp [Value.category]) rfl rfl (fun H2 locs2 hP2 hD2 hS2 => ?_)
  refine lv_icmp_eq (tgt := 2382) C.1 C.2.1 dL_law_808 (by decide) (fun _ => ?_) (fun q => absurd rfl q)
  exact W.widen (k := cl + 1) (n := sl + 6) (by omega) (by omega) (next hc1 hm1 x hR1 H2 locs2 ls hP2 hD2 hS2 hl)
set_option maxRecDepth 20000 in
set_option maxHeartbeats 1000000 in
theorem lc_12 {p : Program} {l : Launch} {e : Env} {s : State} {m : MethodId} {b L : Nat} {xs : Nat → Int32} {below : List Frame} {meth : Method} {c : Code} {D : va_G} {ca adc adm : Nat → Nat} {ao : Nat} {Z : State → Prop} {cl sl i : Nat} {hc hm : HS} {x : Int64} (X : LX p l s m c b L xs D ca) (hi : i + 6 ≤ L) (hR : RR hc hm) (hop : ∀ {hc hm : HS}, RR hc hm → ∀ (p1 p2 : Int32), OK2 (fX11_lies p1 p2 hc) (fX12_lies p1 p2 hm)) (hcl9 : cl + 1 ≤ 601024) (hsl9 : sl + 6 ≤ 7293034) (next : ∀ (hc1 hm1 : HS) (x1 : Int64), RR hc1 hm1 → LH p l e s m b below meth c D ca adc adm ao Z i 2382 hc1 hm1 x1 (cl + 1) (sl + 6)) : LH p l e s m b below meth c D ca adc adm ao Z i 813 hc hm x cl sl := by
  intro H locs ls hP hD hS hl
  have C := X.1
  obtain ⟨r, hc1, hm1, e1, e2, hR1⟩ := hop hR (xs (i + 1)) (xs (i + 2))
  refine lv_aload_n C.1 C.2.1 dL_law_813 rfl (lv_at hl 1 rfl) ?_
  refine l_arg (j := 1) X hS hi (by decide) (by decide) (lv_at hl 0 rfl) (lv_at hl 4 rfl) dL_law_814 dL_law_815 dL_law_817 dL_law_818 dL_law_819 ?_
  refine l_arg (j := 2) X hS hi (by decide) (by decide) (lv_at hl 0 rfl) (lv_at hl 4 rfl) dL_law_820 dL_law_821 dL_law_823 dL_law_824 dL_law_825 ?_
  refine l_callC (d1 := 3) X hP hD hS hl.1 dL_law_826 lmL_92 wlX11_lies (tX11_lies e1) (by decide) (by decide) (by omega) (by omega) rfl rfl (by decide) rfl rfl (fun H1 locs1 hP1 hD1 hS1 => ?_)
  refine lv_aload_n C.1 C.2.1 dL_law_829 rfl (lv_at hl 2 rfl) ?_
  refine l_arg (j := 1) X hS1 hi (by decide) (by decide) (lv_at hl 0 rfl) (lv_at hl 4 rfl) dL_law_830 dL_law_831 dL_law_833 dL_law_834 dL_law_835 ?_
  refine l_arg (j := 2) X hS1 hi (by decide) (by decide) (lv_at hl 0 rfl) (lv_at hl 4 rfl) dL_law_836 dL_law_837 dL_law_839 dL_law_840 dL_law_841 ?_
  refine l_callM (d1 := 3) X hP1 hD1 hS1 hl.1 dL_law_842 lmL_95 wlX12_lies (tX12_lies e2) (by decide) (by decide) (by omega) (by omega) rfl rfl (by simp [Value.category]) rfl rfl (fun H2 locs2 hP2 hD2 hS2 => ?_)
  refine lv_icmp_eq (tgt := 2382) C.1 C.2.1 dL_law_845 (by decide) (fun _ => ?_) (fun q => absurd rfl q)
  exact W.widen (k := cl + 1) (n := sl + 6) (by omega) (by omega) (next hc1 hm1 x hR1 H2 locs2 ls hP2 hD2 hS2 hl)
set_option maxRecDepth 20000 in
set_option maxHeartbeats 1000000 in
theorem lc_13 {p : Program} {l : Launch} {e : Env} {s : State} {m : MethodId} {b L : Nat} {xs : Nat → Int32} {below : List Frame} {meth : Method} {c : Code} {D : va_G} {ca adc adm : Nat → Nat} {ao : Nat} {Z : State → Prop} {cl sl i : Nat} {hc hm : HS} {x : Int64} (X : LX p l s m c b L xs D ca) (hi : i + 6 ≤ L) (hR : RR hc hm) (hop : ∀ {hc hm : HS}, RR hc hm → ∀ (p1 p2 : Int32), OK2 (fX11_hover p1 p2 hc) (fX12_hover p1 p2 hm)) (hcl9 : cl + 1 ≤ 601024) (hsl9 : sl + 6 ≤ 7293034) (next : ∀ (hc1 hm1 : HS) (x1 : Int64), RR hc1 hm1 → LH p l e s m b below meth c D ca adc adm ao Z i 2382 hc1 hm1 x1 (cl + 1) (sl + 6)) : LH p l e s m b below meth c D ca adc adm ao Z i 850 hc hm x cl sl := by
  intro H locs ls hP hD hS hl
  have C := X.1
  obtain ⟨r, hc1, hm1, e1, e2, hR1⟩ := hop hR (xs (i + 1)) (xs (i + 2))
  refine lv_aload_n C.1 C.2.1 dL_law_850 rfl (lv_at hl 1 rfl) ?_
  refine l_arg (j := 1) X hS hi (by decide) (by decide) (lv_at hl 0 rfl) (lv_at hl 4 rfl) dL_law_851 dL_law_852 dL_law_854 dL_law_855 dL_law_856 ?_
  refine l_arg (j := 2) X hS hi (by decide) (by decide) (lv_at hl 0 rfl) (lv_at hl 4 rfl) dL_law_857 dL_law_858 dL_law_860 dL_law_861 dL_law_862 ?_
  refine l_callC (d1 := 3) X hP hD hS hl.1 dL_law_863 lmL_96 wlX11_hover (tX11_hover e1) (by decide) (by decide) (by omega) (by omega) rfl rfl (by decide) rfl rfl (fun H1 locs1 hP1 hD1 hS1 => ?_)
  refine lv_aload_n C.1 C.2.1 dL_law_866 rfl (lv_at hl 2 rfl) ?_
  refine l_arg (j := 1) X hS1 hi (by decide) (by decide) (lv_at hl 0 rfl) (lv_at hl 4 rfl) dL_law_867 dL_law_868 dL_law_870 dL_law_871 dL_law_872 ?_
  refine l_arg (j := 2) X hS1 hi (by decide) (by decide) (lv_at hl 0 rfl) (lv_at hl 4 rfl) dL_law_873 dL_law_874 dL_law_876 dL_law_877 dL_law_878 ?_
  refine l_callM (d1 := 4) X hP1 hD1 hS1 hl.1 dL_law_879 lmL_99 wlX12_hover (tX12_hover e2) (by decide) (by decide) (by omega) (by omega) rfl rfl (by simp [Value.category]) rfl rfl (fun H2 locs2 hP2 hD2 hS2 => ?_)
  refine lv_icmp_eq (tgt := 2382) C.1 C.2.1 dL_law_882 (by decide) (fun _ => ?_) (fun q => absurd rfl q)
  exact W.widen (k := cl + 1) (n := sl + 6) (by omega) (by omega) (next hc1 hm1 x hR1 H2 locs2 ls hP2 hD2 hS2 hl)
set_option maxRecDepth 20000 in
set_option maxHeartbeats 1000000 in
theorem lc_14 {p : Program} {l : Launch} {e : Env} {s : State} {m : MethodId} {b L : Nat} {xs : Nat → Int32} {below : List Frame} {meth : Method} {c : Code} {D : va_G} {ca adc adm : Nat → Nat} {ao : Nat} {Z : State → Prop} {cl sl i : Nat} {hc hm : HS} {x : Int64} (X : LX p l s m c b L xs D ca) (hi : i + 6 ≤ L) (hR : RR hc hm) (hop : ∀ {hc hm : HS}, RR hc hm → ∀ (p1 : Int32), OK2 (fX11_sign p1 hc) (fX12_sign p1 hm)) (hcl9 : cl + 1 ≤ 601024) (hsl9 : sl + 6 ≤ 7293034) (next : ∀ (hc1 hm1 : HS) (x1 : Int64), RR hc1 hm1 → LH p l e s m b below meth c D ca adc adm ao Z i 2382 hc1 hm1 x1 (cl + 1) (sl + 6)) : LH p l e s m b below meth c D ca adc adm ao Z i 887 hc hm x cl sl := by
  intro H locs ls hP hD hS hl
  have C := X.1
  obtain ⟨r, hc1, hm1, e1, e2, hR1⟩ := hop hR (xs (i + 1))
  refine lv_aload_n C.1 C.2.1 dL_law_887 rfl (lv_at hl 1 rfl) ?_
  refine l_arg (j := 1) X hS hi (by decide) (by decide) (lv_at hl 0 rfl) (lv_at hl 4 rfl) dL_law_888 dL_law_889 dL_law_891 dL_law_892 dL_law_893 ?_
  refine l_callC (d1 := 0) X hP hD hS hl.1 dL_law_894 lmL_100 wlX11_sign (tX11_sign e1) (by decide) (by decide) (by omega) (by omega) rfl rfl (by decide) rfl rfl (fun H1 locs1 hP1 hD1 hS1 => ?_)
  refine lv_aload_n C.1 C.2.1 dL_law_897 rfl (lv_at hl 2 rfl) ?_
  refine l_arg (j := 1) X hS1 hi (by decide) (by decide) (lv_at hl 0 rfl) (lv_at hl 4 rfl) dL_law_898 dL_law_899 dL_law_901 dL_law_902 dL_law_903 ?_
  refine l_callM (d1 := 0) X hP1 hD1 hS1 hl.1 dL_law_904 lmL_103 wlX12_sign (tX12_sign e2) (by decide) (by decide) (by omega) (by omega) rfl rfl (by simp [Value.category]) rfl rfl (fun H2 locs2 hP2 hD2 hS2 => ?_)
  refine lv_icmp_eq (tgt := 2382) C.1 C.2.1 dL_law_907 (by decide) (fun _ => ?_) (fun q => absurd rfl q)
  exact W.widen (k := cl + 1) (n := sl + 6) (by omega) (by omega) (next hc1 hm1 x hR1 H2 locs2 ls hP2 hD2 hS2 hl)
set_option maxRecDepth 20000 in
set_option maxHeartbeats 1000000 in
theorem lc_15 {p : Program} {l : Launch} {e : Env} {s : State} {m : MethodId} {b L : Nat} {xs : Nat → Int32} {below : List Frame} {meth : Method} {c : Code} {D : va_G} {ca adc adm : Nat → Nat} {ao : Nat} {Z : State → Prop} {cl sl i : Nat} {hc hm : HS} {x : Int64} (X : LX p l s m c b L xs D ca) (hi : i + 6 ≤ L) (hR : RR hc hm) (hop : ∀ {hc hm : HS}, RR hc hm → ∀ (p1 : Int32), OK2 (fX11_end p1 hc) (fX12_end p1 hm)) (hcl9 : cl + 1 ≤ 601024) (hsl9 : sl + 6 ≤ 7293034) (next : ∀ (hc1 hm1 : HS) (x1 : Int64), RR hc1 hm1 → LH p l e s m b below meth c D ca adc adm ao Z i 2382 hc1 hm1 x1 (cl + 1) (sl + 6)) : LH p l e s m b below meth c D ca adc adm ao Z i 912 hc hm x cl sl := by
  intro H locs ls hP hD hS hl
  have C := X.1
  obtain ⟨r, hc1, hm1, e1, e2, hR1⟩ := hop hR (xs (i + 1))
  refine lv_aload_n C.1 C.2.1 dL_law_912 rfl (lv_at hl 1 rfl) ?_
  refine l_arg (j := 1) X hS hi (by decide) (by decide) (lv_at hl 0 rfl) (lv_at hl 4 rfl) dL_law_913 dL_law_914 dL_law_916 dL_law_917 dL_law_918 ?_
  refine l_callC (d1 := 1) X hP hD hS hl.1 dL_law_919 lmL_104 wlX11_end (tX11_end e1) (by decide) (by decide) (by omega) (by omega) rfl rfl (by decide) rfl rfl (fun H1 locs1 hP1 hD1 hS1 => ?_)
  refine lv_aload_n C.1 C.2.1 dL_law_922 rfl (lv_at hl 2 rfl) ?_
  refine l_arg (j := 1) X hS1 hi (by decide) (by decide) (lv_at hl 0 rfl) (lv_at hl 4 rfl) dL_law_923 dL_law_924 dL_law_926 dL_law_927 dL_law_928 ?_
  refine l_callM (d1 := 1) X hP1 hD1 hS1 hl.1 dL_law_929 lmL_108 wlX12_end (tX12_end e2) (by decide) (by decide) (by omega) (by omega) rfl rfl (by simp [Value.category]) rfl rfl (fun H2 locs2 hP2 hD2 hS2 => ?_)
  refine lv_icmp_eq (tgt := 2382) C.1 C.2.1 dL_law_932 (by decide) (fun _ => ?_) (fun q => absurd rfl q)
  exact W.widen (k := cl + 1) (n := sl + 6) (by omega) (by omega) (next hc1 hm1 x hR1 H2 locs2 ls hP2 hD2 hS2 hl)
set_option maxRecDepth 20000 in
set_option maxHeartbeats 1000000 in
theorem lc_16 {p : Program} {l : Launch} {e : Env} {s : State} {m : MethodId} {b L : Nat} {xs : Nat → Int32} {below : List Frame} {meth : Method} {c : Code} {D : va_G} {ca adc adm : Nat → Nat} {ao : Nat} {Z : State → Prop} {cl sl i : Nat} {hc hm : HS} {x : Int64} (X : LX p l s m c b L xs D ca) (hi : i + 6 ≤ L) (hR : RR hc hm) (hop : ∀ {hc hm : HS}, RR hc hm → OK2 (fX11_book  hc) (fX12_book  hm)) (hcl9 : cl + 1 ≤ 601024) (hsl9 : sl + 6 ≤ 7293034) (next : ∀ (hc1 hm1 : HS) (x1 : Int64), RR hc1 hm1 → LH p l e s m b below meth c D ca adc adm ao Z i 2382 hc1 hm1 x1 (cl + 1) (sl + 6)) : LH p l e s m b below meth c D ca adc adm ao Z i 937 hc hm x cl sl := by
  intro H locs ls hP hD hS hl
  have C := X.1
  obtain ⟨r, hc1, hm1, e1, e2, hR1⟩ := hop hR 
  refine lv_aload_n C.1 C.2.1 dL_law_937 rfl (lv_at hl 1 rfl) ?_
  refine l_callC (d1 := 33) X hP hD hS hl.1 dL_law_938 lmL_109 wlX11_book (tX11_book e1) (by decide) (by decide) (by omega) (by omega) rfl rfl (by decide) rfl rfl (fun H1 locs1 hP1 hD1 hS1 => ?_)
  refine lv_aload_n C.1 C.2.1 dL_law_941 rfl (lv_at hl 2 rfl) ?_
  refine l_callM (d1 := 223) X hP1 hD1 hS1 hl.1 dL_law_942 lmL_112 wlX12_book (tX12_book e2) (by decide) (by decide) (by omega) (by omega) rfl rfl (by simp [Value.category]) rfl rfl (fun H2 locs2 hP2 hD2 hS2 => ?_)
  refine lv_icmp_eq (tgt := 2382) C.1 C.2.1 dL_law_945 (by decide) (fun _ => ?_) (fun q => absurd rfl q)
  exact W.widen (k := cl + 1) (n := sl + 6) (by omega) (by omega) (next hc1 hm1 x hR1 H2 locs2 ls hP2 hD2 hS2 hl)
set_option maxRecDepth 20000 in
set_option maxHeartbeats 1000000 in
theorem lc_17 {p : Program} {l : Launch} {e : Env} {s : State} {m : MethodId} {b L : Nat} {xs : Nat → Int32} {below : List Frame} {meth : Method} {c : Code} {D : va_G} {ca adc adm : Nat → Nat} {ao : Nat} {Z : State → Prop} {cl sl i : Nat} {hc hm : HS} {x : Int64} (X : LX p l s m c b L xs D ca) (hi : i + 6 ≤ L) (hR : RR hc hm) (hop : ∀ {hc hm : HS}, RR hc hm → ∀ (p1 : Int32), OKX (fX11_line p1 hc) (fX12_line p1 hm) (fX11_line_x17 p1 hc = some hc) hc) (hcl9 : cl + 1 ≤ 601024) (hsl9 : sl + 6 ≤ 7293034) (next : ∀ (hc1 hm1 : HS) (x1 : Int64), RR hc1 hm1 → LH p l e s m b below meth c D ca adc adm ao Z i 2382 hc1 hm1 x1 (cl + 1) (sl + 6)) : LH p l e s m b below meth c D ca adc adm ao Z i 950 hc hm x cl sl := by
  intro H locs ls hP hD hS hl
  have C := X.1
  rcases hop hR (xs (i + 1)) with ⟨r, hc1, hm1, e1, e2, eT, hR1⟩ | ⟨r, hm1, eX, e2, eT, hR1⟩
  · refine lv_aload_n C.1 C.2.1 dL_law_950 rfl (lv_at hl 1 rfl) ?_
    refine l_arg (j := 1) X hS hi (by decide) (by decide) (lv_at hl 0 rfl) (lv_at hl 4 rfl) dL_law_951 dL_law_952 dL_law_954 dL_law_955 dL_law_956 ?_
    refine lv_aload_n C.1 C.2.1 dL_law_957 rfl (lv_at hl 3 rfl) ?_
    refine l_help (n := 3) (d1 := 32) (h1 := hc1) (x1 := r.toInt64) (k := 0) (As := [.ref (adc 0), .int (xs (i + 1)), .ref ao]) X hP hD hS hl.1 dL_law_958 lh_line (by decide +kernel) (hp_line l X.2.1 D ca adc ao hc hc1 (xs (i + 1)) 0 x r.toInt64 (Or.inl ⟨r, e1, rfl, rfl⟩)) (by decide) (by decide) hcl9 hsl9 rfl (by decide) rfl (fun H1 locs1 hP1 hD1 hS1 => ?_)
    refine lv_istore (lv' := (5, .int 0) :: lv5 b adc adm ao i) C.1 C.2.1 dL_law_961 hl (by decide) rfl (fun ls hl => ?_)
    refine lv_aload_n C.1 C.2.1 dL_law_963 rfl (lv_at hl 3 rfl) ?_
    refine l_arg (j := 1) X hS1 hi (by decide) (by decide) (lv_at hl 1 rfl) (lv_at hl 5 rfl) dL_law_964 dL_law_965 dL_law_967 dL_law_968 dL_law_969 ?_
    refine l_callM (d1 := 224) X hP1 hD1 hS1 hl.1 dL_law_970 lmL_115 wlX12_line (tX12_line e2) (by decide) (by decide) (by omega) (by omega) rfl rfl (by decide) rfl rfl (fun H2 locs2 hP2 hD2 hS2 => ?_)
    refine lv_istore (lv' := (6, .int r) :: (5, .int 0) :: lv5 b adc adm ao i) C.1 C.2.1 dL_law_973 hl (by decide) rfl (fun ls hl => ?_)
    refine lv_aload_n C.1 C.2.1 dL_law_975 rfl (lv_at hl 4 rfl) ?_
    refine l_callM (d1 := 0) (r := gI hm1 0 22) (h1 := hm1) X hP2 hD2 hS2 hl.1 dL_law_976 lmL_78 wlX12_thrown (tX12_thrown rfl) (by decide) (by decide) (by omega) (by omega) rfl rfl (by decide) rfl rfl (fun H3 locs3 hP3 hD3 hS3 => ?_)
    refine lv_iload C.1 C.2.1 dL_law_979 (lv_at hl 1 rfl) ?_
    refine lv_icmp_eq (tgt := 986) C.1 C.2.1 dL_law_981 (by decide) (fun _ => ?_) (fun q => absurd eT q)
    refine lv_iload C.1 C.2.1 dL_law_986 (lv_at hl 1 rfl) ?_
    refine lv_if_ne (tgt := 1003) C.1 C.2.1 dL_law_988 (by decide) (fun q => absurd rfl q) (fun _ => ?_)
    refine lv_aload_n C.1 C.2.1 dL_law_991 rfl (lv_at hl 5 rfl) ?_
    refine lv_iconst (v := 0) C.1 C.2.1 dL_law_992 (by decide) ?_
    refine va_lald C.1 C.2.1 X.2.2.1.1 hP3 (39 + 68) 3 wl_out rfl (inb_in (i := 0) (n := 1) (by decide)) dL_law_993 ?_
    refine lv_iload C.1 C.2.1 dL_law_994 (lv_at hl 0 rfl) ?_
    refine lv_i2l C.1 C.2.1 dL_law_996 rfl ?_
    refine W.lcmp C.1 C.2.1 dL_law_997 ?_
    refine lv_if_eq (tgt := 1003) C.1 C.2.1 dL_law_998 (by decide) (fun _ => ?_) (fun q => absurd (lgc _) q)
    refine lv_goto (tgt := 2382) C.1 C.2.1 dL_law_1003 (by decide) ?_
    exact next hc1 hm1 r.toInt64 hR1 H3 locs3 ls hP3 hD3 hS3 (lv_sub hl [2, 3, 4, 5, 6] rfl)
  · refine lv_aload_n C.1 C.2.1 dL_law_950 rfl (lv_at hl 1 rfl) ?_
    refine l_arg (j := 1) X hS hi (by decide) (by decide) (lv_at hl 0 rfl) (lv_at hl 4 rfl) dL_law_951 dL_law_952 dL_law_954 dL_law_955 dL_law_956 ?_
    refine lv_aload_n C.1 C.2.1 dL_law_957 rfl (lv_at hl 3 rfl) ?_
    refine l_help (n := 3) (d1 := 32) (h1 := hc) (x1 := x) (k := 1) (As := [.ref (adc 0), .int (xs (i + 1)), .ref ao]) X hP hD hS hl.1 dL_law_958 lh_line (by decide +kernel) (hp_line l X.2.1 D ca adc ao hc hc (xs (i + 1)) 1 x x (Or.inr ⟨eX, rfl, rfl⟩)) (by decide) (by decide) hcl9 hsl9 rfl (by decide) rfl (fun H1 locs1 hP1 hD1 hS1 => ?_)
    refine lv_istore (lv' := (5, .int 1) :: lv5 b adc adm ao i) C.1 C.2.1 dL_law_961 hl (by decide) rfl (fun ls hl => ?_)
    refine lv_aload_n C.1 C.2.1 dL_law_963 rfl (lv_at hl 3 rfl) ?_
    refine l_arg (j := 1) X hS1 hi (by decide) (by decide) (lv_at hl 1 rfl) (lv_at hl 5 rfl) dL_law_964 dL_law_965 dL_law_967 dL_law_968 dL_law_969 ?_
    refine l_callM (d1 := 224) X hP1 hD1 hS1 hl.1 dL_law_970 lmL_115 wlX12_line (tX12_line e2) (by decide) (by decide) (by omega) (by omega) rfl rfl (by decide) rfl rfl (fun H2 locs2 hP2 hD2 hS2 => ?_)
    refine lv_istore (lv' := (6, .int r) :: (5, .int 1) :: lv5 b adc adm ao i) C.1 C.2.1 dL_law_973 hl (by decide) rfl (fun ls hl => ?_)
    refine lv_aload_n C.1 C.2.1 dL_law_975 rfl (lv_at hl 4 rfl) ?_
    refine l_callM (d1 := 0) (r := gI hm1 0 22) (h1 := hm1) X hP2 hD2 hS2 hl.1 dL_law_976 lmL_78 wlX12_thrown (tX12_thrown rfl) (by decide) (by decide) (by omega) (by omega) rfl rfl (by decide) rfl rfl (fun H3 locs3 hP3 hD3 hS3 => ?_)
    refine lv_iload C.1 C.2.1 dL_law_979 (lv_at hl 1 rfl) ?_
    refine lv_icmp_eq (tgt := 986) C.1 C.2.1 dL_law_981 (by decide) (fun _ => ?_) (fun q => absurd eT q)
    refine lv_iload C.1 C.2.1 dL_law_986 (lv_at hl 1 rfl) ?_
    refine lv_if_ne (tgt := 1003) C.1 C.2.1 dL_law_988 (by decide) (fun _ => ?_) (fun q => absurd q (by decide))
    refine lv_goto (tgt := 2382) C.1 C.2.1 dL_law_1003 (by decide) ?_
    exact next hc hm1 x hR1 H3 locs3 ls hP3 hD3 hS3 (lv_sub hl [2, 3, 4, 5, 6] rfl)
set_option maxRecDepth 20000 in
set_option maxHeartbeats 1000000 in
theorem lc_18 {p : Program} {l : Launch} {e : Env} {s : State} {m : MethodId} {b L : Nat} {xs : Nat → Int32} {below : List Frame} {meth : Method} {c : Code} {D : va_G} {ca adc adm : Nat → Nat} {ao : Nat} {Z : State → Prop} {cl sl i : Nat} {hc hm : HS} {x : Int64} (X : LX p l s m c b L xs D ca) (hi : i + 6 ≤ L) (hR : RR hc hm) (hop : ∀ {hc hm : HS}, RR hc hm → OK2 (fX11_morning  hc) (fX12_morning  hm)) (hcl9 : cl + 1 ≤ 601024) (hsl9 : sl + 6 ≤ 7293034) (next : ∀ (hc1 hm1 : HS) (x1 : Int64), RR hc1 hm1 → LH p l e s m b below meth c D ca adc adm ao Z i 2382 hc1 hm1 x1 (cl + 1) (sl + 6)) : LH p l e s m b below meth c D ca adc adm ao Z i 1006 hc hm x cl sl := by
  intro H locs ls hP hD hS hl
  have C := X.1
  obtain ⟨r, hc1, hm1, e1, e2, hR1⟩ := hop hR 
  refine lv_aload_n C.1 C.2.1 dL_law_1006 rfl (lv_at hl 1 rfl) ?_
  refine l_callC (d1 := 33) X hP hD hS hl.1 dL_law_1007 lmL_116 wlX11_morning (tX11_morning e1) (by decide) (by decide) (by omega) (by omega) rfl rfl (by decide) rfl rfl (fun H1 locs1 hP1 hD1 hS1 => ?_)
  refine lv_aload_n C.1 C.2.1 dL_law_1010 rfl (lv_at hl 2 rfl) ?_
  refine l_callM (d1 := 225) X hP1 hD1 hS1 hl.1 dL_law_1011 lmL_119 wlX12_morning (tX12_morning e2) (by decide) (by decide) (by omega) (by omega) rfl rfl (by simp [Value.category]) rfl rfl (fun H2 locs2 hP2 hD2 hS2 => ?_)
  refine lv_icmp_eq (tgt := 2382) C.1 C.2.1 dL_law_1014 (by decide) (fun _ => ?_) (fun q => absurd rfl q)
  exact W.widen (k := cl + 1) (n := sl + 6) (by omega) (by omega) (next hc1 hm1 x hR1 H2 locs2 ls hP2 hD2 hS2 hl)
set_option maxRecDepth 20000 in
set_option maxHeartbeats 1000000 in
theorem lc_19 {p : Program} {l : Launch} {e : Env} {s : State} {m : MethodId} {b L : Nat} {xs : Nat → Int32} {below : List Frame} {meth : Method} {c : Code} {D : va_G} {ca adc adm : Nat → Nat} {ao : Nat} {Z : State → Prop} {cl sl i : Nat} {hc hm : HS} {x : Int64} (X : LX p l s m c b L xs D ca) (hi : i + 6 ≤ L) (hR : RR hc hm) (hop : ∀ {hc hm : HS}, RR hc hm → ∀ (p1 : Int32), OK2 (fX11_holds p1 hc) (fX12_holds p1 hm)) (hcl9 : cl + 1 ≤ 601024) (hsl9 : sl + 6 ≤ 7293034) (next : ∀ (hc1 hm1 : HS) (x1 : Int64), RR hc1 hm1 → LH p l e s m b below meth c D ca adc adm ao Z i 2382 hc1 hm1 x1 (cl + 1) (sl + 6)) : LH p l e s m b below meth c D ca adc adm ao Z i 1019 hc hm x cl sl := by
  intro H locs ls hP hD hS hl
  have C := X.1
  obtain ⟨r, hc1, hm1, e1, e2, hR1⟩ := hop hR (xs (i + 1))
  refine lv_aload_n C.1 C.2.1 dL_law_1019 rfl (lv_at hl 1 rfl) ?_
  refine l_arg (j := 1) X hS hi (by decide) (by decide) (lv_at hl 0 rfl) (lv_at hl 4 rfl) dL_law_1020 dL_law_1021 dL_law_1023 dL_law_1024 dL_law_1025 ?_
  refine l_callC (d1 := 33) X hP hD hS hl.1 dL_law_1026 lmL_120 wlX11_holds (tX11_holds e1) (by decide) (by decide) (by omega) (by omega) rfl rfl (by decide) rfl rfl (fun H1 locs1 hP1 hD1 hS1 => ?_)
  refine lv_aload_n C.1 C.2.1 dL_law_1029 rfl (lv_at hl 2 rfl) ?_
  refine l_arg (j := 1) X hS1 hi (by decide) (by decide) (lv_at hl 0 rfl) (lv_at hl 4 rfl) dL_law_1030 dL_law_1031 dL_law_1033 dL_law_1034 dL_law_1035 ?_
  refine l_callM (d1 := 225) X hP1 hD1 hS1 hl.1 dL_law_1036 lmL_123 wlX12_holds (tX12_holds e2) (by decide) (by decide) (by omega) (by omega) rfl rfl (by simp [Value.category]) rfl rfl (fun H2 locs2 hP2 hD2 hS2 => ?_)
  refine lv_icmp_eq (tgt := 2382) C.1 C.2.1 dL_law_1039 (by decide) (fun _ => ?_) (fun q => absurd rfl q)
  exact W.widen (k := cl + 1) (n := sl + 6) (by omega) (by omega) (next hc1 hm1 x hR1 H2 locs2 ls hP2 hD2 hS2 hl)
set_option maxRecDepth 20000 in
set_option maxHeartbeats 1000000 in
theorem lc_20 {p : Program} {l : Launch} {e : Env} {s : State} {m : MethodId} {b L : Nat} {xs : Nat → Int32} {below : List Frame} {meth : Method} {c : Code} {D : va_G} {ca adc adm : Nat → Nat} {ao : Nat} {Z : State → Prop} {cl sl i : Nat} {hc hm : HS} {x : Int64} (X : LX p l s m c b L xs D ca) (hi : i + 6 ≤ L) (hR : RR hc hm) (hop : ∀ {hc hm : HS}, RR hc hm → ∀ (p1 p2 p3 p4 : Int32), OK2 (fX11_liar p1 p2 p3 p4 hc) (fX12_liar p1 p2 p3 p4 hm)) (hcl9 : cl + 1 ≤ 601024) (hsl9 : sl + 6 ≤ 7293034) (next : ∀ (hc1 hm1 : HS) (x1 : Int64), RR hc1 hm1 → LH p l e s m b below meth c D ca adc adm ao Z i 2382 hc1 hm1 x1 (cl + 1) (sl + 6)) : LH p l e s m b below meth c D ca adc adm ao Z i 1044 hc hm x cl sl := by
  intro H locs ls hP hD hS hl
  have C := X.1
  obtain ⟨r, hc1, hm1, e1, e2, hR1⟩ := hop hR (xs (i + 1)) (xs (i + 2)) (xs (i + 3)) (xs (i + 4))
  refine lv_aload_n C.1 C.2.1 dL_law_1044 rfl (lv_at hl 1 rfl) ?_
  refine l_arg (j := 1) X hS hi (by decide) (by decide) (lv_at hl 0 rfl) (lv_at hl 4 rfl) dL_law_1045 dL_law_1046 dL_law_1048 dL_law_1049 dL_law_1050 ?_
  refine l_arg (j := 2) X hS hi (by decide) (by decide) (lv_at hl 0 rfl) (lv_at hl 4 rfl) dL_law_1051 dL_law_1052 dL_law_1054 dL_law_1055 dL_law_1056 ?_
  refine l_arg (j := 3) X hS hi (by decide) (by decide) (lv_at hl 0 rfl) (lv_at hl 4 rfl) dL_law_1057 dL_law_1058 dL_law_1060 dL_law_1061 dL_law_1062 ?_
  refine l_arg (j := 4) X hS hi (by decide) (by decide) (lv_at hl 0 rfl) (lv_at hl 4 rfl) dL_law_1063 dL_law_1064 dL_law_1066 dL_law_1067 dL_law_1068 ?_
  refine l_callC (d1 := 3) X hP hD hS hl.1 dL_law_1069 lmL_124 wlX11_liar (tX11_liar e1) (by decide) (by decide) (by omega) (by omega) rfl rfl (by decide) rfl rfl (fun H1 locs1 hP1 hD1 hS1 => ?_)
  refine lv_aload_n C.1 C.2.1 dL_law_1072 rfl (lv_at hl 2 rfl) ?_
  refine l_arg (j := 1) X hS1 hi (by decide) (by decide) (lv_at hl 0 rfl) (lv_at hl 4 rfl) dL_law_1073 dL_law_1074 dL_law_1076 dL_law_1077 dL_law_1078 ?_
  refine l_arg (j := 2) X hS1 hi (by decide) (by decide) (lv_at hl 0 rfl) (lv_at hl 4 rfl) dL_law_1079 dL_law_1080 dL_law_1082 dL_law_1083 dL_law_1084 ?_
  refine l_arg (j := 3) X hS1 hi (by decide) (by decide) (lv_at hl 0 rfl) (lv_at hl 4 rfl) dL_law_1085 dL_law_1086 dL_law_1088 dL_law_1089 dL_law_1090 ?_
  refine l_arg (j := 4) X hS1 hi (by decide) (by decide) (lv_at hl 0 rfl) (lv_at hl 4 rfl) dL_law_1091 dL_law_1092 dL_law_1094 dL_law_1095 dL_law_1096 ?_
  refine l_callM (d1 := 3) X hP1 hD1 hS1 hl.1 dL_law_1097 lmL_127 wlX12_liar (tX12_liar e2) (by decide) (by decide) (by omega) (by omega) rfl rfl (by simp [Value.category]) rfl rfl (fun H2 locs2 hP2 hD2 hS2 => ?_)
  refine lv_icmp_eq (tgt := 2382) C.1 C.2.1 dL_law_1100 (by decide) (fun _ => ?_) (fun q => absurd rfl q)
  exact W.widen (k := cl + 1) (n := sl + 6) (by omega) (by omega) (next hc1 hm1 x hR1 H2 locs2 ls hP2 hD2 hS2 hl)
set_option maxRecDepth 20000 in
set_option maxHeartbeats 1000000 in
theorem lc_21 {p : Program} {l : Launch} {e : Env} {s : State} {m : MethodId} {b L : Nat} {xs : Nat → Int32} {below : List Frame} {meth : Method} {c : Code} {D : va_G} {ca adc adm : Nat → Nat} {ao : Nat} {Z : State → Prop} {cl sl i : Nat} {hc hm : HS} {x : Int64} (X : LX p l s m c b L xs D ca) (hi : i + 6 ≤ L) (hR : RR hc hm) (hop : ∀ {hc hm : HS}, RR hc hm → ∀ (p1 p2 p3 p4 : Int32), OK2 (fX11_two p1 p2 p3 p4 hc) (fX12_two p1 p2 p3 p4 hm)) (hcl9 : cl + 1 ≤ 601024) (hsl9 : sl + 6 ≤ 7293034) (next : ∀ (hc1 hm1 : HS) (x1 : Int64), RR hc1 hm1 → LH p l e s m b below meth c D ca adc adm ao Z i 2382 hc1 hm1 x1 (cl + 1) (sl + 6)) : LH p l e s m b below meth c D ca adc adm ao Z i 1105 hc hm x cl sl := by
  intro H locs ls hP hD hS hl
  have C := X.1
  obtain ⟨r, hc1, hm1, e1, e2, hR1⟩ := hop hR (xs (i + 1)) (xs (i + 2)) (xs (i + 3)) (xs (i + 4))
  refine lv_aload_n C.1 C.2.1 dL_law_1105 rfl (lv_at hl 1 rfl) ?_
  refine l_arg (j := 1) X hS hi (by decide) (by decide) (lv_at hl 0 rfl) (lv_at hl 4 rfl) dL_law_1106 dL_law_1107 dL_law_1109 dL_law_1110 dL_law_1111 ?_
  refine l_arg (j := 2) X hS hi (by decide) (by decide) (lv_at hl 0 rfl) (lv_at hl 4 rfl) dL_law_1112 dL_law_1113 dL_law_1115 dL_law_1116 dL_law_1117 ?_
  refine l_arg (j := 3) X hS hi (by decide) (by decide) (lv_at hl 0 rfl) (lv_at hl 4 rfl) dL_law_1118 dL_law_1119 dL_law_1121 dL_law_1122 dL_law_1123 ?_
  refine l_arg (j := 4) X hS hi (by decide) (by decide) (lv_at hl 0 rfl) (lv_at hl 4 rfl) dL_law_1124 dL_law_1125 dL_law_1127 dL_law_1128 dL_law_1129 ?_
  refine l_callC (d1 := 3) X hP hD hS hl.1 dL_law_1130 lmL_128 wlX11_two (tX11_two e1) (by decide) (by decide) (by omega) (by omega) rfl rfl (by decide) rfl rfl (fun H1 locs1 hP1 hD1 hS1 => ?_)
  refine lv_aload_n C.1 C.2.1 dL_law_1133 rfl (lv_at hl 2 rfl) ?_
  refine l_arg (j := 1) X hS1 hi (by decide) (by decide) (lv_at hl 0 rfl) (lv_at hl 4 rfl) dL_law_1134 dL_law_1135 dL_law_1137 dL_law_1138 dL_law_1139 ?_
  refine l_arg (j := 2) X hS1 hi (by decide) (by decide) (lv_at hl 0 rfl) (lv_at hl 4 rfl) dL_law_1140 dL_law_1141 dL_law_1143 dL_law_1144 dL_law_1145 ?_
  refine l_arg (j := 3) X hS1 hi (by decide) (by decide) (lv_at hl 0 rfl) (lv_at hl 4 rfl) dL_law_1146 dL_law_1147 dL_law_1149 dL_law_1150 dL_law_1151 ?_
  refine l_arg (j := 4) X hS1 hi (by decide) (by decide) (lv_at hl 0 rfl) (lv_at hl 4 rfl) dL_law_1152 dL_law_1153 dL_law_1155 dL_law_1156 dL_law_1157 ?_
  refine l_callM (d1 := 3) X hP1 hD1 hS1 hl.1 dL_law_1158 lmL_131 wlX12_two (tX12_two e2) (by decide) (by decide) (by omega) (by omega) rfl rfl (by simp [Value.category]) rfl rfl (fun H2 locs2 hP2 hD2 hS2 => ?_)
  refine lv_icmp_eq (tgt := 2382) C.1 C.2.1 dL_law_1161 (by decide) (fun _ => ?_) (fun q => absurd rfl q)
  exact W.widen (k := cl + 1) (n := sl + 6) (by omega) (by omega) (next hc1 hm1 x hR1 H2 locs2 ls hP2 hD2 hS2 hl)
set_option maxRecDepth 20000 in
set_option maxHeartbeats 1000000 in
theorem lc_22 {p : Program} {l : Launch} {e : Env} {s : State} {m : MethodId} {b L : Nat} {xs : Nat → Int32} {below : List Frame} {meth : Method} {c : Code} {D : va_G} {ca adc adm : Nat → Nat} {ao : Nat} {Z : State → Prop} {cl sl i : Nat} {hc hm : HS} {x : Int64} (X : LX p l s m c b L xs D ca) (hi : i + 6 ≤ L) (hR : RR hc hm) (hop : ∀ {hc hm : HS}, RR hc hm → ∀ (p1 p2 p3 p4 : Int32), OK2 (fX11_pump p1 p2 p3 p4 hc) (fX12_pump p1 p2 p3 p4 hm)) (hcl9 : cl + 1 ≤ 601024) (hsl9 : sl + 6 ≤ 7293034) (next : ∀ (hc1 hm1 : HS) (x1 : Int64), RR hc1 hm1 → LH p l e s m b below meth c D ca adc adm ao Z i 2382 hc1 hm1 x1 (cl + 1) (sl + 6)) : LH p l e s m b below meth c D ca adc adm ao Z i 1166 hc hm x cl sl := by
  intro H locs ls hP hD hS hl
  have C := X.1
  obtain ⟨r, hc1, hm1, e1, e2, hR1⟩ := hop hR (xs (i + 1)) (xs (i + 2)) (xs (i + 3)) (bz (xs (i + 4)))
  refine lv_aload_n C.1 C.2.1 dL_law_1166 rfl (lv_at hl 1 rfl) ?_
  refine l_arg (j := 1) X hS hi (by decide) (by decide) (lv_at hl 0 rfl) (lv_at hl 4 rfl) dL_law_1167 dL_law_1168 dL_law_1170 dL_law_1171 dL_law_1172 ?_
  refine l_arg (j := 2) X hS hi (by decide) (by decide) (lv_at hl 0 rfl) (lv_at hl 4 rfl) dL_law_1173 dL_law_1174 dL_law_1176 dL_law_1177 dL_law_1178 ?_
  refine l_arg (j := 3) X hS hi (by decide) (by decide) (lv_at hl 0 rfl) (lv_at hl 4 rfl) dL_law_1179 dL_law_1180 dL_law_1182 dL_law_1183 dL_law_1184 ?_
  refine l_arg (j := 4) X hS hi (by decide) (by decide) (lv_at hl 0 rfl) (lv_at hl 4 rfl) dL_law_1185 dL_law_1186 dL_law_1188 dL_law_1189 dL_law_1190 ?_
  refine l_bz X dL_law_1191 dL_law_1194 dL_law_1195 dL_law_1198 ?_
  refine l_callC (d1 := 3) X hP hD hS hl.1 dL_law_1199 lmL_132 wlX11_pump (tX11_pump e1) (by decide) (by decide) (by omega) (by omega) rfl rfl (by decide) rfl rfl (fun H1 locs1 hP1 hD1 hS1 => ?_)
  refine lv_aload_n C.1 C.2.1 dL_law_1202 rfl (lv_at hl 2 rfl) ?_
  refine l_arg (j := 1) X hS1 hi (by decide) (by decide) (lv_at hl 0 rfl) (lv_at hl 4 rfl) dL_law_1203 dL_law_1204 dL_law_1206 dL_law_1207 dL_law_1208 ?_
  refine l_arg (j := 2) X hS1 hi (by decide) (by decide) (lv_at hl 0 rfl) (lv_at hl 4 rfl) dL_law_1209 dL_law_1210 dL_law_1212 dL_law_1213 dL_law_1214 ?_
  refine l_arg (j := 3) X hS1 hi (by decide) (by decide) (lv_at hl 0 rfl) (lv_at hl 4 rfl) dL_law_1215 dL_law_1216 dL_law_1218 dL_law_1219 dL_law_1220 ?_
  refine l_arg (j := 4) X hS1 hi (by decide) (by decide) (lv_at hl 0 rfl) (lv_at hl 4 rfl) dL_law_1221 dL_law_1222 dL_law_1224 dL_law_1225 dL_law_1226 ?_
  refine l_bz X dL_law_1227 dL_law_1230 dL_law_1231 dL_law_1234 ?_
  refine l_callM (d1 := 4) X hP1 hD1 hS1 hl.1 dL_law_1235 lmL_136 wlX12_pump (tX12_pump e2) (by decide) (by decide) (by omega) (by omega) rfl rfl (by simp [Value.category]) rfl rfl (fun H2 locs2 hP2 hD2 hS2 => ?_)
  refine lv_icmp_eq (tgt := 2382) C.1 C.2.1 dL_law_1238 (by decide) (fun _ => ?_) (fun q => absurd rfl q)
  exact W.widen (k := cl + 1) (n := sl + 6) (by omega) (by omega) (next hc1 hm1 x hR1 H2 locs2 ls hP2 hD2 hS2 hl)
set_option maxRecDepth 20000 in
set_option maxHeartbeats 1000000 in
theorem lc_23 {p : Program} {l : Launch} {e : Env} {s : State} {m : MethodId} {b L : Nat} {xs : Nat → Int32} {below : List Frame} {meth : Method} {c : Code} {D : va_G} {ca adc adm : Nat → Nat} {ao : Nat} {Z : State → Prop} {cl sl i : Nat} {hc hm : HS} {x : Int64} (X : LX p l s m c b L xs D ca) (hi : i + 6 ≤ L) (hR : RR hc hm) (hop : ∀ {hc hm : HS}, RR hc hm → ∀ (p1 p2 : Int32), OK2 (fX11_run p1 p2 hc) (fX12_run p1 p2 hm)) (hcl9 : cl + 1 ≤ 601024) (hsl9 : sl + 6 ≤ 7293034) (next : ∀ (hc1 hm1 : HS) (x1 : Int64), RR hc1 hm1 → LH p l e s m b below meth c D ca adc adm ao Z i 2382 hc1 hm1 x1 (cl + 1) (sl + 6)) : LH p l e s m b below meth c D ca adc adm ao Z i 1243 hc hm x cl sl := by
  intro H locs ls hP hD hS hl
  have C := X.1
  obtain ⟨r, hc1, hm1, e1, e2, hR1⟩ := hop hR (xs (i + 1)) (xs (i + 2))
  refine lv_aload_n C.1 C.2.1 dL_law_1243 rfl (lv_at hl 1 rfl) ?_
  refine l_arg (j := 1) X hS hi (by decide) (by decide) (lv_at hl 0 rfl) (lv_at hl 4 rfl) dL_law_1244 dL_law_1245 dL_law_1247 dL_law_1248 dL_law_1249 ?_
  refine l_arg (j := 2) X hS hi (by decide) (by decide) (lv_at hl 0 rfl) (lv_at hl 4 rfl) dL_law_1250 dL_law_1251 dL_law_1253 dL_law_1254 dL_law_1255 ?_
  refine l_callC (d1 := 3) X hP hD hS hl.1 dL_law_1256 lmL_137 wlX11_run (tX11_run e1) (by decide) (by decide) (by omega) (by omega) rfl rfl (by decide) rfl rfl (fun H1 locs1 hP1 hD1 hS1 => ?_)
  refine lv_aload_n C.1 C.2.1 dL_law_1259 rfl (lv_at hl 2 rfl) ?_
  refine l_arg (j := 1) X hS1 hi (by decide) (by decide) (lv_at hl 0 rfl) (lv_at hl 4 rfl) dL_law_1260 dL_law_1261 dL_law_1263 dL_law_1264 dL_law_1265 ?_
  refine l_arg (j := 2) X hS1 hi (by decide) (by decide) (lv_at hl 0 rfl) (lv_at hl 4 rfl) dL_law_1266 dL_law_1267 dL_law_1269 dL_law_1270 dL_law_1271 ?_
  refine l_callM (d1 := 2) X hP1 hD1 hS1 hl.1 dL_law_1272 lmL_140 wlX12_run (tX12_run e2) (by decide) (by decide) (by omega) (by omega) rfl rfl (by simp [Value.category]) rfl rfl (fun H2 locs2 hP2 hD2 hS2 => ?_)
  refine lv_icmp_eq (tgt := 2382) C.1 C.2.1 dL_law_1275 (by decide) (fun _ => ?_) (fun q => absurd rfl q)
  exact W.widen (k := cl + 1) (n := sl + 6) (by omega) (by omega) (next hc1 hm1 x hR1 H2 locs2 ls hP2 hD2 hS2 hl)
set_option maxRecDepth 20000 in
set_option maxHeartbeats 1000000 in
theorem lc_24 {p : Program} {l : Launch} {e : Env} {s : State} {m : MethodId} {b L : Nat} {xs : Nat → Int32} {below : List Frame} {meth : Method} {c : Code} {D : va_G} {ca adc adm : Nat → Nat} {ao : Nat} {Z : State → Prop} {cl sl i : Nat} {hc hm : HS} {x : Int64} (X : LX p l s m c b L xs D ca) (hi : i + 6 ≤ L) (hR : RR hc hm) (hop : ∀ {hc hm : HS}, RR hc hm → ∀ (p1 p2 : Int32), OK2 (fX11_best p1 p2 hc) (fX12_best p1 p2 hm)) (hcl9 : cl + 1 ≤ 601024) (hsl9 : sl + 6 ≤ 7293034) (next : ∀ (hc1 hm1 : HS) (x1 : Int64), RR hc1 hm1 → LH p l e s m b below meth c D ca adc adm ao Z i 2382 hc1 hm1 x1 (cl + 1) (sl + 6)) : LH p l e s m b below meth c D ca adc adm ao Z i 1280 hc hm x cl sl := by
  intro H locs ls hP hD hS hl
  have C := X.1
  obtain ⟨r, hc1, hm1, e1, e2, hR1⟩ := hop hR (xs (i + 1)) (xs (i + 2))
  refine lv_aload_n C.1 C.2.1 dL_law_1280 rfl (lv_at hl 1 rfl) ?_
  refine l_arg (j := 1) X hS hi (by decide) (by decide) (lv_at hl 0 rfl) (lv_at hl 4 rfl) dL_law_1281 dL_law_1282 dL_law_1284 dL_law_1285 dL_law_1286 ?_
  refine l_arg (j := 2) X hS hi (by decide) (by decide) (lv_at hl 0 rfl) (lv_at hl 4 rfl) dL_law_1287 dL_law_1288 dL_law_1290 dL_law_1291 dL_law_1292 ?_
  refine l_callC (d1 := 5) X hP hD hS hl.1 dL_law_1293 lmL_141 wlX11_best (tX11_best e1) (by decide) (by decide) (by omega) (by omega) rfl rfl (by decide) rfl rfl (fun H1 locs1 hP1 hD1 hS1 => ?_)
  refine lv_aload_n C.1 C.2.1 dL_law_1296 rfl (lv_at hl 2 rfl) ?_
  refine l_arg (j := 1) X hS1 hi (by decide) (by decide) (lv_at hl 0 rfl) (lv_at hl 4 rfl) dL_law_1297 dL_law_1298 dL_law_1300 dL_law_1301 dL_law_1302 ?_
  refine l_arg (j := 2) X hS1 hi (by decide) (by decide) (lv_at hl 0 rfl) (lv_at hl 4 rfl) dL_law_1303 dL_law_1304 dL_law_1306 dL_law_1307 dL_law_1308 ?_
  refine l_callM (d1 := 3) X hP1 hD1 hS1 hl.1 dL_law_1309 lmL_144 wlX12_best (tX12_best e2) (by decide) (by decide) (by omega) (by omega) rfl rfl (by simp [Value.category]) rfl rfl (fun H2 locs2 hP2 hD2 hS2 => ?_)
  refine lv_icmp_eq (tgt := 2382) C.1 C.2.1 dL_law_1312 (by decide) (fun _ => ?_) (fun q => absurd rfl q)
  exact W.widen (k := cl + 1) (n := sl + 6) (by omega) (by omega) (next hc1 hm1 x hR1 H2 locs2 ls hP2 hD2 hS2 hl)
set_option maxRecDepth 20000 in
set_option maxHeartbeats 1000000 in
theorem lc_25 {p : Program} {l : Launch} {e : Env} {s : State} {m : MethodId} {b L : Nat} {xs : Nat → Int32} {below : List Frame} {meth : Method} {c : Code} {D : va_G} {ca adc adm : Nat → Nat} {ao : Nat} {Z : State → Prop} {cl sl i : Nat} {hc hm : HS} {x : Int64} (X : LX p l s m c b L xs D ca) (hi : i + 6 ≤ L) (hR : RR hc hm) (hop : ∀ {hc hm : HS}, RR hc hm → ∀ (p1 p2 : Int32), OK2 (fX11_trim p1 p2 hc) (fX12_trim p1 p2 hm)) (hcl9 : cl + 1 ≤ 601024) (hsl9 : sl + 6 ≤ 7293034) (next : ∀ (hc1 hm1 : HS) (x1 : Int64), RR hc1 hm1 → LH p l e s m b below meth c D ca adc adm ao Z i 2382 hc1 hm1 x1 (cl + 1) (sl + 6)) : LH p l e s m b below meth c D ca adc adm ao Z i 1317 hc hm x cl sl := by
  intro H locs ls hP hD hS hl
  have C := X.1
  obtain ⟨r, hc1, hm1, e1, e2, hR1⟩ := hop hR (xs (i + 1)) (bz (xs (i + 2)))
  refine lv_aload_n C.1 C.2.1 dL_law_1317 rfl (lv_at hl 1 rfl) ?_
  refine l_arg (j := 1) X hS hi (by decide) (by decide) (lv_at hl 0 rfl) (lv_at hl 4 rfl) dL_law_1318 dL_law_1319 dL_law_1321 dL_law_1322 dL_law_1323 ?_
  refine l_arg (j := 2) X hS hi (by decide) (by decide) (lv_at hl 0 rfl) (lv_at hl 4 rfl) dL_law_1324 dL_law_1325 dL_law_1327 dL_law_1328 dL_law_1329 ?_
  refine l_bz X dL_law_1330 dL_law_1333 dL_law_1334 dL_law_1337 ?_
  refine l_callC (d1 := 6) X hP hD hS hl.1 dL_law_1338 lmL_145 wlX11_trim (tX11_trim e1) (by decide) (by decide) (by omega) (by omega) rfl rfl (by decide) rfl rfl (fun H1 locs1 hP1 hD1 hS1 => ?_)
  refine lv_aload_n C.1 C.2.1 dL_law_1341 rfl (lv_at hl 2 rfl) ?_
  refine l_arg (j := 1) X hS1 hi (by decide) (by decide) (lv_at hl 0 rfl) (lv_at hl 4 rfl) dL_law_1342 dL_law_1343 dL_law_1345 dL_law_1346 dL_law_1347 ?_
  refine l_arg (j := 2) X hS1 hi (by decide) (by decide) (lv_at hl 0 rfl) (lv_at hl 4 rfl) dL_law_1348 dL_law_1349 dL_law_1351 dL_law_1352 dL_law_1353 ?_
  refine l_bz X dL_law_1354 dL_law_1357 dL_law_1358 dL_law_1361 ?_
  refine l_callM (d1 := 4) X hP1 hD1 hS1 hl.1 dL_law_1362 lmL_149 wlX12_trim (tX12_trim e2) (by decide) (by decide) (by omega) (by omega) rfl rfl (by simp [Value.category]) rfl rfl (fun H2 locs2 hP2 hD2 hS2 => ?_)
  refine lv_icmp_eq (tgt := 2382) C.1 C.2.1 dL_law_1365 (by decide) (fun _ => ?_) (fun q => absurd rfl q)
  exact W.widen (k := cl + 1) (n := sl + 6) (by omega) (by omega) (next hc1 hm1 x hR1 H2 locs2 ls hP2 hD2 hS2 hl)
set_option maxRecDepth 20000 in
set_option maxHeartbeats 1000000 in
theorem lc_26 {p : Program} {l : Launch} {e : Env} {s : State} {m : MethodId} {b L : Nat} {xs : Nat → Int32} {below : List Frame} {meth : Method} {c : Code} {D : va_G} {ca adc adm : Nat → Nat} {ao : Nat} {Z : State → Prop} {cl sl i : Nat} {hc hm : HS} {x : Int64} (X : LX p l s m c b L xs D ca) (hi : i + 6 ≤ L) (hR : RR hc hm) (hop : ∀ {hc hm : HS}, RR hc hm → ∀ (p1 : Int32), OK2 (fX11_reach p1 hc) (fX12_reach p1 hm)) (hcl9 : cl + 1 ≤ 601024) (hsl9 : sl + 6 ≤ 7293034) (next : ∀ (hc1 hm1 : HS) (x1 : Int64), RR hc1 hm1 → LH p l e s m b below meth c D ca adc adm ao Z i 2382 hc1 hm1 x1 (cl + 1) (sl + 6)) : LH p l e s m b below meth c D ca adc adm ao Z i 1370 hc hm x cl sl := by
  intro H locs ls hP hD hS hl
  have C := X.1
  obtain ⟨r, hc1, hm1, e1, e2, hR1⟩ := hop hR (xs (i + 1))
  refine lv_aload_n C.1 C.2.1 dL_law_1370 rfl (lv_at hl 1 rfl) ?_
  refine l_arg (j := 1) X hS hi (by decide) (by decide) (lv_at hl 0 rfl) (lv_at hl 4 rfl) dL_law_1371 dL_law_1372 dL_law_1374 dL_law_1375 dL_law_1376 ?_
  refine l_callC (d1 := 4) X hP hD hS hl.1 dL_law_1377 lmL_150 wlX11_reach (tX11_reach e1) (by decide) (by decide) (by omega) (by omega) rfl rfl (by decide) rfl rfl (fun H1 locs1 hP1 hD1 hS1 => ?_)
  refine lv_aload_n C.1 C.2.1 dL_law_1380 rfl (lv_at hl 2 rfl) ?_
  refine l_arg (j := 1) X hS1 hi (by decide) (by decide) (lv_at hl 0 rfl) (lv_at hl 4 rfl) dL_law_1381 dL_law_1382 dL_law_1384 dL_law_1385 dL_law_1386 ?_
  refine l_callM (d1 := 4) X hP1 hD1 hS1 hl.1 dL_law_1387 lmL_153 wlX12_reach (tX12_reach e2) (by decide) (by decide) (by omega) (by omega) rfl rfl (by simp [Value.category]) rfl rfl (fun H2 locs2 hP2 hD2 hS2 => ?_)
  refine lv_icmp_eq (tgt := 2382) C.1 C.2.1 dL_law_1390 (by decide) (fun _ => ?_) (fun q => absurd rfl q)
  exact W.widen (k := cl + 1) (n := sl + 6) (by omega) (by omega) (next hc1 hm1 x hR1 H2 locs2 ls hP2 hD2 hS2 hl)
set_option maxRecDepth 20000 in
set_option maxHeartbeats 1000000 in
theorem lc_27 {p : Program} {l : Launch} {e : Env} {s : State} {m : MethodId} {b L : Nat} {xs : Nat → Int32} {below : List Frame} {meth : Method} {c : Code} {D : va_G} {ca adc adm : Nat → Nat} {ao : Nat} {Z : State → Prop} {cl sl i : Nat} {hc hm : HS} {x : Int64} (X : LX p l s m c b L xs D ca) (hi : i + 6 ≤ L) (hR : RR hc hm) (hop : ∀ {hc hm : HS}, RR hc hm → ∀ (p1 p2 p3 p4 p5 : Int32), OK2 (fX11_shot p1 p2 p3 p4 p5 hc) (fX12_shot p1 p2 p3 p4 p5 hm)) (hcl9 : cl + 1 ≤ 601024) (hsl9 : sl + 6 ≤ 7293034) (next : ∀ (hc1 hm1 : HS) (x1 : Int64), RR hc1 hm1 → LH p l e s m b below meth c D ca adc adm ao Z i 2382 hc1 hm1 x1 (cl + 1) (sl + 6)) : LH p l e s m b below meth c D ca adc adm ao Z i 1395 hc hm x cl sl := by
  intro H locs ls hP hD hS hl
  have C := X.1
  obtain ⟨r, hc1, hm1, e1, e2, hR1⟩ := hop hR (xs (i + 1)) (xs (i + 2)) (xs (i + 3)) (xs (i + 4)) (xs (i + 5))
  refine lv_aload_n C.1 C.2.1 dL_law_1395 rfl (lv_at hl 1 rfl) ?_
  refine l_arg (j := 1) X hS hi (by decide) (by decide) (lv_at hl 0 rfl) (lv_at hl 4 rfl) dL_law_1396 dL_law_1397 dL_law_1399 dL_law_1400 dL_law_1401 ?_
  refine l_arg (j := 2) X hS hi (by decide) (by decide) (lv_at hl 0 rfl) (lv_at hl 4 rfl) dL_law_1402 dL_law_1403 dL_law_1405 dL_law_1406 dL_law_1407 ?_
  refine l_arg (j := 3) X hS hi (by decide) (by decide) (lv_at hl 0 rfl) (lv_at hl 4 rfl) dL_law_1408 dL_law_1409 dL_law_1411 dL_law_1412 dL_law_1413 ?_
  refine l_arg (j := 4) X hS hi (by decide) (by decide) (lv_at hl 0 rfl) (lv_at hl 4 rfl) dL_law_1414 dL_law_1415 dL_law_1417 dL_law_1418 dL_law_1419 ?_
  refine l_arg (j := 5) X hS hi (by decide) (by decide) (lv_at hl 0 rfl) (lv_at hl 4 rfl) dL_law_1420 dL_law_1421 dL_law_1423 dL_law_1424 dL_law_1425 ?_
  refine l_callC (d1 := 2) X hP hD hS hl.1 dL_law_1426 lmL_154 wlX11_shot (tX11_shot e1) (by decide) (by decide) (by omega) (by omega) rfl rfl (by decide) rfl rfl (fun H1 locs1 hP1 hD1 hS1 => ?_)
  refine lv_aload_n C.1 C.2.1 dL_law_1429 rfl (lv_at hl 2 rfl) ?_
  refine l_arg (j := 1) X hS1 hi (by decide) (by decide) (lv_at hl 0 rfl) (lv_at hl 4 rfl) dL_law_1430 dL_law_1431 dL_law_1433 dL_law_1434 dL_law_1435 ?_
  refine l_arg (j := 2) X hS1 hi (by decide) (by decide) (lv_at hl 0 rfl) (lv_at hl 4 rfl) dL_law_1436 dL_law_1437 dL_law_1439 dL_law_1440 dL_law_1441 ?_
  refine l_arg (j := 3) X hS1 hi (by decide) (by decide) (lv_at hl 0 rfl) (lv_at hl 4 rfl) dL_law_1442 dL_law_1443 dL_law_1445 dL_law_1446 dL_law_1447 ?_
  refine l_arg (j := 4) X hS1 hi (by decide) (by decide) (lv_at hl 0 rfl) (lv_at hl 4 rfl) dL_law_1448 dL_law_1449 dL_law_1451 dL_law_1452 dL_law_1453 ?_
  refine l_arg (j := 5) X hS1 hi (by decide) (by decide) (lv_at hl 0 rfl) (lv_at hl 4 rfl) dL_law_1454 dL_law_1455 dL_law_1457 dL_law_1458 dL_law_1459 ?_
  refine l_callM (d1 := 3) X hP1 hD1 hS1 hl.1 dL_law_1460 lmL_157 wlX12_shot (tX12_shot e2) (by decide) (by decide) (by omega) (by omega) rfl rfl (by simp [Value.category]) rfl rfl (fun H2 locs2 hP2 hD2 hS2 => ?_)
  refine lv_icmp_eq (tgt := 2382) C.1 C.2.1 dL_law_1463 (by decide) (fun _ => ?_) (fun q => absurd rfl q)
  exact W.widen (k := cl + 1) (n := sl + 6) (by omega) (by omega) (next hc1 hm1 x hR1 H2 locs2 ls hP2 hD2 hS2 hl)
set_option maxRecDepth 20000 in
set_option maxHeartbeats 1000000 in
theorem lc_28 {p : Program} {l : Launch} {e : Env} {s : State} {m : MethodId} {b L : Nat} {xs : Nat → Int32} {below : List Frame} {meth : Method} {c : Code} {D : va_G} {ca adc adm : Nat → Nat} {ao : Nat} {Z : State → Prop} {cl sl i : Nat} {hc hm : HS} {x : Int64} (X : LX p l s m c b L xs D ca) (hi : i + 6 ≤ L) (hR : RR hc hm) (hop : ∀ {hc hm : HS}, RR hc hm → ∀ (p1 p2 p3 : Int32), OK2 (fX11_dive p1 p2 p3 hc) (fX12_dive p1 p2 p3 hm)) (hcl9 : cl + 1 ≤ 601024) (hsl9 : sl + 6 ≤ 7293034) (next : ∀ (hc1 hm1 : HS) (x1 : Int64), RR hc1 hm1 → LH p l e s m b below meth c D ca adc adm ao Z i 2382 hc1 hm1 x1 (cl + 1) (sl + 6)) : LH p l e s m b below meth c D ca adc adm ao Z i 1468 hc hm x cl sl := by
  intro H locs ls hP hD hS hl
  have C := X.1
  obtain ⟨r, hc1, hm1, e1, e2, hR1⟩ := hop hR (xs (i + 1)) (xs (i + 2)) (xs (i + 3))
  refine lv_aload_n C.1 C.2.1 dL_law_1468 rfl (lv_at hl 1 rfl) ?_
  refine l_arg (j := 1) X hS hi (by decide) (by decide) (lv_at hl 0 rfl) (lv_at hl 4 rfl) dL_law_1469 dL_law_1470 dL_law_1472 dL_law_1473 dL_law_1474 ?_
  refine l_arg (j := 2) X hS hi (by decide) (by decide) (lv_at hl 0 rfl) (lv_at hl 4 rfl) dL_law_1475 dL_law_1476 dL_law_1478 dL_law_1479 dL_law_1480 ?_
  refine l_arg (j := 3) X hS hi (by decide) (by decide) (lv_at hl 0 rfl) (lv_at hl 4 rfl) dL_law_1481 dL_law_1482 dL_law_1484 dL_law_1485 dL_law_1486 ?_
  refine l_callC (d1 := 3) X hP hD hS hl.1 dL_law_1487 lmL_158 wlX11_dive (tX11_dive e1) (by decide) (by decide) (by omega) (by omega) rfl rfl (by decide) rfl rfl (fun H1 locs1 hP1 hD1 hS1 => ?_)
  refine lv_aload_n C.1 C.2.1 dL_law_1490 rfl (lv_at hl 2 rfl) ?_
  refine l_arg (j := 1) X hS1 hi (by decide) (by decide) (lv_at hl 0 rfl) (lv_at hl 4 rfl) dL_law_1491 dL_law_1492 dL_law_1494 dL_law_1495 dL_law_1496 ?_
  refine l_arg (j := 2) X hS1 hi (by decide) (by decide) (lv_at hl 0 rfl) (lv_at hl 4 rfl) dL_law_1497 dL_law_1498 dL_law_1500 dL_law_1501 dL_law_1502 ?_
  refine l_arg (j := 3) X hS1 hi (by decide) (by decide) (lv_at hl 0 rfl) (lv_at hl 4 rfl) dL_law_1503 dL_law_1504 dL_law_1506 dL_law_1507 dL_law_1508 ?_
  refine l_callM (d1 := 5) X hP1 hD1 hS1 hl.1 dL_law_1509 lmL_162 wlX12_dive (tX12_dive e2) (by decide) (by decide) (by omega) (by omega) rfl rfl (by simp [Value.category]) rfl rfl (fun H2 locs2 hP2 hD2 hS2 => ?_)
  refine lv_icmp_eq (tgt := 2382) C.1 C.2.1 dL_law_1512 (by decide) (fun _ => ?_) (fun q => absurd rfl q)
  exact W.widen (k := cl + 1) (n := sl + 6) (by omega) (by omega) (next hc1 hm1 x hR1 H2 locs2 ls hP2 hD2 hS2 hl)
set_option maxRecDepth 20000 in
set_option maxHeartbeats 1000000 in
theorem lc_29 {p : Program} {l : Launch} {e : Env} {s : State} {m : MethodId} {b L : Nat} {xs : Nat → Int32} {below : List Frame} {meth : Method} {c : Code} {D : va_G} {ca adc adm : Nat → Nat} {ao : Nat} {Z : State → Prop} {cl sl i : Nat} {hc hm : HS} {x : Int64} (X : LX p l s m c b L xs D ca) (hi : i + 6 ≤ L) (hR : RR hc hm) (hop : ∀ {hc hm : HS}, RR hc hm → ∀ (p1 p2 p3 p4 p5 : Int32), OK2 (fX11_forward p1 p2 p3 p4 p5 hc) (fX12_forward p1 p2 p3 p4 p5 hm)) (hcl9 : cl + 1 ≤ 601024) (hsl9 : sl + 6 ≤ 7293034) (next : ∀ (hc1 hm1 : HS) (x1 : Int64), RR hc1 hm1 → LH p l e s m b below meth c D ca adc adm ao Z i 2382 hc1 hm1 x1 (cl + 1) (sl + 6)) : LH p l e s m b below meth c D ca adc adm ao Z i 1517 hc hm x cl sl := by
  intro H locs ls hP hD hS hl
  have C := X.1
  obtain ⟨r, hc1, hm1, e1, e2, hR1⟩ := hop hR (xs (i + 1)) (xs (i + 2)) (xs (i + 3)) (xs (i + 4)) (xs (i + 5))
  refine lv_aload_n C.1 C.2.1 dL_law_1517 rfl (lv_at hl 1 rfl) ?_
  refine l_arg (j := 1) X hS hi (by decide) (by decide) (lv_at hl 0 rfl) (lv_at hl 4 rfl) dL_law_1518 dL_law_1519 dL_law_1521 dL_law_1522 dL_law_1523 ?_
  refine l_arg (j := 2) X hS hi (by decide) (by decide) (lv_at hl 0 rfl) (lv_at hl 4 rfl) dL_law_1524 dL_law_1525 dL_law_1527 dL_law_1528 dL_law_1529 ?_
  refine l_arg (j := 3) X hS hi (by decide) (by decide) (lv_at hl 0 rfl) (lv_at hl 4 rfl) dL_law_1530 dL_law_1531 dL_law_1533 dL_law_1534 dL_law_1535 ?_
  refine l_arg (j := 4) X hS hi (by decide) (by decide) (lv_at hl 0 rfl) (lv_at hl 4 rfl) dL_law_1536 dL_law_1537 dL_law_1539 dL_law_1540 dL_law_1541 ?_
  refine l_arg (j := 5) X hS hi (by decide) (by decide) (lv_at hl 0 rfl) (lv_at hl 4 rfl) dL_law_1542 dL_law_1543 dL_law_1545 dL_law_1546 dL_law_1547 ?_
  refine l_callC (d1 := 4) X hP hD hS hl.1 dL_law_1548 lmL_163 wlX11_forward (tX11_forward e1) (by decide) (by decide) (by omega) (by omega) rfl rfl (by decide) rfl rfl (fun H1 locs1 hP1 hD1 hS1 => ?_)
  refine lv_aload_n C.1 C.2.1 dL_law_1551 rfl (lv_at hl 2 rfl) ?_
  refine l_arg (j := 1) X hS1 hi (by decide) (by decide) (lv_at hl 0 rfl) (lv_at hl 4 rfl) dL_law_1552 dL_law_1553 dL_law_1555 dL_law_1556 dL_law_1557 ?_
  refine l_arg (j := 2) X hS1 hi (by decide) (by decide) (lv_at hl 0 rfl) (lv_at hl 4 rfl) dL_law_1558 dL_law_1559 dL_law_1561 dL_law_1562 dL_law_1563 ?_
  refine l_arg (j := 3) X hS1 hi (by decide) (by decide) (lv_at hl 0 rfl) (lv_at hl 4 rfl) dL_law_1564 dL_law_1565 dL_law_1567 dL_law_1568 dL_law_1569 ?_
  refine l_arg (j := 4) X hS1 hi (by decide) (by decide) (lv_at hl 0 rfl) (lv_at hl 4 rfl) dL_law_1570 dL_law_1571 dL_law_1573 dL_law_1574 dL_law_1575 ?_
  refine l_arg (j := 5) X hS1 hi (by decide) (by decide) (lv_at hl 0 rfl) (lv_at hl 4 rfl) dL_law_1576 dL_law_1577 dL_law_1579 dL_law_1580 dL_law_1581 ?_
  refine l_callM (d1 := 5) X hP1 hD1 hS1 hl.1 dL_law_1582 lmL_166 wlX12_forward (tX12_forward e2) (by decide) (by decide) (by omega) (by omega) rfl rfl (by simp [Value.category]) rfl rfl (fun H2 locs2 hP2 hD2 hS2 => ?_)
  refine lv_icmp_eq (tgt := 2382) C.1 C.2.1 dL_law_1585 (by decide) (fun _ => ?_) (fun q => absurd rfl q)
  exact W.widen (k := cl + 1) (n := sl + 6) (by omega) (by omega) (next hc1 hm1 x hR1 H2 locs2 ls hP2 hD2 hS2 hl)
set_option maxRecDepth 20000 in
set_option maxHeartbeats 1000000 in
theorem lc_30 {p : Program} {l : Launch} {e : Env} {s : State} {m : MethodId} {b L : Nat} {xs : Nat → Int32} {below : List Frame} {meth : Method} {c : Code} {D : va_G} {ca adc adm : Nat → Nat} {ao : Nat} {Z : State → Prop} {cl sl i : Nat} {hc hm : HS} {x : Int64} (X : LX p l s m c b L xs D ca) (hi : i + 6 ≤ L) (hR : RR hc hm) (hop : ∀ {hc hm : HS}, RR hc hm → ∀ (p1 p2 p3 : Int32), OK2 (fX11_carry p1 p2 p3 hc) (fX12_carry p1 p2 p3 hm)) (hcl9 : cl + 1 ≤ 601024) (hsl9 : sl + 6 ≤ 7293034) (next : ∀ (hc1 hm1 : HS) (x1 : Int64), RR hc1 hm1 → LH p l e s m b below meth c D ca adc adm ao Z i 2382 hc1 hm1 x1 (cl + 1) (sl + 6)) : LH p l e s m b below meth c D ca adc adm ao Z i 1590 hc hm x cl sl := by
  intro H locs ls hP hD hS hl
  have C := X.1
  obtain ⟨r, hc1, hm1, e1, e2, hR1⟩ := hop hR (xs (i + 1)) (xs (i + 2)) (xs (i + 3))
  refine lv_aload_n C.1 C.2.1 dL_law_1590 rfl (lv_at hl 1 rfl) ?_
  refine l_arg (j := 1) X hS hi (by decide) (by decide) (lv_at hl 0 rfl) (lv_at hl 4 rfl) dL_law_1591 dL_law_1592 dL_law_1594 dL_law_1595 dL_law_1596 ?_
  refine l_arg (j := 2) X hS hi (by decide) (by decide) (lv_at hl 0 rfl) (lv_at hl 4 rfl) dL_law_1597 dL_law_1598 dL_law_1600 dL_law_1601 dL_law_1602 ?_
  refine l_arg (j := 3) X hS hi (by decide) (by decide) (lv_at hl 0 rfl) (lv_at hl 4 rfl) dL_law_1603 dL_law_1604 dL_law_1606 dL_law_1607 dL_law_1608 ?_
  refine l_callC (d1 := 2) X hP hD hS hl.1 dL_law_1609 lmL_167 wlX11_carry (tX11_carry e1) (by decide) (by decide) (by omega) (by omega) rfl rfl (by decide) rfl rfl (fun H1 locs1 hP1 hD1 hS1 => ?_)
  refine lv_aload_n C.1 C.2.1 dL_law_1612 rfl (lv_at hl 2 rfl) ?_
  refine l_arg (j := 1) X hS1 hi (by decide) (by decide) (lv_at hl 0 rfl) (lv_at hl 4 rfl) dL_law_1613 dL_law_1614 dL_law_1616 dL_law_1617 dL_law_1618 ?_
  refine l_arg (j := 2) X hS1 hi (by decide) (by decide) (lv_at hl 0 rfl) (lv_at hl 4 rfl) dL_law_1619 dL_law_1620 dL_law_1622 dL_law_1623 dL_law_1624 ?_
  refine l_arg (j := 3) X hS1 hi (by decide) (by decide) (lv_at hl 0 rfl) (lv_at hl 4 rfl) dL_law_1625 dL_law_1626 dL_law_1628 dL_law_1629 dL_law_1630 ?_
  refine l_callM (d1 := 2) X hP1 hD1 hS1 hl.1 dL_law_1631 lmL_170 wlX12_carry (tX12_carry e2) (by decide) (by decide) (by omega) (by omega) rfl rfl (by simp [Value.category]) rfl rfl (fun H2 locs2 hP2 hD2 hS2 => ?_)
  refine lv_icmp_eq (tgt := 2382) C.1 C.2.1 dL_law_1634 (by decide) (fun _ => ?_) (fun q => absurd rfl q)
  exact W.widen (k := cl + 1) (n := sl + 6) (by omega) (by omega) (next hc1 hm1 x hR1 H2 locs2 ls hP2 hD2 hS2 hl)
set_option maxRecDepth 20000 in
set_option maxHeartbeats 1000000 in
theorem lc_31 {p : Program} {l : Launch} {e : Env} {s : State} {m : MethodId} {b L : Nat} {xs : Nat → Int32} {below : List Frame} {meth : Method} {c : Code} {D : va_G} {ca adc adm : Nat → Nat} {ao : Nat} {Z : State → Prop} {cl sl i : Nat} {hc hm : HS} {x : Int64} (X : LX p l s m c b L xs D ca) (hi : i + 6 ≤ L) (hR : RR hc hm) (hop : ∀ {hc hm : HS}, RR hc hm → OK2 (fX11_telling  hc) (fX12_telling  hm)) (hcl9 : cl + 1 ≤ 601024) (hsl9 : sl + 6 ≤ 7293034) (next : ∀ (hc1 hm1 : HS) (x1 : Int64), RR hc1 hm1 → LH p l e s m b below meth c D ca adc adm ao Z i 2382 hc1 hm1 x1 (cl + 1) (sl + 6)) : LH p l e s m b below meth c D ca adc adm ao Z i 1639 hc hm x cl sl := by
  intro H locs ls hP hD hS hl
  have C := X.1
  obtain ⟨r, hc1, hm1, e1, e2, hR1⟩ := hop hR 
  refine lv_aload_n C.1 C.2.1 dL_law_1639 rfl (lv_at hl 1 rfl) ?_
  refine l_callC (d1 := 5) X hP hD hS hl.1 dL_law_1640 lmL_171 wlX11_telling (tX11_telling e1) (by decide) (by decide) (by omega) (by omega) rfl rfl (by decide) rfl rfl (fun H1 locs1 hP1 hD1 hS1 => ?_)
  refine lv_aload_n C.1 C.2.1 dL_law_1643 rfl (lv_at hl 2 rfl) ?_
  refine l_callM (d1 := 4) X hP1 hD1 hS1 hl.1 dL_law_1644 lmL_174 wlX12_telling (tX12_telling e2) (by decide) (by decide) (by omega) (by omega) rfl rfl (by simp [Value.category]) rfl rfl (fun H2 locs2 hP2 hD2 hS2 => ?_)
  refine lv_icmp_eq (tgt := 2382) C.1 C.2.1 dL_law_1647 (by decide) (fun _ => ?_) (fun q => absurd rfl q)
  exact W.widen (k := cl + 1) (n := sl + 6) (by omega) (by omega) (next hc1 hm1 x hR1 H2 locs2 ls hP2 hD2 hS2 hl)
set_option maxRecDepth 20000 in
set_option maxHeartbeats 1000000 in
theorem lc_32 {p : Program} {l : Launch} {e : Env} {s : State} {m : MethodId} {b L : Nat} {xs : Nat → Int32} {below : List Frame} {meth : Method} {c : Code} {D : va_G} {ca adc adm : Nat → Nat} {ao : Nat} {Z : State → Prop} {cl sl i : Nat} {hc hm : HS} {x : Int64} (X : LX p l s m c b L xs D ca) (hi : i + 6 ≤ L) (hR : RR hc hm) (hop : ∀ {hc hm : HS}, RR hc hm → ∀ (p1 p2 p3 p4 : Int32), OK2 (fX11_gauge p1 p2 p3 p4 hc) (fX12_gauge p1 p2 p3 p4 hm)) (hcl9 : cl + 1 ≤ 601024) (hsl9 : sl + 6 ≤ 7293034) (next : ∀ (hc1 hm1 : HS) (x1 : Int64), RR hc1 hm1 → LH p l e s m b below meth c D ca adc adm ao Z i 2382 hc1 hm1 x1 (cl + 1) (sl + 6)) : LH p l e s m b below meth c D ca adc adm ao Z i 1652 hc hm x cl sl := by
  intro H locs ls hP hD hS hl
  have C := X.1
  obtain ⟨r, hc1, hm1, e1, e2, hR1⟩ := hop hR (xs (i + 1)) (xs (i + 2)) (xs (i + 3)) (xs (i + 4))
  refine lv_aload_n C.1 C.2.1 dL_law_1652 rfl (lv_at hl 1 rfl) ?_
  refine l_arg (j := 1) X hS hi (by decide) (by decide) (lv_at hl 0 rfl) (lv_at hl 4 rfl) dL_law_1653 dL_law_1654 dL_law_1656 dL_law_1657 dL_law_1658 ?_
  refine l_arg (j := 2) X hS hi (by decide) (by decide) (lv_at hl 0 rfl) (lv_at hl 4 rfl) dL_law_1659 dL_law_1660 dL_law_1662 dL_law_1663 dL_law_1664 ?_
  refine l_arg (j := 3) X hS hi (by decide) (by decide) (lv_at hl 0 rfl) (lv_at hl 4 rfl) dL_law_1665 dL_law_1666 dL_law_1668 dL_law_1669 dL_law_1670 ?_
  refine l_arg (j := 4) X hS hi (by decide) (by decide) (lv_at hl 0 rfl) (lv_at hl 4 rfl) dL_law_1671 dL_law_1672 dL_law_1674 dL_law_1675 dL_law_1676 ?_
  refine l_callC (d1 := 2) X hP hD hS hl.1 dL_law_1677 lmL_175 wlX11_gauge (tX11_gauge e1) (by decide) (by decide) (by omega) (by omega) rfl rfl (by decide) rfl rfl (fun H1 locs1 hP1 hD1 hS1 => ?_)
  refine lv_aload_n C.1 C.2.1 dL_law_1680 rfl (lv_at hl 2 rfl) ?_
  refine l_arg (j := 1) X hS1 hi (by decide) (by decide) (lv_at hl 0 rfl) (lv_at hl 4 rfl) dL_law_1681 dL_law_1682 dL_law_1684 dL_law_1685 dL_law_1686 ?_
  refine l_arg (j := 2) X hS1 hi (by decide) (by decide) (lv_at hl 0 rfl) (lv_at hl 4 rfl) dL_law_1687 dL_law_1688 dL_law_1690 dL_law_1691 dL_law_1692 ?_
  refine l_arg (j := 3) X hS1 hi (by decide) (by decide) (lv_at hl 0 rfl) (lv_at hl 4 rfl) dL_law_1693 dL_law_1694 dL_law_1696 dL_law_1697 dL_law_1698 ?_
  refine l_arg (j := 4) X hS1 hi (by decide) (by decide) (lv_at hl 0 rfl) (lv_at hl 4 rfl) dL_law_1699 dL_law_1700 dL_law_1702 dL_law_1703 dL_law_1704 ?_
  refine l_callM (d1 := 2) X hP1 hD1 hS1 hl.1 dL_law_1705 lmL_178 wlX12_gauge (tX12_gauge e2) (by decide) (by decide) (by omega) (by omega) rfl rfl (by simp [Value.category]) rfl rfl (fun H2 locs2 hP2 hD2 hS2 => ?_)
  refine lv_icmp_eq (tgt := 2382) C.1 C.2.1 dL_law_1708 (by decide) (fun _ => ?_) (fun q => absurd rfl q)
  exact W.widen (k := cl + 1) (n := sl + 6) (by omega) (by omega) (next hc1 hm1 x hR1 H2 locs2 ls hP2 hD2 hS2 hl)
set_option maxRecDepth 20000 in
set_option maxHeartbeats 1000000 in
theorem lc_33 {p : Program} {l : Launch} {e : Env} {s : State} {m : MethodId} {b L : Nat} {xs : Nat → Int32} {below : List Frame} {meth : Method} {c : Code} {D : va_G} {ca adc adm : Nat → Nat} {ao : Nat} {Z : State → Prop} {cl sl i : Nat} {hc hm : HS} {x : Int64} (X : LX p l s m c b L xs D ca) (hi : i + 6 ≤ L) (hR : RR hc hm) (hop : ∀ {hc hm : HS}, RR hc hm → ∀ (p1 p2 p3 p4 : Int32), OKX (fX11_tells p1 p2 p3 p4 hc) (fX12_tells p1 p2 p3 p4 hm) (fX11_tells_x57 p1 p2 p3 p4 hc = some hc) hc) (hcl9 : cl + 1 ≤ 601024) (hsl9 : sl + 6 ≤ 7293034) (next : ∀ (hc1 hm1 : HS) (x1 : Int64), RR hc1 hm1 → LH p l e s m b below meth c D ca adc adm ao Z i 2382 hc1 hm1 x1 (cl + 1) (sl + 6)) : LH p l e s m b below meth c D ca adc adm ao Z i 1713 hc hm x cl sl := by
  intro H locs ls hP hD hS hl
  have C := X.1
  rcases hop hR (xs (i + 1)) (xs (i + 2)) (xs (i + 3)) (xs (i + 4)) with ⟨r, hc1, hm1, e1, e2, eT, hR1⟩ | ⟨r, hm1, eX, e2, eT, hR1⟩
  · refine lv_aload_n C.1 C.2.1 dL_law_1713 rfl (lv_at hl 1 rfl) ?_
    refine l_arg (j := 1) X hS hi (by decide) (by decide) (lv_at hl 0 rfl) (lv_at hl 4 rfl) dL_law_1714 dL_law_1715 dL_law_1717 dL_law_1718 dL_law_1719 ?_
    refine l_arg (j := 2) X hS hi (by decide) (by decide) (lv_at hl 0 rfl) (lv_at hl 4 rfl) dL_law_1720 dL_law_1721 dL_law_1723 dL_law_1724 dL_law_1725 ?_
    refine l_arg (j := 3) X hS hi (by decide) (by decide) (lv_at hl 0 rfl) (lv_at hl 4 rfl) dL_law_1726 dL_law_1727 dL_law_1729 dL_law_1730 dL_law_1731 ?_
    refine l_arg (j := 4) X hS hi (by decide) (by decide) (lv_at hl 0 rfl) (lv_at hl 4 rfl) dL_law_1732 dL_law_1733 dL_law_1735 dL_law_1736 dL_law_1737 ?_
    refine lv_aload_n C.1 C.2.1 dL_law_1738 rfl (lv_at hl 3 rfl) ?_
    refine l_help (n := 6) (d1 := 5) (h1 := hc1) (x1 := r.toInt64) (k := 0) (As := [.ref (adc 0), .int (xs (i + 1)), .int (xs (i + 2)), .int (xs (i + 3)), .int (xs (i + 4)), .ref ao]) X hP hD hS hl.1 dL_law_1739 lh_tells (by decide +kernel) (hp_tells l X.2.1 D ca adc ao hc hc1 (xs (i + 1)) (xs (i + 2)) (xs (i + 3)) (xs (i + 4)) 0 x r.toInt64 (Or.inl ⟨r, e1, rfl, rfl⟩)) (by decide) (by decide) hcl9 hsl9 rfl (by decide) rfl (fun H1 locs1 hP1 hD1 hS1 => ?_)
    refine lv_istore (lv' := (5, .int 0) :: lv5 b adc adm ao i) C.1 C.2.1 dL_law_1742 hl (by decide) rfl (fun ls hl => ?_)
    refine lv_aload_n C.1 C.2.1 dL_law_1744 rfl (lv_at hl 3 rfl) ?_
    refine l_arg (j := 1) X hS1 hi (by decide) (by decide) (lv_at hl 1 rfl) (lv_at hl 5 rfl) dL_law_1745 dL_law_1746 dL_law_1748 dL_law_1749 dL_law_1750 ?_
    refine l_arg (j := 2) X hS1 hi (by decide) (by decide) (lv_at hl 1 rfl) (lv_at hl 5 rfl) dL_law_1751 dL_law_1752 dL_law_1754 dL_law_1755 dL_law_1756 ?_
    refine l_arg (j := 3) X hS1 hi (by decide) (by decide) (lv_at hl 1 rfl) (lv_at hl 5 rfl) dL_law_1757 dL_law_1758 dL_law_1760 dL_law_1761 dL_law_1762 ?_
    refine l_arg (j := 4) X hS1 hi (by decide) (by decide) (lv_at hl 1 rfl) (lv_at hl 5 rfl) dL_law_1763 dL_law_1764 dL_law_1766 dL_law_1767 dL_law_1768 ?_
    refine l_callM (d1 := 4) X hP1 hD1 hS1 hl.1 dL_law_1769 lmL_182 wlX12_tells (tX12_tells e2) (by decide) (by decide) (by omega) (by omega) rfl rfl (by decide) rfl rfl (fun H2 locs2 hP2 hD2 hS2 => ?_)
    refine lv_istore (lv' := (6, .int r) :: (5, .int 0) :: lv5 b adc adm ao i) C.1 C.2.1 dL_law_1772 hl (by decide) rfl (fun ls hl => ?_)
    refine lv_aload_n C.1 C.2.1 dL_law_1774 rfl (lv_at hl 4 rfl) ?_
    refine l_callM (d1 := 0) (r := gI hm1 0 22) (h1 := hm1) X hP2 hD2 hS2 hl.1 dL_law_1775 lmL_78 wlX12_thrown (tX12_thrown rfl) (by decide) (by decide) (by omega) (by omega) rfl rfl (by decide) rfl rfl (fun H3 locs3 hP3 hD3 hS3 => ?_)
    refine lv_iload C.1 C.2.1 dL_law_1778 (lv_at hl 1 rfl) ?_
    refine lv_icmp_eq (tgt := 1785) C.1 C.2.1 dL_law_1780 (by decide) (fun _ => ?_) (fun q => absurd eT q)
    refine lv_iload C.1 C.2.1 dL_law_1785 (lv_at hl 1 rfl) ?_
    refine lv_if_ne (tgt := 1802) C.1 C.2.1 dL_law_1787 (by decide) (fun q => absurd rfl q) (fun _ => ?_)
    refine lv_aload_n C.1 C.2.1 dL_law_1790 rfl (lv_at hl 5 rfl) ?_
    refine lv_iconst (v := 0) C.1 C.2.1 dL_law_1791 (by decide) ?_
    refine va_lald C.1 C.2.1 X.2.2.1.1 hP3 (39 + 68) 3 wl_out rfl (inb_in (i := 0) (n := 1) (by decide)) dL_law_1792 ?_
    refine lv_iload C.1 C.2.1 dL_law_1793 (lv_at hl 0 rfl) ?_
    refine lv_i2l C.1 C.2.1 dL_law_1795 rfl ?_
    refine W.lcmp C.1 C.2.1 dL_law_1796 ?_
    refine lv_if_eq (tgt := 1802) C.1 C.2.1 dL_law_1797 (by decide) (fun _ => ?_) (fun q => absurd (lgc _) q)
    refine lv_goto (tgt := 2382) C.1 C.2.1 dL_law_1802 (by decide) ?_
    exact next hc1 hm1 r.toInt64 hR1 H3 locs3 ls hP3 hD3 hS3 (lv_sub hl [2, 3, 4, 5, 6] rfl)
  · refine lv_aload_n C.1 C.2.1 dL_law_1713 rfl (lv_at hl 1 rfl) ?_
    refine l_arg (j := 1) X hS hi (by decide) (by decide) (lv_at hl 0 rfl) (lv_at hl 4 rfl) dL_law_1714 dL_law_1715 dL_law_1717 dL_law_1718 dL_law_1719 ?_
    refine l_arg (j := 2) X hS hi (by decide) (by decide) (lv_at hl 0 rfl) (lv_at hl 4 rfl) dL_law_1720 dL_law_1721 dL_law_1723 dL_law_1724 dL_law_1725 ?_
    refine l_arg (j := 3) X hS hi (by decide) (by decide) (lv_at hl 0 rfl) (lv_at hl 4 rfl) dL_law_1726 dL_law_1727 dL_law_1729 dL_law_1730 dL_law_1731 ?_
    refine l_arg (j := 4) X hS hi (by decide) (by decide) (lv_at hl 0 rfl) (lv_at hl 4 rfl) dL_law_1732 dL_law_1733 dL_law_1735 dL_law_1736 dL_law_1737 ?_
    refine lv_aload_n C.1 C.2.1 dL_law_1738 rfl (lv_at hl 3 rfl) ?_
    refine l_help (n := 6) (d1 := 5) (h1 := hc) (x1 := x) (k := 1) (As := [.ref (adc 0), .int (xs (i + 1)), .int (xs (i + 2)), .int (xs (i + 3)), .int (xs (i + 4)), .ref ao]) X hP hD hS hl.1 dL_law_1739 lh_tells (by decide +kernel) (hp_tells l X.2.1 D ca adc ao hc hc (xs (i + 1)) (xs (i + 2)) (xs (i + 3)) (xs (i + 4)) 1 x x (Or.inr ⟨eX, rfl, rfl⟩)) (by decide) (by decide) hcl9 hsl9 rfl (by decide) rfl (fun H1 locs1 hP1 hD1 hS1 => ?_)
    refine lv_istore (lv' := (5, .int 1) :: lv5 b adc adm ao i) C.1 C.2.1 dL_law_1742 hl (by decide) rfl (fun ls hl => ?_)
    refine lv_aload_n C.1 C.2.1 dL_law_1744 rfl (lv_at hl 3 rfl) ?_
    refine l_arg (j := 1) X hS1 hi (by decide) (by decide) (lv_at hl 1 rfl) (lv_at hl 5 rfl) dL_law_1745 dL_law_1746 dL_law_1748 dL_law_1749 dL_law_1750 ?_
    refine l_arg (j := 2) X hS1 hi (by decide) (by decide) (lv_at hl 1 rfl) (lv_at hl 5 rfl) dL_law_1751 dL_law_1752 dL_law_1754 dL_law_1755 dL_law_1756 ?_
    refine l_arg (j := 3) X hS1 hi (by decide) (by decide) (lv_at hl 1 rfl) (lv_at hl 5 rfl) dL_law_1757 dL_law_1758 dL_law_1760 dL_law_1761 dL_law_1762 ?_
    refine l_arg (j := 4) X hS1 hi (by decide) (by decide) (lv_at hl 1 rfl) (lv_at hl 5 rfl) dL_law_1763 dL_law_1764 dL_law_1766 dL_law_1767 dL_law_1768 ?_
    refine l_callM (d1 := 4) X hP1 hD1 hS1 hl.1 dL_law_1769 lmL_182 wlX12_tells (tX12_tells e2) (by decide) (by decide) (by omega) (by omega) rfl rfl (by decide) rfl rfl (fun H2 locs2 hP2 hD2 hS2 => ?_)
    refine lv_istore (lv' := (6, .int r) :: (5, .int 1) :: lv5 b adc adm ao i) C.1 C.2.1 dL_law_1772 hl (by decide) rfl (fun ls hl => ?_)
    refine lv_aload_n C.1 C.2.1 dL_law_1774 rfl (lv_at hl 4 rfl) ?_
    refine l_callM (d1 := 0) (r := gI hm1 0 22) (h1 := hm1) X hP2 hD2 hS2 hl.1 dL_law_1775 lmL_78 wlX12_thrown (tX12_thrown rfl) (by decide) (by decide) (by omega) (by omega) rfl rfl (by decide) rfl rfl (fun H3 locs3 hP3 hD3 hS3 => ?_)
    refine lv_iload C.1 C.2.1 dL_law_1778 (lv_at hl 1 rfl) ?_
    refine lv_icmp_eq (tgt := 1785) C.1 C.2.1 dL_law_1780 (by decide) (fun _ => ?_) (fun q => absurd eT q)
    refine lv_iload C.1 C.2.1 dL_law_1785 (lv_at hl 1 rfl) ?_
    refine lv_if_ne (tgt := 1802) C.1 C.2.1 dL_law_1787 (by decide) (fun _ => ?_) (fun q => absurd q (by decide))
    refine lv_goto (tgt := 2382) C.1 C.2.1 dL_law_1802 (by decide) ?_
    exact next hc hm1 x hR1 H3 locs3 ls hP3 hD3 hS3 (lv_sub hl [2, 3, 4, 5, 6] rfl)
set_option maxRecDepth 20000 in
set_option maxHeartbeats 1000000 in
theorem lc_34 {p : Program} {l : Launch} {e : Env} {s : State} {m : MethodId} {b L : Nat} {xs : Nat → Int32} {below : List Frame} {meth : Method} {c : Code} {D : va_G} {ca adc adm : Nat → Nat} {ao : Nat} {Z : State → Prop} {cl sl i : Nat} {hc hm : HS} {x : Int64} (X : LX p l s m c b L xs D ca) (hi : i + 6 ≤ L) (hR : RR hc hm) (hop : ∀ {hc hm : HS}, RR hc hm → ∀ (p1 : Int32), OK2 (fX11_fits p1 hc) (fX12_fits p1 hm)) (hcl9 : cl + 1 ≤ 601024) (hsl9 : sl + 6 ≤ 7293034) (next : ∀ (hc1 hm1 : HS) (x1 : Int64), RR hc1 hm1 → LH p l e s m b below meth c D ca adc adm ao Z i 2382 hc1 hm1 x1 (cl + 1) (sl + 6)) : LH p l e s m b below meth c D ca adc adm ao Z i 1805 hc hm x cl sl := by
  intro H locs ls hP hD hS hl
  have C := X.1
  obtain ⟨r, hc1, hm1, e1, e2, hR1⟩ := hop hR (xs (i + 1))
  refine lv_aload_n C.1 C.2.1 dL_law_1805 rfl (lv_at hl 1 rfl) ?_
  refine l_arg (j := 1) X hS hi (by decide) (by decide) (lv_at hl 0 rfl) (lv_at hl 4 rfl) dL_law_1806 dL_law_1807 dL_law_1809 dL_law_1810 dL_law_1811 ?_
  refine l_callC (d1 := 7) X hP hD hS hl.1 dL_law_1812 lmL_183 wlX11_fits (tX11_fits e1) (by decide) (by decide) (by omega) (by omega) rfl rfl (by decide) rfl rfl (fun H1 locs1 hP1 hD1 hS1 => ?_)
  refine lv_aload_n C.1 C.2.1 dL_law_1815 rfl (lv_at hl 2 rfl) ?_
  refine l_arg (j := 1) X hS1 hi (by decide) (by decide) (lv_at hl 0 rfl) (lv_at hl 4 rfl) dL_law_1816 dL_law_1817 dL_law_1819 dL_law_1820 dL_law_1821 ?_
  refine l_callM (d1 := 5) X hP1 hD1 hS1 hl.1 dL_law_1822 lmL_186 wlX12_fits (tX12_fits e2) (by decide) (by decide) (by omega) (by omega) rfl rfl (by simp [Value.category]) rfl rfl (fun H2 locs2 hP2 hD2 hS2 => ?_)
  refine lv_icmp_eq (tgt := 2382) C.1 C.2.1 dL_law_1825 (by decide) (fun _ => ?_) (fun q => absurd rfl q)
  exact W.widen (k := cl + 1) (n := sl + 6) (by omega) (by omega) (next hc1 hm1 x hR1 H2 locs2 ls hP2 hD2 hS2 hl)
set_option maxRecDepth 20000 in
set_option maxHeartbeats 1000000 in
theorem lc_35 {p : Program} {l : Launch} {e : Env} {s : State} {m : MethodId} {b L : Nat} {xs : Nat → Int32} {below : List Frame} {meth : Method} {c : Code} {D : va_G} {ca adc adm : Nat → Nat} {ao : Nat} {Z : State → Prop} {cl sl i : Nat} {hc hm : HS} {x : Int64} (X : LX p l s m c b L xs D ca) (hi : i + 6 ≤ L) (hR : RR hc hm) (hop : ∀ {hc hm : HS}, RR hc hm → ∀ (p1 p2 : Int32), OK2 (fX11_look p1 p2 hc) (fX12_look p1 p2 hm)) (hcl9 : cl + 1 ≤ 601024) (hsl9 : sl + 6 ≤ 7293034) (next : ∀ (hc1 hm1 : HS) (x1 : Int64), RR hc1 hm1 → LH p l e s m b below meth c D ca adc adm ao Z i 2382 hc1 hm1 x1 (cl + 1) (sl + 6)) : LH p l e s m b below meth c D ca adc adm ao Z i 1830 hc hm x cl sl := by
  intro H locs ls hP hD hS hl
  have C := X.1
  obtain ⟨r, hc1, hm1, e1, e2, hR1⟩ := hop hR (xs (i + 1)) (xs (i + 2))
  refine lv_aload_n C.1 C.2.1 dL_law_1830 rfl (lv_at hl 1 rfl) ?_
  refine l_arg (j := 1) X hS hi (by decide) (by decide) (lv_at hl 0 rfl) (lv_at hl 4 rfl) dL_law_1831 dL_law_1832 dL_law_1834 dL_law_1835 dL_law_1836 ?_
  refine l_arg (j := 2) X hS hi (by decide) (by decide) (lv_at hl 0 rfl) (lv_at hl 4 rfl) dL_law_1837 dL_law_1838 dL_law_1840 dL_law_1841 dL_law_1842 ?_
  refine l_callC (d1 := 7) X hP hD hS hl.1 dL_law_1843 lmL_187 wlX11_look (tX11_look e1) (by decide) (by decide) (by omega) (by omega) rfl rfl (by decide) rfl rfl (fun H1 locs1 hP1 hD1 hS1 => ?_)
  refine lv_aload_n C.1 C.2.1 dL_law_1846 rfl (lv_at hl 2 rfl) ?_
  refine l_arg (j := 1) X hS1 hi (by decide) (by decide) (lv_at hl 0 rfl) (lv_at hl 4 rfl) dL_law_1847 dL_law_1848 dL_law_1850 dL_law_1851 dL_law_1852 ?_
  refine l_arg (j := 2) X hS1 hi (by decide) (by decide) (lv_at hl 0 rfl) (lv_at hl 4 rfl) dL_law_1853 dL_law_1854 dL_law_1856 dL_law_1857 dL_law_1858 ?_
  refine l_callM (d1 := 5) X hP1 hD1 hS1 hl.1 dL_law_1859 lmL_190 wlX12_look (tX12_look e2) (by decide) (by decide) (by omega) (by omega) rfl rfl (by simp [Value.category]) rfl rfl (fun H2 locs2 hP2 hD2 hS2 => ?_)
  refine lv_icmp_eq (tgt := 2382) C.1 C.2.1 dL_law_1862 (by decide) (fun _ => ?_) (fun q => absurd rfl q)
  exact W.widen (k := cl + 1) (n := sl + 6) (by omega) (by omega) (next hc1 hm1 x hR1 H2 locs2 ls hP2 hD2 hS2 hl)
set_option maxRecDepth 20000 in
set_option maxHeartbeats 1000000 in
theorem lc_36 {p : Program} {l : Launch} {e : Env} {s : State} {m : MethodId} {b L : Nat} {xs : Nat → Int32} {below : List Frame} {meth : Method} {c : Code} {D : va_G} {ca adc adm : Nat → Nat} {ao : Nat} {Z : State → Prop} {cl sl i : Nat} {hc hm : HS} {x : Int64} (X : LX p l s m c b L xs D ca) (hi : i + 6 ≤ L) (hR : RR hc hm) (hop : ∀ {hc hm : HS}, RR hc hm → ∀ (p1 : Int32), OK2 (fX11_air p1 hc) (fX12_air p1 hm)) (hcl9 : cl + 1 ≤ 601024) (hsl9 : sl + 6 ≤ 7293034) (next : ∀ (hc1 hm1 : HS) (x1 : Int64), RR hc1 hm1 → LH p l e s m b below meth c D ca adc adm ao Z i 2382 hc1 hm1 x1 (cl + 1) (sl + 6)) : LH p l e s m b below meth c D ca adc adm ao Z i 1867 hc hm x cl sl := by
  intro H locs ls hP hD hS hl
  have C := X.1
  obtain ⟨r, hc1, hm1, e1, e2, hR1⟩ := hop hR (xs (i + 1))
  refine lv_aload_n C.1 C.2.1 dL_law_1867 rfl (lv_at hl 1 rfl) ?_
  refine l_arg (j := 1) X hS hi (by decide) (by decide) (lv_at hl 0 rfl) (lv_at hl 4 rfl) dL_law_1868 dL_law_1869 dL_law_1871 dL_law_1872 dL_law_1873 ?_
  refine l_callC (d1 := 1) X hP hD hS hl.1 dL_law_1874 lmL_191 wlX11_air (tX11_air e1) (by decide) (by decide) (by omega) (by omega) rfl rfl (by decide) rfl rfl (fun H1 locs1 hP1 hD1 hS1 => ?_)
  refine lv_aload_n C.1 C.2.1 dL_law_1877 rfl (lv_at hl 2 rfl) ?_
  refine l_arg (j := 1) X hS1 hi (by decide) (by decide) (lv_at hl 0 rfl) (lv_at hl 4 rfl) dL_law_1878 dL_law_1879 dL_law_1881 dL_law_1882 dL_law_1883 ?_
  refine l_callM (d1 := 1) X hP1 hD1 hS1 hl.1 dL_law_1884 lmL_194 wlX12_air (tX12_air e2) (by decide) (by decide) (by omega) (by omega) rfl rfl (by simp [Value.category]) rfl rfl (fun H2 locs2 hP2 hD2 hS2 => ?_)
  refine lv_icmp_eq (tgt := 2382) C.1 C.2.1 dL_law_1887 (by decide) (fun _ => ?_) (fun q => absurd rfl q)
  exact W.widen (k := cl + 1) (n := sl + 6) (by omega) (by omega) (next hc1 hm1 x hR1 H2 locs2 ls hP2 hD2 hS2 hl)
set_option maxRecDepth 20000 in
set_option maxHeartbeats 1000000 in
theorem lc_37 {p : Program} {l : Launch} {e : Env} {s : State} {m : MethodId} {b L : Nat} {xs : Nat → Int32} {below : List Frame} {meth : Method} {c : Code} {D : va_G} {ca adc adm : Nat → Nat} {ao : Nat} {Z : State → Prop} {cl sl i : Nat} {hc hm : HS} {x : Int64} (X : LX p l s m c b L xs D ca) (hi : i + 6 ≤ L) (hR : RR hc hm) (hop : ∀ {hc hm : HS}, RR hc hm → ∀ (p1 p2 : Int32), OK2 (fX11_blow p1 p2 hc) (fX12_blow p1 p2 hm)) (hcl9 : cl + 1 ≤ 601024) (hsl9 : sl + 6 ≤ 7293034) (next : ∀ (hc1 hm1 : HS) (x1 : Int64), RR hc1 hm1 → LH p l e s m b below meth c D ca adc adm ao Z i 2382 hc1 hm1 x1 (cl + 1) (sl + 6)) : LH p l e s m b below meth c D ca adc adm ao Z i 1892 hc hm x cl sl := by
  intro H locs ls hP hD hS hl
  have C := X.1
  obtain ⟨r, hc1, hm1, e1, e2, hR1⟩ := hop hR (xs (i + 1)) (xs (i + 2))
  refine lv_aload_n C.1 C.2.1 dL_law_1892 rfl (lv_at hl 1 rfl) ?_
  refine l_arg (j := 1) X hS hi (by decide) (by decide) (lv_at hl 0 rfl) (lv_at hl 4 rfl) dL_law_1893 dL_law_1894 dL_law_1896 dL_law_1897 dL_law_1898 ?_
  refine l_arg (j := 2) X hS hi (by decide) (by decide) (lv_at hl 0 rfl) (lv_at hl 4 rfl) dL_law_1899 dL_law_1900 dL_law_1902 dL_law_1903 dL_law_1904 ?_
  refine l_callC (d1 := 2) X hP hD hS hl.1 dL_law_1905 lmL_195 wlX11_blow (tX11_blow e1) (by decide) (by decide) (by omega) (by omega) rfl rfl (by decide) rfl rfl (fun H1 locs1 hP1 hD1 hS1 => ?_)
  refine lv_aload_n C.1 C.2.1 dL_law_1908 rfl (lv_at hl 2 rfl) ?_
  refine l_arg (j := 1) X hS1 hi (by decide) (by decide) (lv_at hl 0 rfl) (lv_at hl 4 rfl) dL_law_1909 dL_law_1910 dL_law_1912 dL_law_1913 dL_law_1914 ?_
  refine l_arg (j := 2) X hS1 hi (by decide) (by decide) (lv_at hl 0 rfl) (lv_at hl 4 rfl) dL_law_1915 dL_law_1916 dL_law_1918 dL_law_1919 dL_law_1920 ?_
  refine l_callM (d1 := 3) X hP1 hD1 hS1 hl.1 dL_law_1921 lmL_198 wlX12_blow (tX12_blow e2) (by decide) (by decide) (by omega) (by omega) rfl rfl (by simp [Value.category]) rfl rfl (fun H2 locs2 hP2 hD2 hS2 => ?_)
  refine lv_icmp_eq (tgt := 2382) C.1 C.2.1 dL_law_1924 (by decide) (fun _ => ?_) (fun q => absurd rfl q)
  exact W.widen (k := cl + 1) (n := sl + 6) (by omega) (by omega) (next hc1 hm1 x hR1 H2 locs2 ls hP2 hD2 hS2 hl)
set_option maxRecDepth 20000 in
set_option maxHeartbeats 1000000 in
theorem lc_38 {p : Program} {l : Launch} {e : Env} {s : State} {m : MethodId} {b L : Nat} {xs : Nat → Int32} {below : List Frame} {meth : Method} {c : Code} {D : va_G} {ca adc adm : Nat → Nat} {ao : Nat} {Z : State → Prop} {cl sl i : Nat} {hc hm : HS} {x : Int64} (X : LX p l s m c b L xs D ca) (hi : i + 6 ≤ L) (hR : RR hc hm) (hop : ∀ {hc hm : HS}, RR hc hm → ∀ (p1 p2 : Int32), OK2 (fX11_rise p1 p2 hc) (fX12_rise p1 p2 hm)) (hcl9 : cl + 1 ≤ 601024) (hsl9 : sl + 6 ≤ 7293034) (next : ∀ (hc1 hm1 : HS) (x1 : Int64), RR hc1 hm1 → LH p l e s m b below meth c D ca adc adm ao Z i 2382 hc1 hm1 x1 (cl + 1) (sl + 6)) : LH p l e s m b below meth c D ca adc adm ao Z i 1929 hc hm x cl sl := by
  intro H locs ls hP hD hS hl
  have C := X.1
  obtain ⟨r, hc1, hm1, e1, e2, hR1⟩ := hop hR (xs (i + 1)) (xs (i + 2))
  refine lv_aload_n C.1 C.2.1 dL_law_1929 rfl (lv_at hl 1 rfl) ?_
  refine l_arg (j := 1) X hS hi (by decide) (by decide) (lv_at hl 0 rfl) (lv_at hl 4 rfl) dL_law_1930 dL_law_1931 dL_law_1933 dL_law_1934 dL_law_1935 ?_
  refine l_arg (j := 2) X hS hi (by decide) (by decide) (lv_at hl 0 rfl) (lv_at hl 4 rfl) dL_law_1936 dL_law_1937 dL_law_1939 dL_law_1940 dL_law_1941 ?_
  refine l_callC (d1 := 3) X hP hD hS hl.1 dL_law_1942 lmL_199 wlX11_rise (tX11_rise e1) (by decide) (by decide) (by omega) (by omega) rfl rfl (by decide) rfl rfl (fun H1 locs1 hP1 hD1 hS1 => ?_)
  refine lv_aload_n C.1 C.2.1 dL_law_1945 rfl (lv_at hl 2 rfl) ?_
  refine l_arg (j := 1) X hS1 hi (by decide) (by decide) (lv_at hl 0 rfl) (lv_at hl 4 rfl) dL_law_1946 dL_law_1947 dL_law_1949 dL_law_1950 dL_law_1951 ?_
  refine l_arg (j := 2) X hS1 hi (by decide) (by decide) (lv_at hl 0 rfl) (lv_at hl 4 rfl) dL_law_1952 dL_law_1953 dL_law_1955 dL_law_1956 dL_law_1957 ?_
  refine l_callM (d1 := 3) X hP1 hD1 hS1 hl.1 dL_law_1958 lmL_202 wlX12_rise (tX12_rise e2) (by decide) (by decide) (by omega) (by omega) rfl rfl (by simp [Value.category]) rfl rfl (fun H2 locs2 hP2 hD2 hS2 => ?_)
  refine lv_icmp_eq (tgt := 2382) C.1 C.2.1 dL_law_1961 (by decide) (fun _ => ?_) (fun q => absurd rfl q)
  exact W.widen (k := cl + 1) (n := sl + 6) (by omega) (by omega) (next hc1 hm1 x hR1 H2 locs2 ls hP2 hD2 hS2 hl)
set_option maxRecDepth 20000 in
set_option maxHeartbeats 1000000 in
theorem lc_39 {p : Program} {l : Launch} {e : Env} {s : State} {m : MethodId} {b L : Nat} {xs : Nat → Int32} {below : List Frame} {meth : Method} {c : Code} {D : va_G} {ca adc adm : Nat → Nat} {ao : Nat} {Z : State → Prop} {cl sl i : Nat} {hc hm : HS} {x : Int64} (X : LX p l s m c b L xs D ca) (hi : i + 6 ≤ L) (hR : RR hc hm) (hop : ∀ {hc hm : HS}, RR hc hm → ∀ (p1 p2 : Int32), OK2 (fX11_times p1 p2 hc) (fX12_times p1 p2 hm)) (hcl9 : cl + 1 ≤ 601024) (hsl9 : sl + 6 ≤ 7293034) (next : ∀ (hc1 hm1 : HS) (x1 : Int64), RR hc1 hm1 → LH p l e s m b below meth c D ca adc adm ao Z i 2382 hc1 hm1 x1 (cl + 1) (sl + 6)) : LH p l e s m b below meth c D ca adc adm ao Z i 1966 hc hm x cl sl := by
  intro H locs ls hP hD hS hl
  have C := X.1
  obtain ⟨r, hc1, hm1, e1, e2, hR1⟩ := hop hR (xs (i + 1)) (xs (i + 2))
  refine lv_aload_n C.1 C.2.1 dL_law_1966 rfl (lv_at hl 1 rfl) ?_
  refine l_arg (j := 1) X hS hi (by decide) (by decide) (lv_at hl 0 rfl) (lv_at hl 4 rfl) dL_law_1967 dL_law_1968 dL_law_1970 dL_law_1971 dL_law_1972 ?_
  refine l_arg (j := 2) X hS hi (by decide) (by decide) (lv_at hl 0 rfl) (lv_at hl 4 rfl) dL_law_1973 dL_law_1974 dL_law_1976 dL_law_1977 dL_law_1978 ?_
  refine l_callC (d1 := 2) X hP hD hS hl.1 dL_law_1979 lmL_203 wlX11_times (tX11_times e1) (by decide) (by decide) (by omega) (by omega) rfl rfl (by decide) rfl rfl (fun H1 locs1 hP1 hD1 hS1 => ?_)
  refine lv_aload_n C.1 C.2.1 dL_law_1982 rfl (lv_at hl 2 rfl) ?_
  refine l_arg (j := 1) X hS1 hi (by decide) (by decide) (lv_at hl 0 rfl) (lv_at hl 4 rfl) dL_law_1983 dL_law_1984 dL_law_1986 dL_law_1987 dL_law_1988 ?_
  refine l_arg (j := 2) X hS1 hi (by decide) (by decide) (lv_at hl 0 rfl) (lv_at hl 4 rfl) dL_law_1989 dL_law_1990 dL_law_1992 dL_law_1993 dL_law_1994 ?_
  refine l_callM (d1 := 2) X hP1 hD1 hS1 hl.1 dL_law_1995 lmL_206 wlX12_times (tX12_times e2) (by decide) (by decide) (by omega) (by omega) rfl rfl (by simp [Value.category]) rfl rfl (fun H2 locs2 hP2 hD2 hS2 => ?_)
  refine lv_icmp_eq (tgt := 2382) C.1 C.2.1 dL_law_1998 (by decide) (fun _ => ?_) (fun q => absurd rfl q)
  exact W.widen (k := cl + 1) (n := sl + 6) (by omega) (by omega) (next hc1 hm1 x hR1 H2 locs2 ls hP2 hD2 hS2 hl)
set_option maxRecDepth 20000 in
set_option maxHeartbeats 1000000 in
theorem lc_40 {p : Program} {l : Launch} {e : Env} {s : State} {m : MethodId} {b L : Nat} {xs : Nat → Int32} {below : List Frame} {meth : Method} {c : Code} {D : va_G} {ca adc adm : Nat → Nat} {ao : Nat} {Z : State → Prop} {cl sl i : Nat} {hc hm : HS} {x : Int64} (X : LX p l s m c b L xs D ca) (hi : i + 6 ≤ L) (hR : RR hc hm) (hop : ∀ {hc hm : HS}, RR hc hm → ∀ (p1 p2 p3 p4 : Int32), OK2 (fX11_eats p1 p2 p3 p4 hc) (fX12_eats p1 p2 p3 p4 hm)) (hcl9 : cl + 1 ≤ 601024) (hsl9 : sl + 6 ≤ 7293034) (next : ∀ (hc1 hm1 : HS) (x1 : Int64), RR hc1 hm1 → LH p l e s m b below meth c D ca adc adm ao Z i 2382 hc1 hm1 x1 (cl + 1) (sl + 6)) : LH p l e s m b below meth c D ca adc adm ao Z i 2003 hc hm x cl sl := by
  intro H locs ls hP hD hS hl
  have C := X.1
  obtain ⟨r, hc1, hm1, e1, e2, hR1⟩ := hop hR (xs (i + 1)) (xs (i + 2)) (xs (i + 3)) (xs (i + 4))
  refine lv_aload_n C.1 C.2.1 dL_law_2003 rfl (lv_at hl 1 rfl) ?_
  refine l_arg (j := 1) X hS hi (by decide) (by decide) (lv_at hl 0 rfl) (lv_at hl 4 rfl) dL_law_2004 dL_law_2005 dL_law_2007 dL_law_2008 dL_law_2009 ?_
  refine l_arg (j := 2) X hS hi (by decide) (by decide) (lv_at hl 0 rfl) (lv_at hl 4 rfl) dL_law_2010 dL_law_2011 dL_law_2013 dL_law_2014 dL_law_2015 ?_
  refine l_arg (j := 3) X hS hi (by decide) (by decide) (lv_at hl 0 rfl) (lv_at hl 4 rfl) dL_law_2016 dL_law_2017 dL_law_2019 dL_law_2020 dL_law_2021 ?_
  refine l_arg (j := 4) X hS hi (by decide) (by decide) (lv_at hl 0 rfl) (lv_at hl 4 rfl) dL_law_2022 dL_law_2023 dL_law_2025 dL_law_2026 dL_law_2027 ?_
  refine l_callC (d1 := 2) X hP hD hS hl.1 dL_law_2028 lmL_207 wlX11_eats (tX11_eats e1) (by decide) (by decide) (by omega) (by omega) rfl rfl (by decide) rfl rfl (fun H1 locs1 hP1 hD1 hS1 => ?_)
  refine lv_aload_n C.1 C.2.1 dL_law_2031 rfl (lv_at hl 2 rfl) ?_
  refine l_arg (j := 1) X hS1 hi (by decide) (by decide) (lv_at hl 0 rfl) (lv_at hl 4 rfl) dL_law_2032 dL_law_2033 dL_law_2035 dL_law_2036 dL_law_2037 ?_
  refine l_arg (j := 2) X hS1 hi (by decide) (by decide) (lv_at hl 0 rfl) (lv_at hl 4 rfl) dL_law_2038 dL_law_2039 dL_law_2041 dL_law_2042 dL_law_2043 ?_
  refine l_arg (j := 3) X hS1 hi (by decide) (by decide) (lv_at hl 0 rfl) (lv_at hl 4 rfl) dL_law_2044 dL_law_2045 dL_law_2047 dL_law_2048 dL_law_2049 ?_
  refine l_arg (j := 4) X hS1 hi (by decide) (by decide) (lv_at hl 0 rfl) (lv_at hl 4 rfl) dL_law_2050 dL_law_2051 dL_law_2053 dL_law_2054 dL_law_2055 ?_
  refine l_callM (d1 := 3) X hP1 hD1 hS1 hl.1 dL_law_2056 lmL_211 wlX12_eats (tX12_eats e2) (by decide) (by decide) (by omega) (by omega) rfl rfl (by simp [Value.category]) rfl rfl (fun H2 locs2 hP2 hD2 hS2 => ?_)
  refine lv_icmp_eq (tgt := 2382) C.1 C.2.1 dL_law_2059 (by decide) (fun _ => ?_) (fun q => absurd rfl q)
  exact W.widen (k := cl + 1) (n := sl + 6) (by omega) (by omega) (next hc1 hm1 x hR1 H2 locs2 ls hP2 hD2 hS2 hl)
set_option maxRecDepth 20000 in
set_option maxHeartbeats 1000000 in
theorem lc_41 {p : Program} {l : Launch} {e : Env} {s : State} {m : MethodId} {b L : Nat} {xs : Nat → Int32} {below : List Frame} {meth : Method} {c : Code} {D : va_G} {ca adc adm : Nat → Nat} {ao : Nat} {Z : State → Prop} {cl sl i : Nat} {hc hm : HS} {x : Int64} (X : LX p l s m c b L xs D ca) (hi : i + 6 ≤ L) (hR : RR hc hm) (hop : ∀ {hc hm : HS}, RR hc hm → ∀ (p1 : Int32), OK2 (fX11_days p1 hc) (fX12_days p1 hm)) (hcl9 : cl + 1 ≤ 601024) (hsl9 : sl + 6 ≤ 7293034) (next : ∀ (hc1 hm1 : HS) (x1 : Int64), RR hc1 hm1 → LH p l e s m b below meth c D ca adc adm ao Z i 2382 hc1 hm1 x1 (cl + 1) (sl + 6)) : LH p l e s m b below meth c D ca adc adm ao Z i 2064 hc hm x cl sl := by
  intro H locs ls hP hD hS hl
  have C := X.1
  obtain ⟨r, hc1, hm1, e1, e2, hR1⟩ := hop hR (xs (i + 1))
  refine lv_aload_n C.1 C.2.1 dL_law_2064 rfl (lv_at hl 1 rfl) ?_
  refine l_arg (j := 1) X hS hi (by decide) (by decide) (lv_at hl 0 rfl) (lv_at hl 4 rfl) dL_law_2065 dL_law_2066 dL_law_2068 dL_law_2069 dL_law_2070 ?_
  refine l_callC (d1 := 3) X hP hD hS hl.1 dL_law_2071 lmL_212 wlX11_days (tX11_days e1) (by decide) (by decide) (by omega) (by omega) rfl rfl (by decide) rfl rfl (fun H1 locs1 hP1 hD1 hS1 => ?_)
  refine lv_aload_n C.1 C.2.1 dL_law_2074 rfl (lv_at hl 2 rfl) ?_
  refine l_arg (j := 1) X hS1 hi (by decide) (by decide) (lv_at hl 0 rfl) (lv_at hl 4 rfl) dL_law_2075 dL_law_2076 dL_law_2078 dL_law_2079 dL_law_2080 ?_
  refine l_callM (d1 := 2) X hP1 hD1 hS1 hl.1 dL_law_2081 lmL_215 wlX12_days (tX12_days e2) (by decide) (by decide) (by omega) (by omega) rfl rfl (by simp [Value.category]) rfl rfl (fun H2 locs2 hP2 hD2 hS2 => ?_)
  refine lv_icmp_eq (tgt := 2382) C.1 C.2.1 dL_law_2084 (by decide) (fun _ => ?_) (fun q => absurd rfl q)
  exact W.widen (k := cl + 1) (n := sl + 6) (by omega) (by omega) (next hc1 hm1 x hR1 H2 locs2 ls hP2 hD2 hS2 hl)
set_option maxRecDepth 20000 in
set_option maxHeartbeats 1000000 in
theorem lc_42 {p : Program} {l : Launch} {e : Env} {s : State} {m : MethodId} {b L : Nat} {xs : Nat → Int32} {below : List Frame} {meth : Method} {c : Code} {D : va_G} {ca adc adm : Nat → Nat} {ao : Nat} {Z : State → Prop} {cl sl i : Nat} {hc hm : HS} {x : Int64} (X : LX p l s m c b L xs D ca) (hi : i + 6 ≤ L) (hR : RR hc hm) (hop : ∀ {hc hm : HS}, RR hc hm → ∀ (p1 : Int32), OK2 (fX11_lasts p1 hc) (fX12_lasts p1 hm)) (hcl9 : cl + 1 ≤ 601024) (hsl9 : sl + 6 ≤ 7293034) (next : ∀ (hc1 hm1 : HS) (x1 : Int64), RR hc1 hm1 → LH p l e s m b below meth c D ca adc adm ao Z i 2382 hc1 hm1 x1 (cl + 1) (sl + 6)) : LH p l e s m b below meth c D ca adc adm ao Z i 2089 hc hm x cl sl := by
  intro H locs ls hP hD hS hl
  have C := X.1
  obtain ⟨r, hc1, hm1, e1, e2, hR1⟩ := hop hR (xs (i + 1))
  refine lv_aload_n C.1 C.2.1 dL_law_2089 rfl (lv_at hl 1 rfl) ?_
  refine l_arg (j := 1) X hS hi (by decide) (by decide) (lv_at hl 0 rfl) (lv_at hl 4 rfl) dL_law_2090 dL_law_2091 dL_law_2093 dL_law_2094 dL_law_2095 ?_
  refine l_callC (d1 := 5) X hP hD hS hl.1 dL_law_2096 lmL_216 wlX11_lasts (tX11_lasts e1) (by decide) (by decide) (by omega) (by omega) rfl rfl (by decide) rfl rfl (fun H1 locs1 hP1 hD1 hS1 => ?_)
  refine lv_aload_n C.1 C.2.1 dL_law_2099 rfl (lv_at hl 2 rfl) ?_
  refine l_arg (j := 1) X hS1 hi (by decide) (by decide) (lv_at hl 0 rfl) (lv_at hl 4 rfl) dL_law_2100 dL_law_2101 dL_law_2103 dL_law_2104 dL_law_2105 ?_
  refine l_callM (d1 := 5) X hP1 hD1 hS1 hl.1 dL_law_2106 lmL_219 wlX12_lasts (tX12_lasts e2) (by decide) (by decide) (by omega) (by omega) rfl rfl (by simp [Value.category]) rfl rfl (fun H2 locs2 hP2 hD2 hS2 => ?_)
  refine lv_icmp_eq (tgt := 2382) C.1 C.2.1 dL_law_2109 (by decide) (fun _ => ?_) (fun q => absurd rfl q)
  exact W.widen (k := cl + 1) (n := sl + 6) (by omega) (by omega) (next hc1 hm1 x hR1 H2 locs2 ls hP2 hD2 hS2 hl)
set_option maxRecDepth 20000 in
set_option maxHeartbeats 1000000 in
theorem lc_43 {p : Program} {l : Launch} {e : Env} {s : State} {m : MethodId} {b L : Nat} {xs : Nat → Int32} {below : List Frame} {meth : Method} {c : Code} {D : va_G} {ca adc adm : Nat → Nat} {ao : Nat} {Z : State → Prop} {cl sl i : Nat} {hc hm : HS} {x : Int64} (X : LX p l s m c b L xs D ca) (hi : i + 6 ≤ L) (hR : RR hc hm) (hop : ∀ {hc hm : HS}, RR hc hm → ∀ (p1 : Int32), OK2 (fX11_shift p1 hc) (fX12_shift p1 hm)) (hcl9 : cl + 1 ≤ 601024) (hsl9 : sl + 6 ≤ 7293034) (next : ∀ (hc1 hm1 : HS) (x1 : Int64), RR hc1 hm1 → LH p l e s m b below meth c D ca adc adm ao Z i 2382 hc1 hm1 x1 (cl + 1) (sl + 6)) : LH p l e s m b below meth c D ca adc adm ao Z i 2114 hc hm x cl sl := by
  intro H locs ls hP hD hS hl
  have C := X.1
  obtain ⟨r, hc1, hm1, e1, e2, hR1⟩ := hop hR (xs (i + 1))
  refine lv_aload_n C.1 C.2.1 dL_law_2114 rfl (lv_at hl 1 rfl) ?_
  refine l_arg (j := 1) X hS hi (by decide) (by decide) (lv_at hl 0 rfl) (lv_at hl 4 rfl) dL_law_2115 dL_law_2116 dL_law_2118 dL_law_2119 dL_law_2120 ?_
  refine l_callC (d1 := 7) X hP hD hS hl.1 dL_law_2121 lmL_220 wlX11_shift (tX11_shift e1) (by decide) (by decide) (by omega) (by omega) rfl rfl (by decide) rfl rfl (fun H1 locs1 hP1 hD1 hS1 => ?_)
  refine lv_aload_n C.1 C.2.1 dL_law_2124 rfl (lv_at hl 2 rfl) ?_
  refine l_arg (j := 1) X hS1 hi (by decide) (by decide) (lv_at hl 0 rfl) (lv_at hl 4 rfl) dL_law_2125 dL_law_2126 dL_law_2128 dL_law_2129 dL_law_2130 ?_
  refine l_callM (d1 := 5) X hP1 hD1 hS1 hl.1 dL_law_2131 lmL_223 wlX12_shift (tX12_shift e2) (by decide) (by decide) (by omega) (by omega) rfl rfl (by simp [Value.category]) rfl rfl (fun H2 locs2 hP2 hD2 hS2 => ?_)
  refine lv_icmp_eq (tgt := 2382) C.1 C.2.1 dL_law_2134 (by decide) (fun _ => ?_) (fun q => absurd rfl q)
  exact W.widen (k := cl + 1) (n := sl + 6) (by omega) (by omega) (next hc1 hm1 x hR1 H2 locs2 ls hP2 hD2 hS2 hl)
set_option maxRecDepth 20000 in
set_option maxHeartbeats 1000000 in
theorem lc_44 {p : Program} {l : Launch} {e : Env} {s : State} {m : MethodId} {b L : Nat} {xs : Nat → Int32} {below : List Frame} {meth : Method} {c : Code} {D : va_G} {ca adc adm : Nat → Nat} {ao : Nat} {Z : State → Prop} {cl sl i : Nat} {hc hm : HS} {x : Int64} (X : LX p l s m c b L xs D ca) (hi : i + 6 ≤ L) (hR : RR hc hm) (hop : ∀ {hc hm : HS}, RR hc hm → ∀ (p1 p2 : Int32), OK2 (fX11_ground p1 p2 hc) (fX12_ground p1 p2 hm)) (hcl9 : cl + 1 ≤ 601024) (hsl9 : sl + 6 ≤ 7293034) (next : ∀ (hc1 hm1 : HS) (x1 : Int64), RR hc1 hm1 → LH p l e s m b below meth c D ca adc adm ao Z i 2382 hc1 hm1 x1 (cl + 1) (sl + 6)) : LH p l e s m b below meth c D ca adc adm ao Z i 2139 hc hm x cl sl := by
  intro H locs ls hP hD hS hl
  have C := X.1
  obtain ⟨r, hc1, hm1, e1, e2, hR1⟩ := hop hR (xs (i + 1)) (xs (i + 2))
  refine lv_aload_n C.1 C.2.1 dL_law_2139 rfl (lv_at hl 1 rfl) ?_
  refine l_arg (j := 1) X hS hi (by decide) (by decide) (lv_at hl 0 rfl) (lv_at hl 4 rfl) dL_law_2140 dL_law_2141 dL_law_2143 dL_law_2144 dL_law_2145 ?_
  refine l_arg (j := 2) X hS hi (by decide) (by decide) (lv_at hl 0 rfl) (lv_at hl 4 rfl) dL_law_2146 dL_law_2147 dL_law_2149 dL_law_2150 dL_law_2151 ?_
  refine l_callC (d1 := 3) X hP hD hS hl.1 dL_law_2152 lmL_224 wlX11_ground (tX11_ground e1) (by decide) (by decide) (by omega) (by omega) rfl rfl (by decide) rfl rfl (fun H1 locs1 hP1 hD1 hS1 => ?_)
  refine lv_aload_n C.1 C.2.1 dL_law_2155 rfl (lv_at hl 2 rfl) ?_
  refine l_arg (j := 1) X hS1 hi (by decide) (by decide) (lv_at hl 0 rfl) (lv_at hl 4 rfl) dL_law_2156 dL_law_2157 dL_law_2159 dL_law_2160 dL_law_2161 ?_
  refine l_arg (j := 2) X hS1 hi (by decide) (by decide) (lv_at hl 0 rfl) (lv_at hl 4 rfl) dL_law_2162 dL_law_2163 dL_law_2165 dL_law_2166 dL_law_2167 ?_
  refine l_callM (d1 := 3) X hP1 hD1 hS1 hl.1 dL_law_2168 lmL_227 wlX12_ground (tX12_ground e2) (by decide) (by decide) (by omega) (by omega) rfl rfl (by simp [Value.category]) rfl rfl (fun H2 locs2 hP2 hD2 hS2 => ?_)
  refine lv_icmp_eq (tgt := 2382) C.1 C.2.1 dL_law_2171 (by decide) (fun _ => ?_) (fun q => absurd rfl q)
  exact W.widen (k := cl + 1) (n := sl + 6) (by omega) (by omega) (next hc1 hm1 x hR1 H2 locs2 ls hP2 hD2 hS2 hl)
set_option maxRecDepth 20000 in
set_option maxHeartbeats 1000000 in
theorem lc_45 {p : Program} {l : Launch} {e : Env} {s : State} {m : MethodId} {b L : Nat} {xs : Nat → Int32} {below : List Frame} {meth : Method} {c : Code} {D : va_G} {ca adc adm : Nat → Nat} {ao : Nat} {Z : State → Prop} {cl sl i : Nat} {hc hm : HS} {x : Int64} (X : LX p l s m c b L xs D ca) (hi : i + 6 ≤ L) (hR : RR hc hm) (hop : ∀ {hc hm : HS}, RR hc hm → ∀ (p1 p2 : Int32), OK2 (fX11_ice p1 p2 hc) (fX12_ice p1 p2 hm)) (hcl9 : cl + 1 ≤ 601024) (hsl9 : sl + 6 ≤ 7293034) (next : ∀ (hc1 hm1 : HS) (x1 : Int64), RR hc1 hm1 → LH p l e s m b below meth c D ca adc adm ao Z i 2382 hc1 hm1 x1 (cl + 1) (sl + 6)) : LH p l e s m b below meth c D ca adc adm ao Z i 2176 hc hm x cl sl := by
  intro H locs ls hP hD hS hl
  have C := X.1
  obtain ⟨r, hc1, hm1, e1, e2, hR1⟩ := hop hR (xs (i + 1)) (xs (i + 2))
  refine lv_aload_n C.1 C.2.1 dL_law_2176 rfl (lv_at hl 1 rfl) ?_
  refine l_arg (j := 1) X hS hi (by decide) (by decide) (lv_at hl 0 rfl) (lv_at hl 4 rfl) dL_law_2177 dL_law_2178 dL_law_2180 dL_law_2181 dL_law_2182 ?_
  refine l_arg (j := 2) X hS hi (by decide) (by decide) (lv_at hl 0 rfl) (lv_at hl 4 rfl) dL_law_2183 dL_law_2184 dL_law_2186 dL_law_2187 dL_law_2188 ?_
  refine l_callC (d1 := 3) X hP hD hS hl.1 dL_law_2189 lmL_228 wlX11_ice (tX11_ice e1) (by decide) (by decide) (by omega) (by omega) rfl rfl (by decide) rfl rfl (fun H1 locs1 hP1 hD1 hS1 => ?_)
  refine lv_aload_n C.1 C.2.1 dL_law_2192 rfl (lv_at hl 2 rfl) ?_
  refine l_arg (j := 1) X hS1 hi (by decide) (by decide) (lv_at hl 0 rfl) (lv_at hl 4 rfl) dL_law_2193 dL_law_2194 dL_law_2196 dL_law_2197 dL_law_2198 ?_
  refine l_arg (j := 2) X hS1 hi (by decide) (by decide) (lv_at hl 0 rfl) (lv_at hl 4 rfl) dL_law_2199 dL_law_2200 dL_law_2202 dL_law_2203 dL_law_2204 ?_
  refine l_callM (d1 := 4) X hP1 hD1 hS1 hl.1 dL_law_2205 lmL_231 wlX12_ice (tX12_ice e2) (by decide) (by decide) (by omega) (by omega) rfl rfl (by simp [Value.category]) rfl rfl (fun H2 locs2 hP2 hD2 hS2 => ?_)
  refine lv_icmp_eq (tgt := 2382) C.1 C.2.1 dL_law_2208 (by decide) (fun _ => ?_) (fun q => absurd rfl q)
  exact W.widen (k := cl + 1) (n := sl + 6) (by omega) (by omega) (next hc1 hm1 x hR1 H2 locs2 ls hP2 hD2 hS2 hl)
set_option maxRecDepth 20000 in
set_option maxHeartbeats 1000000 in
theorem lc_46 {p : Program} {l : Launch} {e : Env} {s : State} {m : MethodId} {b L : Nat} {xs : Nat → Int32} {below : List Frame} {meth : Method} {c : Code} {D : va_G} {ca adc adm : Nat → Nat} {ao : Nat} {Z : State → Prop} {cl sl i : Nat} {hc hm : HS} {x : Int64} (X : LX p l s m c b L xs D ca) (hi : i + 6 ≤ L) (hR : RR hc hm) (hop : ∀ {hc hm : HS}, RR hc hm → ∀ (p1 : Int32), OK2 (fX11_keep p1 hc) (fX12_keep p1 hm)) (hcl9 : cl + 1 ≤ 601024) (hsl9 : sl + 6 ≤ 7293034) (next : ∀ (hc1 hm1 : HS) (x1 : Int64), RR hc1 hm1 → LH p l e s m b below meth c D ca adc adm ao Z i 2382 hc1 hm1 x1 (cl + 1) (sl + 6)) : LH p l e s m b below meth c D ca adc adm ao Z i 2213 hc hm x cl sl := by
  intro H locs ls hP hD hS hl
  have C := X.1
  obtain ⟨r, hc1, hm1, e1, e2, hR1⟩ := hop hR (xs (i + 1))
  refine lv_aload_n C.1 C.2.1 dL_law_2213 rfl (lv_at hl 1 rfl) ?_
  refine l_arg (j := 1) X hS hi (by decide) (by decide) (lv_at hl 0 rfl) (lv_at hl 4 rfl) dL_law_2214 dL_law_2215 dL_law_2217 dL_law_2218 dL_law_2219 ?_
  refine l_callC (d1 := 1) X hP hD hS hl.1 dL_law_2220 lmL_232 wlX11_keep (tX11_keep e1) (by decide) (by decide) (by omega) (by omega) rfl rfl (by decide) rfl rfl (fun H1 locs1 hP1 hD1 hS1 => ?_)
  refine lv_aload_n C.1 C.2.1 dL_law_2223 rfl (lv_at hl 2 rfl) ?_
  refine l_arg (j := 1) X hS1 hi (by decide) (by decide) (lv_at hl 0 rfl) (lv_at hl 4 rfl) dL_law_2224 dL_law_2225 dL_law_2227 dL_law_2228 dL_law_2229 ?_
  refine l_callM (d1 := 1) X hP1 hD1 hS1 hl.1 dL_law_2230 lmL_235 wlX12_keep (tX12_keep e2) (by decide) (by decide) (by omega) (by omega) rfl rfl (by simp [Value.category]) rfl rfl (fun H2 locs2 hP2 hD2 hS2 => ?_)
  refine lv_icmp_eq (tgt := 2382) C.1 C.2.1 dL_law_2233 (by decide) (fun _ => ?_) (fun q => absurd rfl q)
  exact W.widen (k := cl + 1) (n := sl + 6) (by omega) (by omega) (next hc1 hm1 x hR1 H2 locs2 ls hP2 hD2 hS2 hl)
set_option maxRecDepth 20000 in
set_option maxHeartbeats 1000000 in
theorem lc_47 {p : Program} {l : Launch} {e : Env} {s : State} {m : MethodId} {b L : Nat} {xs : Nat → Int32} {below : List Frame} {meth : Method} {c : Code} {D : va_G} {ca adc adm : Nat → Nat} {ao : Nat} {Z : State → Prop} {cl sl i : Nat} {hc hm : HS} {x : Int64} (X : LX p l s m c b L xs D ca) (hi : i + 6 ≤ L) (hR : RR hc hm) (hop : ∀ {hc hm : HS}, RR hc hm → ∀ (p1 : Int32), OK2 (fX11_again p1 hc) (fX12_again p1 hm)) (hcl9 : cl + 1 ≤ 601024) (hsl9 : sl + 6 ≤ 7293034) (next : ∀ (hc1 hm1 : HS) (x1 : Int64), RR hc1 hm1 → LH p l e s m b below meth c D ca adc adm ao Z i 2382 hc1 hm1 x1 (cl + 1) (sl + 6)) : LH p l e s m b below meth c D ca adc adm ao Z i 2238 hc hm x cl sl := by
  intro H locs ls hP hD hS hl
  have C := X.1
  obtain ⟨r, hc1, hm1, e1, e2, hR1⟩ := hop hR (xs (i + 1))
  refine lv_aload_n C.1 C.2.1 dL_law_2238 rfl (lv_at hl 1 rfl) ?_
  refine l_arg (j := 1) X hS hi (by decide) (by decide) (lv_at hl 0 rfl) (lv_at hl 4 rfl) dL_law_2239 dL_law_2240 dL_law_2242 dL_law_2243 dL_law_2244 ?_
  refine l_callC (d1 := 1) X hP hD hS hl.1 dL_law_2245 lmL_236 wlX11_again (tX11_again e1) (by decide) (by decide) (by omega) (by omega) rfl rfl (by decide) rfl rfl (fun H1 locs1 hP1 hD1 hS1 => ?_)
  refine lv_aload_n C.1 C.2.1 dL_law_2248 rfl (lv_at hl 2 rfl) ?_
  refine l_arg (j := 1) X hS1 hi (by decide) (by decide) (lv_at hl 0 rfl) (lv_at hl 4 rfl) dL_law_2249 dL_law_2250 dL_law_2252 dL_law_2253 dL_law_2254 ?_
  refine l_callM (d1 := 1) X hP1 hD1 hS1 hl.1 dL_law_2255 lmL_239 wlX12_again (tX12_again e2) (by decide) (by decide) (by omega) (by omega) rfl rfl (by simp [Value.category]) rfl rfl (fun H2 locs2 hP2 hD2 hS2 => ?_)
  refine lv_icmp_eq (tgt := 2382) C.1 C.2.1 dL_law_2258 (by decide) (fun _ => ?_) (fun q => absurd rfl q)
  exact W.widen (k := cl + 1) (n := sl + 6) (by omega) (by omega) (next hc1 hm1 x hR1 H2 locs2 ls hP2 hD2 hS2 hl)
set_option maxRecDepth 20000 in
set_option maxHeartbeats 1000000 in
theorem lc_48 {p : Program} {l : Launch} {e : Env} {s : State} {m : MethodId} {b L : Nat} {xs : Nat → Int32} {below : List Frame} {meth : Method} {c : Code} {D : va_G} {ca adc adm : Nat → Nat} {ao : Nat} {Z : State → Prop} {cl sl i : Nat} {hc hm : HS} {x : Int64} (X : LX p l s m c b L xs D ca) (hi : i + 6 ≤ L) (hR : RR hc hm) (hop : ∀ {hc hm : HS}, RR hc hm → ∀ (p1 : Int32), OK2 (fX11_seed p1 hc) (fX12_seed p1 hm)) (hcl9 : cl + 1 ≤ 601024) (hsl9 : sl + 6 ≤ 7293034) (next : ∀ (hc1 hm1 : HS) (x1 : Int64), RR hc1 hm1 → LH p l e s m b below meth c D ca adc adm ao Z i 2382 hc1 hm1 x1 (cl + 1) (sl + 6)) : LH p l e s m b below meth c D ca adc adm ao Z i 2263 hc hm x cl sl := by
  intro H locs ls hP hD hS hl
  have C := X.1
  obtain ⟨r, hc1, hm1, e1, e2, hR1⟩ := hop hR (xs (i + 1))
  refine lv_aload_n C.1 C.2.1 dL_law_2263 rfl (lv_at hl 1 rfl) ?_
  refine l_arg (j := 1) X hS hi (by decide) (by decide) (lv_at hl 0 rfl) (lv_at hl 4 rfl) dL_law_2264 dL_law_2265 dL_law_2267 dL_law_2268 dL_law_2269 ?_
  refine l_callC (d1 := 0) X hP hD hS hl.1 dL_law_2270 lmL_240 wlX11_seed (tX11_seed e1) (by decide) (by decide) (by omega) (by omega) rfl rfl (by decide) rfl rfl (fun H1 locs1 hP1 hD1 hS1 => ?_)
  refine lv_aload_n C.1 C.2.1 dL_law_2273 rfl (lv_at hl 2 rfl) ?_
  refine l_arg (j := 1) X hS1 hi (by decide) (by decide) (lv_at hl 0 rfl) (lv_at hl 4 rfl) dL_law_2274 dL_law_2275 dL_law_2277 dL_law_2278 dL_law_2279 ?_
  refine l_callM (d1 := 0) X hP1 hD1 hS1 hl.1 dL_law_2280 lmL_243 wlX12_seed (tX12_seed e2) (by decide) (by decide) (by omega) (by omega) rfl rfl (by simp [Value.category]) rfl rfl (fun H2 locs2 hP2 hD2 hS2 => ?_)
  refine lv_icmp_eq (tgt := 2382) C.1 C.2.1 dL_law_2283 (by decide) (fun _ => ?_) (fun q => absurd rfl q)
  exact W.widen (k := cl + 1) (n := sl + 6) (by omega) (by omega) (next hc1 hm1 x hR1 H2 locs2 ls hP2 hD2 hS2 hl)
set_option maxRecDepth 20000 in
set_option maxHeartbeats 1000000 in
theorem lc_49 {p : Program} {l : Launch} {e : Env} {s : State} {m : MethodId} {b L : Nat} {xs : Nat → Int32} {below : List Frame} {meth : Method} {c : Code} {D : va_G} {ca adc adm : Nat → Nat} {ao : Nat} {Z : State → Prop} {cl sl i : Nat} {hc hm : HS} {x : Int64} (X : LX p l s m c b L xs D ca) (hi : i + 6 ≤ L) (hR : RR hc hm) (hop : ∀ {hc hm : HS}, RR hc hm → OK2 (fX11_lie  hc) (fX12_lie  hm)) (hcl9 : cl + 1 ≤ 601024) (hsl9 : sl + 6 ≤ 7293034) (next : ∀ (hc1 hm1 : HS) (x1 : Int64), RR hc1 hm1 → LH p l e s m b below meth c D ca adc adm ao Z i 2382 hc1 hm1 x1 (cl + 1) (sl + 6)) : LH p l e s m b below meth c D ca adc adm ao Z i 2288 hc hm x cl sl := by
  intro H locs ls hP hD hS hl
  have C := X.1
  obtain ⟨r, hc1, hm1, e1, e2, hR1⟩ := hop hR 
  refine lv_aload_n C.1 C.2.1 dL_law_2288 rfl (lv_at hl 1 rfl) ?_
  refine l_callC (d1 := 1) X hP hD hS hl.1 dL_law_2289 lmL_244 wlX11_lie (tX11_lie e1) (by decide) (by decide) (by omega) (by omega) rfl rfl (by decide) rfl rfl (fun H1 locs1 hP1 hD1 hS1 => ?_)
  refine lv_aload_n C.1 C.2.1 dL_law_2292 rfl (lv_at hl 2 rfl) ?_
  refine l_callM (d1 := 1) X hP1 hD1 hS1 hl.1 dL_law_2293 lmL_247 wlX12_lie (tX12_lie e2) (by decide) (by decide) (by omega) (by omega) rfl rfl (by simp [Value.category]) rfl rfl (fun H2 locs2 hP2 hD2 hS2 => ?_)
  refine lv_icmp_eq (tgt := 2382) C.1 C.2.1 dL_law_2296 (by decide) (fun _ => ?_) (fun q => absurd rfl q)
  exact W.widen (k := cl + 1) (n := sl + 6) (by omega) (by omega) (next hc1 hm1 x hR1 H2 locs2 ls hP2 hD2 hS2 hl)
set_option maxRecDepth 20000 in
set_option maxHeartbeats 1000000 in
theorem lc_50 {p : Program} {l : Launch} {e : Env} {s : State} {m : MethodId} {b L : Nat} {xs : Nat → Int32} {below : List Frame} {meth : Method} {c : Code} {D : va_G} {ca adc adm : Nat → Nat} {ao : Nat} {Z : State → Prop} {cl sl i : Nat} {hc hm : HS} {x : Int64} (X : LX p l s m c b L xs D ca) (hi : i + 6 ≤ L) (hR : RR hc hm) (hop : ∀ {hc hm : HS}, RR hc hm → ∀ (p1 : Int32), OK2 (fX11_count p1 hc) (fX12_count p1 hm)) (hcl9 : cl + 1 ≤ 601024) (hsl9 : sl + 6 ≤ 7293034) (next : ∀ (hc1 hm1 : HS) (x1 : Int64), RR hc1 hm1 → LH p l e s m b below meth c D ca adc adm ao Z i 2382 hc1 hm1 x1 (cl + 1) (sl + 6)) : LH p l e s m b below meth c D ca adc adm ao Z i 2301 hc hm x cl sl := by
  intro H locs ls hP hD hS hl
  have C := X.1
  obtain ⟨r, hc1, hm1, e1, e2, hR1⟩ := hop hR (xs (i + 1))
  refine lv_aload_n C.1 C.2.1 dL_law_2301 rfl (lv_at hl 1 rfl) ?_
  refine l_arg (j := 1) X hS hi (by decide) (by decide) (lv_at hl 0 rfl) (lv_at hl 4 rfl) dL_law_2302 dL_law_2303 dL_law_2305 dL_law_2306 dL_law_2307 ?_
  refine l_callC (d1 := 0) X hP hD hS hl.1 dL_law_2308 lmL_248 wlX11_count (tX11_count e1) (by decide) (by decide) (by omega) (by omega) rfl rfl (by decide) rfl rfl (fun H1 locs1 hP1 hD1 hS1 => ?_)
  refine lv_aload_n C.1 C.2.1 dL_law_2311 rfl (lv_at hl 2 rfl) ?_
  refine l_arg (j := 1) X hS1 hi (by decide) (by decide) (lv_at hl 0 rfl) (lv_at hl 4 rfl) dL_law_2312 dL_law_2313 dL_law_2315 dL_law_2316 dL_law_2317 ?_
  refine l_callM (d1 := 0) X hP1 hD1 hS1 hl.1 dL_law_2318 lmL_251 wlX12_count (tX12_count e2) (by decide) (by decide) (by omega) (by omega) rfl rfl (by simp [Value.category]) rfl rfl (fun H2 locs2 hP2 hD2 hS2 => ?_)
  refine lv_icmp_eq (tgt := 2382) C.1 C.2.1 dL_law_2321 (by decide) (fun _ => ?_) (fun q => absurd rfl q)
  exact W.widen (k := cl + 1) (n := sl + 6) (by omega) (by omega) (next hc1 hm1 x hR1 H2 locs2 ls hP2 hD2 hS2 hl)
set_option maxRecDepth 20000 in
set_option maxHeartbeats 1000000 in
theorem lc_51 {p : Program} {l : Launch} {e : Env} {s : State} {m : MethodId} {b L : Nat} {xs : Nat → Int32} {below : List Frame} {meth : Method} {c : Code} {D : va_G} {ca adc adm : Nat → Nat} {ao : Nat} {Z : State → Prop} {cl sl i : Nat} {hc hm : HS} {x : Int64} (X : LX p l s m c b L xs D ca) (hi : i + 6 ≤ L) (hR : RR hc hm) (hop : ∀ {hc hm : HS}, RR hc hm → ∀ (p1 : Int32), OKX (fX11_row p1 hc) (fX12_row p1 hm) (fX11_row_x17 p1 hc = some hc) hc) (hcl9 : cl + 1 ≤ 601024) (hsl9 : sl + 6 ≤ 7293034) (next : ∀ (hc1 hm1 : HS) (x1 : Int64), RR hc1 hm1 → LH p l e s m b below meth c D ca adc adm ao Z i 2382 hc1 hm1 x1 (cl + 1) (sl + 6)) : LH p l e s m b below meth c D ca adc adm ao Z i 2326 hc hm x cl sl := by
  intro H locs ls hP hD hS hl
  have C := X.1
  rcases hop hR (xs (i + 1)) with ⟨r, hc1, hm1, e1, e2, eT, hR1⟩ | ⟨r, hm1, eX, e2, eT, hR1⟩
  · refine lv_aload_n C.1 C.2.1 dL_law_2326 rfl (lv_at hl 1 rfl) ?_
    refine l_arg (j := 1) X hS hi (by decide) (by decide) (lv_at hl 0 rfl) (lv_at hl 4 rfl) dL_law_2327 dL_law_2328 dL_law_2330 dL_law_2331 dL_law_2332 ?_
    refine lv_aload_n C.1 C.2.1 dL_law_2333 rfl (lv_at hl 3 rfl) ?_
    refine l_help (n := 3) (d1 := 1) (h1 := hc1) (x1 := r.toInt64) (k := 0) (As := [.ref (adc 0), .int (xs (i + 1)), .ref ao]) X hP hD hS hl.1 dL_law_2334 lh_row (by decide +kernel) (hp_row l X.2.1 D ca adc ao hc hc1 (xs (i + 1)) 0 x r.toInt64 (Or.inl ⟨r, e1, rfl, rfl⟩)) (by decide) (by decide) hcl9 hsl9 rfl (by decide) rfl (fun H1 locs1 hP1 hD1 hS1 => ?_)
    refine lv_istore (lv' := (5, .int 0) :: lv5 b adc adm ao i) C.1 C.2.1 dL_law_2337 hl (by decide) rfl (fun ls hl => ?_)
    refine lv_aload_n C.1 C.2.1 dL_law_2339 rfl (lv_at hl 3 rfl) ?_
    refine l_arg (j := 1) X hS1 hi (by decide) (by decide) (lv_at hl 1 rfl) (lv_at hl 5 rfl) dL_law_2340 dL_law_2341 dL_law_2343 dL_law_2344 dL_law_2345 ?_
    refine l_callM (d1 := 1) X hP1 hD1 hS1 hl.1 dL_law_2346 lmL_254 wlX12_row (tX12_row e2) (by decide) (by decide) (by omega) (by omega) rfl rfl (by decide) rfl rfl (fun H2 locs2 hP2 hD2 hS2 => ?_)
    refine lv_istore (lv' := (6, .int r) :: (5, .int 0) :: lv5 b adc adm ao i) C.1 C.2.1 dL_law_2349 hl (by decide) rfl (fun ls hl => ?_)
    refine lv_aload_n C.1 C.2.1 dL_law_2351 rfl (lv_at hl 4 rfl) ?_
    refine l_callM (d1 := 0) (r := gI hm1 0 22) (h1 := hm1) X hP2 hD2 hS2 hl.1 dL_law_2352 lmL_78 wlX12_thrown (tX12_thrown rfl) (by decide) (by decide) (by omega) (by omega) rfl rfl (by decide) rfl rfl (fun H3 locs3 hP3 hD3 hS3 => ?_)
    refine lv_iload C.1 C.2.1 dL_law_2355 (lv_at hl 1 rfl) ?_
    refine lv_icmp_eq (tgt := 2362) C.1 C.2.1 dL_law_2357 (by decide) (fun _ => ?_) (fun q => absurd eT q)
    refine lv_iload C.1 C.2.1 dL_law_2362 (lv_at hl 1 rfl) ?_
    refine lv_if_ne (tgt := 2379) C.1 C.2.1 dL_law_2364 (by decide) (fun q => absurd rfl q) (fun _ => ?_)
    refine lv_aload_n C.1 C.2.1 dL_law_2367 rfl (lv_at hl 5 rfl) ?_
    refine lv_iconst (v := 0) C.1 C.2.1 dL_law_2368 (by decide) ?_
    refine va_lald C.1 C.2.1 X.2.2.1.1 hP3 (39 + 68) 3 wl_out rfl (inb_in (i := 0) (n := 1) (by decide)) dL_law_2369 ?_
    refine lv_iload C.1 C.2.1 dL_law_2370 (lv_at hl 0 rfl) ?_
    refine lv_i2l C.1 C.2.1 dL_law_2372 rfl ?_
    refine W.lcmp C.1 C.2.1 dL_law_2373 ?_
    refine lv_if_eq (tgt := 2379) C.1 C.2.1 dL_law_2374 (by decide) (fun _ => ?_) (fun q => absurd (lgc _) q)
    refine lv_goto (tgt := 2382) C.1 C.2.1 dL_law_2379 (by decide) ?_
    exact next hc1 hm1 r.toInt64 hR1 H3 locs3 ls hP3 hD3 hS3 (lv_sub hl [2, 3, 4, 5, 6] rfl)
  · refine lv_aload_n C.1 C.2.1 dL_law_2326 rfl (lv_at hl 1 rfl) ?_
    refine l_arg (j := 1) X hS hi (by decide) (by decide) (lv_at hl 0 rfl) (lv_at hl 4 rfl) dL_law_2327 dL_law_2328 dL_law_2330 dL_law_2331 dL_law_2332 ?_
    refine lv_aload_n C.1 C.2.1 dL_law_2333 rfl (lv_at hl 3 rfl) ?_
    refine l_help (n := 3) (d1 := 1) (h1 := hc) (x1 := x) (k := 1) (As := [.ref (adc 0), .int (xs (i + 1)), .ref ao]) X hP hD hS hl.1 dL_law_2334 lh_row (by decide +kernel) (hp_row l X.2.1 D ca adc ao hc hc (xs (i + 1)) 1 x x (Or.inr ⟨eX, rfl, rfl⟩)) (by decide) (by decide) hcl9 hsl9 rfl (by decide) rfl (fun H1 locs1 hP1 hD1 hS1 => ?_)
    refine lv_istore (lv' := (5, .int 1) :: lv5 b adc adm ao i) C.1 C.2.1 dL_law_2337 hl (by decide) rfl (fun ls hl => ?_)
    refine lv_aload_n C.1 C.2.1 dL_law_2339 rfl (lv_at hl 3 rfl) ?_
    refine l_arg (j := 1) X hS1 hi (by decide) (by decide) (lv_at hl 1 rfl) (lv_at hl 5 rfl) dL_law_2340 dL_law_2341 dL_law_2343 dL_law_2344 dL_law_2345 ?_
    refine l_callM (d1 := 1) X hP1 hD1 hS1 hl.1 dL_law_2346 lmL_254 wlX12_row (tX12_row e2) (by decide) (by decide) (by omega) (by omega) rfl rfl (by decide) rfl rfl (fun H2 locs2 hP2 hD2 hS2 => ?_)
    refine lv_istore (lv' := (6, .int r) :: (5, .int 1) :: lv5 b adc adm ao i) C.1 C.2.1 dL_law_2349 hl (by decide) rfl (fun ls hl => ?_)
    refine lv_aload_n C.1 C.2.1 dL_law_2351 rfl (lv_at hl 4 rfl) ?_
    refine l_callM (d1 := 0) (r := gI hm1 0 22) (h1 := hm1) X hP2 hD2 hS2 hl.1 dL_law_2352 lmL_78 wlX12_thrown (tX12_thrown rfl) (by decide) (by decide) (by omega) (by omega) rfl rfl (by decide) rfl rfl (fun H3 locs3 hP3 hD3 hS3 => ?_)
    refine lv_iload C.1 C.2.1 dL_law_2355 (lv_at hl 1 rfl) ?_
    refine lv_icmp_eq (tgt := 2362) C.1 C.2.1 dL_law_2357 (by decide) (fun _ => ?_) (fun q => absurd eT q)
    refine lv_iload C.1 C.2.1 dL_law_2362 (lv_at hl 1 rfl) ?_
    refine lv_if_ne (tgt := 2379) C.1 C.2.1 dL_law_2364 (by decide) (fun _ => ?_) (fun q => absurd q (by decide))
    refine lv_goto (tgt := 2382) C.1 C.2.1 dL_law_2379 (by decide) ?_
    exact next hc hm1 x hR1 H3 locs3 ls hP3 hD3 hS3 (lv_sub hl [2, 3, 4, 5, 6] rfl)
