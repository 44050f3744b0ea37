/-! the words that the walks use are among the tables' -/
theorem tt_0 (i : Nat) {w : Cond} (h : (k2_sels lw_privs)[i]? = some w) : w ∈ lw_tbl := List.mem_append_left _ (List.mem_of_getElem? h)
theorem tt_1 (i : Nat) {w : Cond} (h : tables_1_1[i]? = some w) : w ∈ lw_tbl := List.mem_append_right _ (List.mem_append_left _ (List.mem_of_getElem? h))
theorem tt_2 (i : Nat) {w : Cond} (h : tables_1_2[i]? = some w) : w ∈ lw_tbl := List.mem_append_right _ (List.mem_append_right _ (List.mem_append_left _ (List.mem_of_getElem? h)))
theorem tt_3 (i : Nat) {w : Cond} (h : tables_1_3[i]? = some w) : w ∈ lw_tbl := List.mem_append_right _ (List.mem_append_right _ (List.mem_append_right _ (List.mem_append_left _ (List.mem_of_getElem? h))))
theorem tt_4 (i : Nat) {w : Cond} (h : tables_1_4[i]? = some w) : w ∈ lw_tbl := List.mem_append_right _ (List.mem_append_right _ (List.mem_append_right _ (List.mem_append_right _ (List.mem_of_getElem? h))))
theorem fc {w : Cond} {l : List Cond} (h : w ∈ lw_tbl) (h2 : ∀ v ∈ l, v ∈ lw_tbl) : ∀ v ∈ w :: l, v ∈ lw_tbl := List.forall_mem_cons.mpr ⟨h, h2⟩
theorem fn : ∀ v ∈ ([] : List Cond), v ∈ lw_tbl := fun _ h => absurd h List.not_mem_nil
set_option maxRecDepth 20000 in
theorem tin_1 : ∀ w ∈ wsL_law_r1, w ∈ lw_tbl := (fc (tt_1 11 rfl) (fc (tt_1 12 rfl) (fc (tt_1 1 rfl) (fc (tt_3 60 rfl) (fc (tt_3 61 rfl) (fc (tt_1 7 rfl) (fc (tt_1 13 rfl) (fc (tt_1 14 rfl) (fc (tt_1 15 rfl) (fc (tt_1 16 rfl) (fc (tt_1 17 rfl) (fc (tt_1 18 rfl) (fc (tt_1 19 rfl) (fc (tt_1 20 rfl) (fc (tt_1 2 rfl) (fc (tt_1 126 rfl) (fc (tt_1 67 rfl) (fc (tt_1 68 rfl) (fc (tt_1 4 rfl) (fc (tt_1 127 rfl) (fc (tt_1 90 rfl) (fc (tt_1 91 rfl) (fc (tt_1 5 rfl) (fc (tt_1 128 rfl) fn))))))))))))))))))))))))
set_option maxRecDepth 20000 in
theorem tin_2 : ∀ w ∈ wsL_law_r2, w ∈ lw_tbl := (fc (tt_1 106 rfl) (fc (tt_1 108 rfl) (fc (tt_1 6 rfl) (fc (tt_1 129 rfl) (fc (tt_1 55 rfl) (fc (tt_1 130 rfl) (fc (tt_1 131 rfl) (fc (tt_1 133 rfl) (fc (tt_1 136 rfl) (fc (tt_1 22 rfl) (fc (tt_1 23 rfl) (fc (tt_1 24 rfl) (fc (tt_1 25 rfl) (fc (tt_1 27 rfl) (fc (tt_1 3 rfl) (fc (tt_1 58 rfl) (fc (tt_1 59 rfl) (fc (tt_1 29 rfl) (fc (tt_1 30 rfl) (fc (tt_1 31 rfl) (fc (tt_1 44 rfl) (fc (tt_1 70 rfl) (fc (tt_1 71 rfl) (fc (tt_1 72 rfl) fn))))))))))))))))))))))))
set_option maxRecDepth 20000 in
theorem tin_3 : ∀ w ∈ wsL_law_r3, w ∈ lw_tbl := (fc (tt_1 73 rfl) (fc (tt_1 75 rfl) (fc (tt_1 79 rfl) (fc (tt_1 93 rfl) (fc (tt_1 94 rfl) (fc (tt_1 95 rfl) (fc (tt_1 96 rfl) (fc (tt_1 97 rfl) (fc (tt_1 110 rfl) (fc (tt_1 111 rfl) (fc (tt_1 112 rfl) (fc (tt_1 113 rfl) (fc (tt_1 116 rfl) (fc (tt_3 62 rfl) (fc (tt_3 63 rfl) (fc (tt_3 64 rfl) (fc (tt_3 65 rfl) (fc (tt_3 69 rfl) (fc (tt_3 70 rfl) (fc (tt_3 71 rfl) (fc (tt_3 75 rfl) (fc (tt_3 76 rfl) (fc (tt_3 77 rfl) (fc (tt_3 78 rfl) fn))))))))))))))))))))))))
set_option maxRecDepth 20000 in
theorem tin_4 : ∀ w ∈ wsL_law_r4, w ∈ lw_tbl := (fc (tt_3 81 rfl) (fc (tt_3 82 rfl) (fc (tt_3 83 rfl) (fc (tt_3 84 rfl) (fc (tt_3 85 rfl) (fc (tt_3 86 rfl) (fc (tt_3 90 rfl) (fc (tt_3 91 rfl) (fc (tt_3 92 rfl) (fc (tt_3 66 rfl) (fc (tt_3 96 rfl) (fc (tt_3 97 rfl) (fc (tt_3 98 rfl) (fc (tt_3 100 rfl) (fc (tt_3 101 rfl) (fc (tt_1 160 rfl) (fc (tt_1 161 rfl) (fc (tt_1 162 rfl) (fc (tt_1 163 rfl) (fc (tt_1 134 rfl) (fc (tt_1 132 rfl) (fc (tt_1 57 rfl) (fc (tt_1 164 rfl) (fc (tt_1 166 rfl) fn))))))))))))))))))))))))
set_option maxRecDepth 20000 in
theorem tin_5 : ∀ w ∈ wsL_law_r5, w ∈ lw_tbl := (fc (tt_0 0 rfl) (fc (tt_1 167 rfl) (fc (tt_1 168 rfl) (fc (tt_1 169 rfl) (fc (tt_1 170 rfl) (fc (tt_1 171 rfl) (fc (tt_1 172 rfl) (fc (tt_1 173 rfl) (fc (tt_1 174 rfl) (fc (tt_1 175 rfl) (fc (tt_1 176 rfl) (fc (tt_1 177 rfl) (fc (tt_1 178 rfl) (fc (tt_1 115 rfl) (fc (tt_1 179 rfl) (fc (tt_1 181 rfl) (fc (tt_0 1 rfl) (fc (tt_1 182 rfl) (fc (tt_1 183 rfl) (fc (tt_1 184 rfl) (fc (tt_1 185 rfl) (fc (tt_1 186 rfl) (fc (tt_1 80 rfl) (fc (tt_1 78 rfl) fn))))))))))))))))))))))))
set_option maxRecDepth 20000 in
theorem tin_6 : ∀ w ∈ wsL_law_r6, w ∈ lw_tbl := (fc (tt_1 117 rfl) (fc (tt_1 187 rfl) (fc (tt_1 189 rfl) (fc (tt_0 2 rfl) (fc (tt_1 190 rfl) (fc (tt_1 191 rfl) (fc (tt_1 193 rfl) (fc (tt_0 3 rfl) (fc (tt_1 194 rfl) (fc (tt_1 195 rfl) (fc (tt_1 197 rfl) (fc (tt_0 4 rfl) (fc (tt_1 198 rfl) (fc (tt_1 42 rfl) (fc (tt_1 199 rfl) (fc (tt_1 201 rfl) (fc (tt_0 5 rfl) (fc (tt_1 202 rfl) (fc (tt_1 35 rfl) (fc (tt_1 203 rfl) (fc (tt_1 205 rfl) (fc (tt_0 6 rfl) (fc (tt_1 206 rfl) (fc (tt_1 39 rfl) fn))))))))))))))))))))))))
set_option maxRecDepth 20000 in
theorem tin_7 : ∀ w ∈ wsL_law_r7, w ∈ lw_tbl := (fc (tt_1 207 rfl) (fc (tt_1 209 rfl) (fc (tt_0 7 rfl) (fc (tt_1 210 rfl) (fc (tt_1 45 rfl) (fc (tt_1 211 rfl) (fc (tt_1 213 rfl) (fc (tt_0 8 rfl) (fc (tt_1 214 rfl) (fc (tt_1 215 rfl) (fc (tt_1 217 rfl) (fc (tt_0 9 rfl) (fc (tt_1 218 rfl) (fc (tt_1 219 rfl) (fc (tt_1 220 rfl) (fc (tt_1 221 rfl) (fc (tt_1 222 rfl) (fc (tt_1 77 rfl) (fc (tt_1 56 rfl) (fc (tt_1 76 rfl) (fc (tt_1 223 rfl) (fc (tt_1 224 rfl) (fc (tt_1 225 rfl) (fc (tt_1 226 rfl) fn))))))))))))))))))))))))
set_option maxRecDepth 20000 in
theorem tin_8 : ∀ w ∈ wsL_law_r8, w ∈ lw_tbl := (fc (tt_1 32 rfl) (fc (tt_1 36 rfl) (fc (tt_1 40 rfl) (fc (tt_1 227 rfl) (fc (tt_1 229 rfl) (fc (tt_1 228 rfl) (fc (tt_1 8 rfl) (fc (tt_1 230 rfl) (fc (tt_1 232 rfl) (fc (tt_0 10 rfl) (fc (tt_1 233 rfl) (fc (tt_1 234 rfl) (fc (tt_1 235 rfl) (fc (tt_1 9 rfl) (fc (tt_1 236 rfl) (fc (tt_1 237 rfl) (fc (tt_1 238 rfl) (fc (tt_1 239 rfl) (fc (tt_3 173 rfl) (fc (tt_3 174 rfl) (fc (tt_3 175 rfl) (fc (tt_3 176 rfl) (fc (tt_3 67 rfl) (fc (tt_3 79 rfl) fn))))))))))))))))))))))))
set_option maxRecDepth 20000 in
theorem tin_9 : ∀ w ∈ wsL_law_r9, w ∈ lw_tbl := (fc (tt_3 80 rfl) (fc (tt_3 72 rfl) (fc (tt_3 74 rfl) (fc (tt_3 73 rfl) (fc (tt_3 99 rfl) (fc (tt_3 94 rfl) (fc (tt_3 177 rfl) (fc (tt_3 178 rfl) (fc (tt_3 179 rfl) (fc (tt_3 180 rfl) (fc (tt_3 181 rfl) (fc (tt_3 182 rfl) (fc (tt_3 183 rfl) (fc (tt_3 184 rfl) (fc (tt_3 185 rfl) (fc (tt_3 186 rfl) (fc (tt_3 188 rfl) (fc (tt_0 23 rfl) (fc (tt_3 189 rfl) (fc (tt_3 190 rfl) (fc (tt_3 192 rfl) (fc (tt_0 24 rfl) (fc (tt_3 193 rfl) (fc (tt_3 194 rfl) fn))))))))))))))))))))))))
set_option maxRecDepth 20000 in
theorem tin_10 : ∀ w ∈ wsL_law_r10, w ∈ lw_tbl := (fc (tt_3 196 rfl) (fc (tt_0 25 rfl) (fc (tt_3 197 rfl) (fc (tt_3 198 rfl) (fc (tt_3 200 rfl) (fc (tt_0 26 rfl) (fc (tt_3 201 rfl) (fc (tt_3 202 rfl) (fc (tt_3 203 rfl) (fc (tt_3 204 rfl) (fc (tt_2 0 rfl) (fc (tt_2 1 rfl) (fc (tt_2 2 rfl) (fc (tt_2 3 rfl) (fc (tt_1 33 rfl) (fc (tt_1 37 rfl) (fc (tt_1 41 rfl) (fc (tt_2 4 rfl) (fc (tt_2 5 rfl) (fc (tt_2 6 rfl) (fc (tt_2 7 rfl) (fc (tt_2 8 rfl) (fc (tt_2 9 rfl) (fc (tt_2 10 rfl) fn))))))))))))))))))))))))
set_option maxRecDepth 20000 in
theorem tin_11 : ∀ w ∈ wsL_law_r11, w ∈ lw_tbl := (fc (tt_2 11 rfl) (fc (tt_2 14 rfl) (fc (tt_0 11 rfl) (fc (tt_2 15 rfl) (fc (tt_1 43 rfl) (fc (tt_2 16 rfl) (fc (tt_2 17 rfl) (fc (tt_2 18 rfl) (fc (tt_2 19 rfl) (fc (tt_2 20 rfl) (fc (tt_2 21 rfl) (fc (tt_2 22 rfl) (fc (tt_3 205 rfl) (fc (tt_3 206 rfl) (fc (tt_3 207 rfl) (fc (tt_3 208 rfl) (fc (tt_3 209 rfl) (fc (tt_3 211 rfl) (fc (tt_0 27 rfl) (fc (tt_3 212 rfl) (fc (tt_3 213 rfl) (fc (tt_3 215 rfl) (fc (tt_0 28 rfl) (fc (tt_3 216 rfl) fn))))))))))))))))))))))))
set_option maxRecDepth 20000 in
theorem tin_12 : ∀ w ∈ wsL_law_r12, w ∈ lw_tbl := (fc (tt_3 217 rfl) (fc (tt_3 219 rfl) (fc (tt_0 29 rfl) (fc (tt_3 220 rfl) (fc (tt_2 23 rfl) (fc (tt_2 24 rfl) (fc (tt_2 25 rfl) (fc (tt_2 26 rfl) (fc (tt_2 27 rfl) (fc (tt_3 221 rfl) (fc (tt_3 222 rfl) (fc (tt_3 223 rfl) (fc (tt_3 224 rfl) (fc (tt_2 28 rfl) (fc (tt_2 29 rfl) (fc (tt_2 30 rfl) (fc (tt_2 31 rfl) (fc (tt_2 32 rfl) (fc (tt_2 33 rfl) (fc (tt_2 34 rfl) (fc (tt_2 35 rfl) (fc (tt_1 34 rfl) (fc (tt_1 38 rfl) (fc (tt_3 225 rfl) fn))))))))))))))))))))))))
set_option maxRecDepth 20000 in
theorem tin_13 : ∀ w ∈ wsL_law_r13, w ∈ lw_tbl := (fc (tt_3 226 rfl) (fc (tt_3 227 rfl) (fc (tt_3 228 rfl) (fc (tt_2 36 rfl) (fc (tt_2 37 rfl) (fc (tt_2 38 rfl) (fc (tt_2 39 rfl) (fc (tt_2 40 rfl) (fc (tt_2 41 rfl) (fc (tt_1 10 rfl) (fc (tt_2 42 rfl) (fc (tt_2 46 rfl) (fc (tt_2 43 rfl) (fc (tt_2 44 rfl) (fc (tt_2 45 rfl) (fc (tt_2 48 rfl) (fc (tt_2 49 rfl) (fc (tt_2 50 rfl) (fc (tt_2 51 rfl) (fc (tt_2 52 rfl) (fc (tt_2 53 rfl) (fc (tt_2 54 rfl) (fc (tt_2 55 rfl) (fc (tt_2 56 rfl) fn))))))))))))))))))))))))
set_option maxRecDepth 20000 in
theorem tin_14 : ∀ w ∈ wsL_law_r14, w ∈ lw_tbl := (fc (tt_3 229 rfl) (fc (tt_3 230 rfl) (fc (tt_3 231 rfl) (fc (tt_3 232 rfl) (fc (tt_3 233 rfl) (fc (tt_3 235 rfl) (fc (tt_0 30 rfl) (fc (tt_3 236 rfl) (fc (tt_3 87 rfl) (fc (tt_3 88 rfl) (fc (tt_3 237 rfl) (fc (tt_3 238 rfl) (fc (tt_3 239 rfl) (fc (tt_4 0 rfl) (fc (tt_4 2 rfl) (fc (tt_0 31 rfl) (fc (tt_4 3 rfl) (fc (tt_3 89 rfl) (fc (tt_4 4 rfl) (fc (tt_4 6 rfl) (fc (tt_0 32 rfl) (fc (tt_4 7 rfl) (fc (tt_4 8 rfl) (fc (tt_4 10 rfl) fn))))))))))))))))))))))))
set_option maxRecDepth 20000 in
theorem tin_15 : ∀ w ∈ wsL_law_r15, w ∈ lw_tbl := (fc (tt_0 33 rfl) (fc (tt_4 11 rfl) (fc (tt_4 12 rfl) (fc (tt_4 14 rfl) (fc (tt_0 34 rfl) (fc (tt_4 15 rfl) (fc (tt_4 16 rfl) (fc (tt_4 18 rfl) (fc (tt_0 35 rfl) (fc (tt_4 19 rfl) (fc (tt_2 57 rfl) (fc (tt_2 58 rfl) (fc (tt_2 59 rfl) (fc (tt_2 60 rfl) (fc (tt_2 63 rfl) (fc (tt_0 12 rfl) (fc (tt_2 64 rfl) (fc (tt_2 65 rfl) (fc (tt_2 66 rfl) (fc (tt_2 67 rfl) (fc (tt_2 68 rfl) (fc (tt_2 69 rfl) (fc (tt_2 71 rfl) (fc (tt_0 13 rfl) fn))))))))))))))))))))))))
set_option maxRecDepth 20000 in
theorem tin_16 : ∀ w ∈ wsL_law_r16, w ∈ lw_tbl := (fc (tt_2 72 rfl) (fc (tt_2 73 rfl) (fc (tt_2 74 rfl) (fc (tt_2 75 rfl) (fc (tt_2 76 rfl) (fc (tt_2 77 rfl) (fc (tt_2 78 rfl) (fc (tt_2 79 rfl) (fc (tt_2 80 rfl) (fc (tt_2 81 rfl) (fc (tt_4 20 rfl) (fc (tt_4 21 rfl) (fc (tt_4 22 rfl) (fc (tt_4 23 rfl) (fc (tt_4 24 rfl) (fc (tt_4 26 rfl) (fc (tt_0 36 rfl) (fc (tt_4 27 rfl) (fc (tt_2 82 rfl) (fc (tt_2 83 rfl) (fc (tt_2 84 rfl) (fc (tt_2 85 rfl) (fc (tt_2 86 rfl) (fc (tt_2 87 rfl) fn))))))))))))))))))))))))
set_option maxRecDepth 20000 in
theorem tin_17 : ∀ w ∈ wsL_law_r17, w ∈ lw_tbl := (fc (tt_2 88 rfl) (fc (tt_2 89 rfl) (fc (tt_4 28 rfl) (fc (tt_4 29 rfl) (fc (tt_4 30 rfl) (fc (tt_4 31 rfl) (fc (tt_2 90 rfl) (fc (tt_2 91 rfl) (fc (tt_2 92 rfl) (fc (tt_2 93 rfl) (fc (tt_4 32 rfl) (fc (tt_4 33 rfl) (fc (tt_4 34 rfl) (fc (tt_4 35 rfl) (fc (tt_2 94 rfl) (fc (tt_2 95 rfl) (fc (tt_2 96 rfl) (fc (tt_2 97 rfl) (fc (tt_2 98 rfl) (fc (tt_2 99 rfl) (fc (tt_2 100 rfl) (fc (tt_2 101 rfl) (fc (tt_2 102 rfl) (fc (tt_2 103 rfl) fn))))))))))))))))))))))))
set_option maxRecDepth 20000 in
theorem tin_18 : ∀ w ∈ wsL_law_r18, w ∈ lw_tbl := (fc (tt_2 104 rfl) (fc (tt_2 105 rfl) (fc (tt_2 106 rfl) (fc (tt_2 107 rfl) (fc (tt_2 108 rfl) (fc (tt_2 109 rfl) (fc (tt_2 111 rfl) (fc (tt_0 14 rfl) (fc (tt_2 112 rfl) (fc (tt_1 118 rfl) (fc (tt_2 113 rfl) (fc (tt_2 114 rfl) (fc (tt_2 115 rfl) (fc (tt_2 116 rfl) (fc (tt_2 117 rfl) (fc (tt_2 118 rfl) (fc (tt_2 119 rfl) (fc (tt_4 36 rfl) (fc (tt_4 37 rfl) (fc (tt_4 38 rfl) (fc (tt_4 39 rfl) (fc (tt_4 40 rfl) (fc (tt_4 42 rfl) (fc (tt_0 37 rfl) fn))))))))))))))))))))))))
set_option maxRecDepth 20000 in
theorem tin_19 : ∀ w ∈ wsL_law_r19, w ∈ lw_tbl := (fc (tt_4 43 rfl) (fc (tt_3 93 rfl) (fc (tt_4 44 rfl) (fc (tt_4 46 rfl) (fc (tt_0 38 rfl) (fc (tt_4 47 rfl) (fc (tt_2 120 rfl) (fc (tt_2 121 rfl) (fc (tt_2 122 rfl) (fc (tt_2 123 rfl) (fc (tt_2 124 rfl) (fc (tt_2 125 rfl) (fc (tt_2 126 rfl) (fc (tt_2 127 rfl) (fc (tt_2 128 rfl) (fc (tt_2 129 rfl) (fc (tt_2 130 rfl) (fc (tt_2 131 rfl) (fc (tt_1 98 rfl) (fc (tt_2 132 rfl) (fc (tt_2 133 rfl) (fc (tt_2 134 rfl) (fc (tt_2 135 rfl) (fc (tt_2 137 rfl) fn))))))))))))))))))))))))
set_option maxRecDepth 20000 in
theorem tin_20 : ∀ w ∈ wsL_law_r20, w ∈ lw_tbl := (fc (tt_0 15 rfl) (fc (tt_2 138 rfl) (fc (tt_2 139 rfl) (fc (tt_2 140 rfl) (fc (tt_2 141 rfl) (fc (tt_2 142 rfl) (fc (tt_2 143 rfl) (fc (tt_2 144 rfl) (fc (tt_2 145 rfl) (fc (tt_2 146 rfl) (fc (tt_2 147 rfl) (fc (tt_2 148 rfl) (fc (tt_2 149 rfl) (fc (tt_2 150 rfl) (fc (tt_2 151 rfl) (fc (tt_2 152 rfl) (fc (tt_2 153 rfl) (fc (tt_2 154 rfl) (fc (tt_2 155 rfl) (fc (tt_2 156 rfl) (fc (tt_2 157 rfl) (fc (tt_4 48 rfl) (fc (tt_4 49 rfl) (fc (tt_4 50 rfl) fn))))))))))))))))))))))))
set_option maxRecDepth 20000 in
theorem tin_21 : ∀ w ∈ wsL_law_r21, w ∈ lw_tbl := (fc (tt_4 51 rfl) (fc (tt_4 52 rfl) (fc (tt_4 54 rfl) (fc (tt_0 39 rfl) (fc (tt_4 55 rfl) (fc (tt_3 95 rfl) (fc (tt_4 56 rfl) (fc (tt_4 58 rfl) (fc (tt_0 40 rfl) (fc (tt_4 59 rfl) (fc (tt_4 60 rfl) (fc (tt_4 62 rfl) (fc (tt_0 41 rfl) (fc (tt_4 63 rfl) (fc (tt_4 64 rfl) (fc (tt_4 66 rfl) (fc (tt_0 42 rfl) (fc (tt_4 67 rfl) (fc (tt_4 68 rfl) (fc (tt_4 70 rfl) (fc (tt_0 43 rfl) (fc (tt_4 71 rfl) (fc (tt_2 158 rfl) (fc (tt_2 159 rfl) fn))))))))))))))))))))))))
set_option maxRecDepth 20000 in
theorem tin_22 : ∀ w ∈ wsL_law_r22, w ∈ lw_tbl := (fc (tt_2 160 rfl) (fc (tt_2 161 rfl) (fc (tt_2 162 rfl) (fc (tt_2 163 rfl) (fc (tt_2 164 rfl) (fc (tt_2 165 rfl) (fc (tt_2 166 rfl) (fc (tt_2 168 rfl) (fc (tt_0 16 rfl) (fc (tt_2 169 rfl) (fc (tt_2 170 rfl) (fc (tt_2 172 rfl) (fc (tt_0 17 rfl) (fc (tt_2 173 rfl) (fc (tt_2 174 rfl) (fc (tt_2 175 rfl) (fc (tt_2 176 rfl) (fc (tt_2 177 rfl) (fc (tt_4 72 rfl) (fc (tt_4 73 rfl) (fc (tt_4 74 rfl) (fc (tt_4 75 rfl) (fc (tt_2 178 rfl) (fc (tt_2 179 rfl) fn))))))))))))))))))))))))
set_option maxRecDepth 20000 in
theorem tin_23 : ∀ w ∈ wsL_law_r23, w ∈ lw_tbl := (fc (tt_2 180 rfl) (fc (tt_2 181 rfl) (fc (tt_2 182 rfl) (fc (tt_2 183 rfl) (fc (tt_2 184 rfl) (fc (tt_2 185 rfl) (fc (tt_2 186 rfl) (fc (tt_2 187 rfl) (fc (tt_4 76 rfl) (fc (tt_4 77 rfl) (fc (tt_4 78 rfl) (fc (tt_4 79 rfl) (fc (tt_4 80 rfl) (fc (tt_4 82 rfl) (fc (tt_0 44 rfl) (fc (tt_4 83 rfl) (fc (tt_2 188 rfl) (fc (tt_2 189 rfl) (fc (tt_2 190 rfl) (fc (tt_2 191 rfl) (fc (tt_4 84 rfl) (fc (tt_4 85 rfl) (fc (tt_4 86 rfl) (fc (tt_4 87 rfl) fn))))))))))))))))))))))))
set_option maxRecDepth 20000 in
theorem tin_24 : ∀ w ∈ wsL_law_r24, w ∈ lw_tbl := (fc (tt_2 192 rfl) (fc (tt_2 193 rfl) (fc (tt_2 194 rfl) (fc (tt_2 195 rfl) (fc (tt_2 196 rfl) (fc (tt_2 197 rfl) (fc (tt_2 198 rfl) (fc (tt_2 199 rfl) (fc (tt_2 200 rfl) (fc (tt_4 88 rfl) (fc (tt_4 89 rfl) (fc (tt_4 90 rfl) (fc (tt_4 91 rfl) (fc (tt_2 201 rfl) (fc (tt_2 202 rfl) (fc (tt_2 203 rfl) (fc (tt_2 204 rfl) (fc (tt_4 92 rfl) (fc (tt_4 93 rfl) (fc (tt_4 94 rfl) (fc (tt_4 95 rfl) (fc (tt_2 205 rfl) (fc (tt_2 206 rfl) (fc (tt_2 207 rfl) fn))))))))))))))))))))))))
set_option maxRecDepth 20000 in
theorem tin_25 : ∀ w ∈ wsL_law_r25, w ∈ lw_tbl := (fc (tt_2 208 rfl) (fc (tt_4 96 rfl) (fc (tt_4 97 rfl) (fc (tt_4 98 rfl) (fc (tt_4 99 rfl) (fc (tt_2 209 rfl) (fc (tt_2 210 rfl) (fc (tt_2 211 rfl) (fc (tt_2 212 rfl) (fc (tt_2 213 rfl) (fc (tt_2 215 rfl) (fc (tt_0 18 rfl) (fc (tt_2 216 rfl) (fc (tt_4 100 rfl) (fc (tt_4 101 rfl) (fc (tt_4 102 rfl) (fc (tt_4 103 rfl) (fc (tt_4 104 rfl) (fc (tt_4 106 rfl) (fc (tt_0 45 rfl) (fc (tt_4 107 rfl) (fc (tt_2 217 rfl) (fc (tt_2 218 rfl) (fc (tt_2 219 rfl) fn))))))))))))))))))))))))
set_option maxRecDepth 20000 in
theorem tin_26 : ∀ w ∈ wsL_law_r26, w ∈ lw_tbl := (fc (tt_2 220 rfl) (fc (tt_4 108 rfl) (fc (tt_4 109 rfl) (fc (tt_4 110 rfl) (fc (tt_4 111 rfl) (fc (tt_2 221 rfl) (fc (tt_2 222 rfl) (fc (tt_2 223 rfl) (fc (tt_2 224 rfl) (fc (tt_2 225 rfl) (fc (tt_2 226 rfl) (fc (tt_2 227 rfl) (fc (tt_2 228 rfl) (fc (tt_4 112 rfl) (fc (tt_4 113 rfl) (fc (tt_4 114 rfl) (fc (tt_4 115 rfl) (fc (tt_4 116 rfl) (fc (tt_4 117 rfl) (fc (tt_4 118 rfl) (fc (tt_4 119 rfl) (fc (tt_2 229 rfl) (fc (tt_2 230 rfl) (fc (tt_2 231 rfl) fn))))))))))))))))))))))))
set_option maxRecDepth 20000 in
theorem tin_27 : ∀ w ∈ wsL_law_r27, w ∈ lw_tbl := (fc (tt_2 232 rfl) (fc (tt_2 233 rfl) (fc (tt_2 234 rfl) (fc (tt_2 235 rfl) (fc (tt_2 236 rfl) (fc (tt_2 237 rfl) (fc (tt_4 120 rfl) (fc (tt_4 121 rfl) (fc (tt_4 122 rfl) (fc (tt_4 123 rfl) (fc (tt_2 238 rfl) (fc (tt_2 239 rfl) (fc (tt_3 0 rfl) (fc (tt_3 1 rfl) (fc (tt_1 114 rfl) (fc (tt_4 124 rfl) (fc (tt_4 125 rfl) (fc (tt_4 126 rfl) (fc (tt_4 127 rfl) (fc (tt_3 2 rfl) (fc (tt_3 3 rfl) (fc (tt_3 4 rfl) (fc (tt_3 5 rfl) (fc (tt_3 6 rfl) fn))))))))))))))))))))))))
set_option maxRecDepth 20000 in
theorem tin_28 : ∀ w ∈ wsL_law_r28, w ∈ lw_tbl := (fc (tt_3 7 rfl) (fc (tt_3 8 rfl) (fc (tt_3 9 rfl) (fc (tt_4 128 rfl) (fc (tt_4 129 rfl) (fc (tt_4 130 rfl) (fc (tt_4 131 rfl) (fc (tt_3 10 rfl) (fc (tt_3 11 rfl) (fc (tt_3 12 rfl) (fc (tt_3 13 rfl) (fc (tt_4 132 rfl) (fc (tt_4 133 rfl) (fc (tt_4 134 rfl) (fc (tt_4 135 rfl) (fc (tt_4 136 rfl) (fc (tt_4 138 rfl) (fc (tt_0 46 rfl) (fc (tt_4 139 rfl) (fc (tt_3 14 rfl) (fc (tt_3 15 rfl) (fc (tt_3 16 rfl) (fc (tt_3 17 rfl) (fc (tt_3 19 rfl) fn))))))))))))))))))))))))
set_option maxRecDepth 20000 in
theorem tin_29 : ∀ w ∈ wsL_law_r29, w ∈ lw_tbl := (fc (tt_3 18 rfl) (fc (tt_4 140 rfl) (fc (tt_4 141 rfl) (fc (tt_4 142 rfl) (fc (tt_4 143 rfl) (fc (tt_3 20 rfl) (fc (tt_3 21 rfl) (fc (tt_3 22 rfl) (fc (tt_3 23 rfl) (fc (tt_3 24 rfl) (fc (tt_3 26 rfl) (fc (tt_0 19 rfl) (fc (tt_3 27 rfl) (fc (tt_3 28 rfl) (fc (tt_3 30 rfl) (fc (tt_0 20 rfl) (fc (tt_3 31 rfl) (fc (tt_1 135 rfl) (fc (tt_3 32 rfl) (fc (tt_3 34 rfl) (fc (tt_0 21 rfl) (fc (tt_3 35 rfl) (fc (tt_3 36 rfl) (fc (tt_3 38 rfl) fn))))))))))))))))))))))))
set_option maxRecDepth 20000 in
theorem tin_30 : ∀ w ∈ wsL_law_r30, w ∈ lw_tbl := (fc (tt_0 22 rfl) (fc (tt_3 39 rfl) (fc (tt_4 144 rfl) (fc (tt_4 145 rfl) (fc (tt_4 146 rfl) (fc (tt_4 147 rfl) (fc (tt_4 148 rfl) (fc (tt_4 150 rfl) (fc (tt_0 47 rfl) (fc (tt_4 151 rfl) (fc (tt_3 68 rfl) (fc (tt_3 40 rfl) (fc (tt_3 41 rfl) (fc (tt_3 42 rfl) (fc (tt_3 43 rfl) (fc (tt_4 152 rfl) (fc (tt_4 153 rfl) (fc (tt_4 154 rfl) (fc (tt_4 155 rfl) (fc (tt_3 44 rfl) (fc (tt_3 45 rfl) (fc (tt_3 46 rfl) (fc (tt_3 47 rfl) (fc (tt_4 156 rfl) fn))))))))))))))))))))))))
set_option maxRecDepth 20000 in
theorem tin_31 : ∀ w ∈ wsL_law_r31, w ∈ lw_tbl := (fc (tt_4 157 rfl) (fc (tt_4 158 rfl) (fc (tt_4 159 rfl) (fc (tt_3 48 rfl) (fc (tt_3 49 rfl) (fc (tt_3 50 rfl) (fc (tt_3 51 rfl) (fc (tt_4 160 rfl) (fc (tt_4 161 rfl) (fc (tt_4 162 rfl) (fc (tt_4 163 rfl) (fc (tt_3 52 rfl) (fc (tt_3 53 rfl) (fc (tt_3 54 rfl) (fc (tt_3 55 rfl) (fc (tt_4 164 rfl) (fc (tt_4 165 rfl) (fc (tt_4 166 rfl) (fc (tt_4 167 rfl) (fc (tt_3 56 rfl) (fc (tt_3 57 rfl) (fc (tt_3 58 rfl) (fc (tt_3 59 rfl) (fc (tt_4 168 rfl) fn))))))))))))))))))))))))
set_option maxRecDepth 20000 in
theorem tin_32 : ∀ w ∈ wsL_law_r32, w ∈ lw_tbl := (fc (tt_4 169 rfl) (fc (tt_4 170 rfl) (fc (tt_4 171 rfl) fn)))
set_option maxRecDepth 20000 in
theorem tin_X0 : ∀ w ∈ wsX00, w ∈ lw_tbl := by
  show ∀ w ∈ [u_lay RX0 TX0 0, u_lay RX0 TX0 1, u_lay RX0 TX0 2], w ∈ lw_tbl
  exact (fc (tt_1 60 rfl) (fc (tt_1 62 rfl) (fc (tt_1 64 rfl) fn)))
set_option maxRecDepth 20000 in
theorem tin_X2 : ∀ w ∈ wsX20, w ∈ lw_tbl := by
  show ∀ w ∈ [u_lay RX2 TX2 0, u_lay RX2 TX2 1, u_lay RX2 TX2 2, u_lay RX2 TX2 3], w ∈ lw_tbl
  exact (fc (tt_1 46 rfl) (fc (tt_1 48 rfl) (fc (tt_1 50 rfl) (fc (tt_1 52 rfl) fn))))
set_option maxRecDepth 20000 in
theorem tin_X3 : ∀ w ∈ wsX30, w ∈ lw_tbl := by
  show ∀ w ∈ [u_lay RX3 TX3 0, u_lay RX3 TX3 1, u_lay RX3 TX3 2, u_lay RX3 TX3 3], w ∈ lw_tbl
  exact (fc (tt_1 81 rfl) (fc (tt_1 83 rfl) (fc (tt_1 85 rfl) (fc (tt_1 87 rfl) fn))))
set_option maxRecDepth 20000 in
theorem tin_X4 : ∀ w ∈ wsX40, w ∈ lw_tbl := by
  show ∀ w ∈ [u_lay RX4 TX4 0, u_lay RX4 TX4 1, u_lay RX4 TX4 2], w ∈ lw_tbl
  exact (fc (tt_1 99 rfl) (fc (tt_1 101 rfl) (fc (tt_1 103 rfl) fn)))
set_option maxRecDepth 20000 in
theorem tin_X5 : ∀ w ∈ wsX50, w ∈ lw_tbl := by
  show ∀ w ∈ [u_lay RX5 TX5 0, u_lay RX5 TX5 1, u_lay RX5 TX5 2], w ∈ lw_tbl
  exact (fc (tt_1 119 rfl) (fc (tt_1 121 rfl) (fc (tt_1 123 rfl) fn)))
set_option maxRecDepth 20000 in
theorem tin_X6 : ∀ w ∈ wsX60, w ∈ lw_tbl := by
  show ∀ w ∈ [u_lay RX6 TX6 0, u_lay RX6 TX6 1, u_lay RX6 TX6 2, u_lay RX6 TX6 3, u_lay RX6 TX6 4, u_lay RX6 TX6 5, u_lay RX6 TX6 6, u_lay RX6 TX6 7, u_lay RX6 TX6 8, u_lay RX6 TX6 9, u_lay RX6 TX6 10], w ∈ lw_tbl
  exact (fc (tt_1 137 rfl) (fc (tt_1 139 rfl) (fc (tt_1 141 rfl) (fc (tt_1 143 rfl) (fc (tt_1 145 rfl) (fc (tt_1 147 rfl) (fc (tt_1 149 rfl) (fc (tt_1 151 rfl) (fc (tt_1 153 rfl) (fc (tt_1 155 rfl) (fc (tt_1 157 rfl) fn)))))))))))
set_option maxRecDepth 20000 in
theorem tin_X7 : ∀ w ∈ wsX70, w ∈ lw_tbl := by
  show ∀ w ∈ [u_lay RX7 TX7 0, u_lay RX7 TX7 1, u_lay RX7 TX7 2, u_lay RX7 TX7 3, u_lay RX7 TX7 4, u_lay RX7 TX7 5, u_lay RX7 TX7 6, u_lay RX7 TX7 7, u_lay RX7 TX7 8, u_lay RX7 TX7 9, u_lay RX7 TX7 10, u_lay RX7 TX7 11, u_lay RX7 TX7 12, u_lay RX7 TX7 13, u_lay RX7 TX7 14, u_lay RX7 TX7 15, u_lay RX7 TX7 16, u_lay RX7 TX7 17, u_lay RX7 TX7 18, u_lay RX7 TX7 19, u_lay RX7 TX7 20, u_lay RX7 TX7 21, u_lay RX7 TX7 22, u_lay RX7 TX7 23, u_lay RX7 TX7 24, u_lay RX7 TX7 25, u_lay RX7 TX7 26, u_lay RX7 TX7 27, u_lay RX7 TX7 28, u_lay RX7 TX7 29, u_lay RX7 TX7 30, u_lay RX7 TX7 31, u_lay RX7 TX7 32, u_lay RX7 TX7 33, u_lay RX7 TX7 34], w ∈ lw_tbl
  exact (fc (tt_3 102 rfl) (fc (tt_3 104 rfl) (fc (tt_3 106 rfl) (fc (tt_3 108 rfl) (fc (tt_3 110 rfl) (fc (tt_3 112 rfl) (fc (tt_3 114 rfl) (fc (tt_3 116 rfl) (fc (tt_3 118 rfl) (fc (tt_3 120 rfl) (fc (tt_3 122 rfl) (fc (tt_3 124 rfl) (fc (tt_3 126 rfl) (fc (tt_3 128 rfl) (fc (tt_3 130 rfl) (fc (tt_3 132 rfl) (fc (tt_3 134 rfl) (fc (tt_3 136 rfl) (fc (tt_3 138 rfl) (fc (tt_3 140 rfl) (fc (tt_3 142 rfl) (fc (tt_3 144 rfl) (fc (tt_3 146 rfl) (fc (tt_3 148 rfl) (fc (tt_3 150 rfl) (fc (tt_3 152 rfl) (fc (tt_3 154 rfl) (fc (tt_3 156 rfl) (fc (tt_3 158 rfl) (fc (tt_3 160 rfl) (fc (tt_3 162 rfl) (fc (tt_3 164 rfl) (fc (tt_3 166 rfl) (fc (tt_3 168 rfl) (fc (tt_3 170 rfl) fn)))))))))))))))))))))))))))))))))))
theorem law_in : ∀ w ∈ wsL_law, w ∈ lw_tbl := by
  intro w h
  simp only [wsL_law, List.mem_append, List.not_mem_nil, or_false, or_assoc] at h
  rcases h with h | h | h | h | h | h | h | h | h | h | h | h | h | h | h | h | h | h | h | h | h | h | h | h | h | h | h | h | h | h | h | h | h | h | h | h | h | h | h
  · exact tin_1 w h
  · exact tin_2 w h
  · exact tin_3 w h
  · exact tin_4 w h
  · exact tin_5 w h
  · exact tin_6 w h
  · exact tin_7 w h
  · exact tin_8 w h
  · exact tin_9 w h
  · exact tin_10 w h
  · exact tin_11 w h
  · exact tin_12 w h
  · exact tin_13 w h
  · exact tin_14 w h
  · exact tin_15 w h
  · exact tin_16 w h
  · exact tin_17 w h
  · exact tin_18 w h
  · exact tin_19 w h
  · exact tin_20 w h
  · exact tin_21 w h
  · exact tin_22 w h
  · exact tin_23 w h
  · exact tin_24 w h
  · exact tin_25 w h
  · exact tin_26 w h
  · exact tin_27 w h
  · exact tin_28 w h
  · exact tin_29 w h
  · exact tin_30 w h
  · exact tin_31 w h
  · exact tin_32 w h
  · exact tin_X6 w h
  · exact tin_X7 w h
  · exact tin_X0 w h
  · exact tin_X3 w h
  · exact tin_X4 w h
  · exact tin_X5 w h
  · exact tin_X2 w h
theorem tz_1 : Cond.laysStatic "MacroKeys$Line" "FIRST" "[I" ∈ lw_tbl := tt_2 47 rfl
theorem tz_2 : Cond.initialized "MacroKeys$Line" ∈ lw_tbl := tt_1 10 rfl
theorem tn_0 : Cond.methodLinkNest RX6 11 yX0_init "MacroKeys" ∈ lw_tbl := tt_1 21 rfl
theorem tn_1 : Cond.methodLinkNest RX0 11 yX2_init "MacroKeys" ∈ lw_tbl := tt_1 28 rfl
theorem tn_2 : Cond.methodLinkNest RX6 20 yX3_init "MacroKeys" ∈ lw_tbl := tt_1 69 rfl
theorem tn_3 : Cond.methodLinkNest RX3 11 yX2_init "MacroKeys" ∈ lw_tbl := tt_1 74 rfl
theorem tn_4 : Cond.methodLinkNest RX6 27 yX4_init "MacroKeys" ∈ lw_tbl := tt_1 92 rfl
theorem tn_5 : Cond.methodLinkNest RX6 34 yX5_init "MacroKeys" ∈ lw_tbl := tt_1 109 rfl
theorem tn_6 : Cond.methodLinkNest RX6 107 yX0_pressesOf "MacroKeys" ∈ lw_tbl := tt_2 12 rfl
theorem tn_7 : Cond.methodLinkNest RX6 121 yX0_effectOf "MacroKeys" ∈ lw_tbl := tt_2 61 rfl
theorem to_Macro : Cond.arrayOver (.object "MacroKeys$Macro") ∈ lw_tbl := tt_1 26 rfl
theorem to_Sheet : Cond.arrayOver (.object "MacroKeys$Sheet") ∈ lw_tbl := tt_1 107 rfl
