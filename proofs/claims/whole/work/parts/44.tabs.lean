/-! all words together: q_Tabs -/
theorem q_all_of {p : Nat → Bool} {n : Nat} (h : (List.range n).all p = true) {j : Nat} (hj : j < n) : p j = true := List.all_eq_true.mp h j (List.mem_range.mpr hj)
theorem q_mok_ok : ∀ j, j < q_nm → q_mok j = true := by
  intro j hj
  unfold q_mok
  rw [q_all_of q_w_mok1 hj, q_all_of q_w_mok2 hj, q_all_of q_w_mok3 hj, q_all_of q_w_mok4 hj, q_all_of q_w_mok5 hj]
  rfl
theorem q_sub_map {α : Type} {l : List α} {f : α → Jvm.Cond} (h : (l.map f).isSublist tables_1 = true) {a : α} (ha : a ∈ l) : f a ∈ tables_1 := q_subm h (List.mem_map.mpr ⟨a, ha, rfl⟩)
theorem q_ow_cls {j : Nat} (hj : j < q_nm) : q_ow (q_oi j) = (q_mn j).cls := of_decide_eq_true (q_all_of q_w_mok5 hj)
theorem q_ini_o : ∀ o, o < 22 → Jvm.Cond.initialized (q_ow o) ∈ tables_1 := by
  have hm : ∀ o, o < 22 → o ∈ q_ol.filter (fun o => decide (o < 22)) := by decide +kernel
  intro o ho
  exact q_sub_map q_w_ol (hm o ho)
theorem q_oi_lt : ∀ j, j < q_nm → q_oi j < 22 := by decide +kernel
theorem q_ini {j : Nat} (hj : j < q_nm) : Jvm.Cond.initialized (q_mn j).cls ∈ q_Ts := by
  rw [← q_ow_cls hj]
  exact q_inTs (q_ini_o _ (q_oi_lt j hj)) rfl
/-- every entry of the calls' table: what its kind asks of its callee -/
def q_cek (e : Nat × Nat × Nat × Nat) : Bool := decide (e.2.2.2 < q_nm) && (match e.2.2.1 with
  | 0 => q_jt.contains e.2.2.2
  | 1 => q_jl.contains e.2.2.2 && (q_js.contains e.2.2.2 || q_jp.contains e.2.2.2)
  | 2 => q_jl.contains e.2.2.2
  | 3 => q_jt.contains e.2.2.2
  | 4 => q_jl.contains e.2.2.2 && q_k45.contains e.2.2.2 && (q_kq4.contains e.2.2.2 || q_k4p.contains e.2.2.2)
  | 5 => q_jl.contains e.2.2.2 && q_k45.contains e.2.2.2 && q_oi e.2.2.2 == 13 && e.1 == 12
  | _ => false)
theorem q_cek_ok : q_ct.all q_cek = true := by decide +kernel
theorem q_sup : Jvm.Cond.superclass (q_ow 12) (q_ow 13) ∈ tables_1 := q_sub_map (l := [()]) (f := fun _ => Jvm.Cond.superclass (q_ow 12) (q_ow 13)) (by decide +kernel) List.mem_cons_self
theorem q_sel_mem {j : Nat} (h : (q_js.contains j || q_jp.contains j) = true) : Jvm.Cond.selects (q_mn j).cls (q_mn j) (q_mn j) ∈ q_Ts := by
  rw [Bool.or_eq_true] at h
  rcases h with h | h
  · exact q_inTs (q_sub_map q_w_js (List.contains_iff_mem.mp h)) rfl
  · exact List.mem_append_right _ (List.mem_filter.mpr ⟨List.mem_append_left _ (q_subm q_w_jp (List.mem_map.mpr ⟨j, List.contains_iff_mem.mp h, rfl⟩)), rfl⟩)
theorem q_cw_ok : ∀ q ∈ q_ct, ∀ w ∈ q_cw q, w ∈ q_Ts := by
  intro q hq w hw
  have hk := List.all_eq_true.mp q_cek_ok q hq
  unfold q_cek at hk
  rw [Bool.and_eq_true, decide_eq_true_eq] at hk
  obtain ⟨hlt, hk⟩ := hk
  have hml : ¬ q.2.2.1 = 3 → Jvm.Cond.methodLink (q_ow q.1) q.2.1 (q_mn q.2.2.2) ∈ q_Ts := fun h3 => q_inTs (q_sub_map q_w_ml (a := q) (List.mem_filter.mpr ⟨hq, by simpa using h3⟩)) rfl
  have hin := q_ini hlt
  unfold q_cw at hw
  split at hw
  · rename_i hkd
    rw [hkd] at hk
    simp only [List.mem_cons, List.not_mem_nil, or_false] at hw
    rcases hw with rfl | rfl | rfl
    · exact hml (by rw [hkd]; decide)
    · exact q_inTs (q_sub_map q_w_jt (List.contains_iff_mem.mp hk)) rfl
    · exact hin
  · rename_i hkd
    rw [hkd] at hk
    have hk : (q_jl.contains q.2.2.2 && (q_js.contains q.2.2.2 || q_jp.contains q.2.2.2)) = true := hk
    rw [Bool.and_eq_true] at hk
    simp only [List.mem_cons, List.not_mem_nil, or_false] at hw
    rcases hw with rfl | rfl | rfl | rfl
    · exact hml (by rw [hkd]; decide)
    · exact q_inTs (q_sub_map q_w_jl (List.contains_iff_mem.mp hk.1)) rfl
    · exact q_sel_mem hk.2
    · exact hin
  · rename_i hkd
    rw [hkd] at hk
    simp only [List.mem_cons, List.not_mem_nil, or_false] at hw
    rcases hw with rfl | rfl | rfl
    · exact hml (by rw [hkd]; decide)
    · exact q_inTs (q_sub_map q_w_jl (List.contains_iff_mem.mp hk)) rfl
    · exact hin
  · rename_i hkd
    rw [hkd] at hk
    simp only [List.mem_cons, List.not_mem_nil, or_false] at hw
    rcases hw with rfl | rfl
    · exact q_inTs (q_sub_map q_w_jt (List.contains_iff_mem.mp hk)) rfl
    · exact hin
  · rename_i hkd
    rw [hkd] at hk
    have hk : (q_jl.contains q.2.2.2 && q_k45.contains q.2.2.2 && (q_kq4.contains q.2.2.2 || q_k4p.contains q.2.2.2)) = true := hk
    rw [Bool.and_eq_true, Bool.and_eq_true, Bool.or_eq_true] at hk
    simp only [List.mem_cons, List.not_mem_nil, or_false] at hw
    rcases hw with rfl | rfl | rfl | rfl | rfl
    · exact hml (by rw [hkd]; decide)
    · exact q_inTs (q_sub_map q_w_k45 (List.contains_iff_mem.mp hk.1.2)) rfl
    · rcases hk.2 with h | h
      · exact q_inTs (q_sub_map q_w_k4 (List.contains_iff_mem.mp h)) rfl
      · exact List.mem_append_left _ (List.mem_map.mpr ⟨_, List.contains_iff_mem.mp h, rfl⟩)
    · exact q_inTs (q_sub_map q_w_jl (List.contains_iff_mem.mp hk.1.1)) rfl
    · exact hin
  · rename_i n0 n1 n2 n3 n4
    have hk5 : q.2.2.1 = 5 := by
      match hq5 : q.2.2.1 with
      | 5 => rfl
      | 0 => exact absurd hq5 n0
      | 1 => exact absurd hq5 n1
      | 2 => exact absurd hq5 n2
      | 3 => exact absurd hq5 n3
      | 4 => exact absurd hq5 n4
      | n + 6 => rw [hq5] at hk; cases hk
    rw [hk5] at hk
    have hk : (q_jl.contains q.2.2.2 && q_k45.contains q.2.2.2 && q_oi q.2.2.2 == 13 && q.1 == 12) = true := hk
    simp only [Bool.and_eq_true, beq_iff_eq] at hk
    obtain ⟨⟨⟨k1, k2⟩, k3⟩, k4⟩ := hk
    simp only [List.mem_cons, List.not_mem_nil, or_false] at hw
    rcases hw with rfl | rfl | rfl | rfl | rfl
    · exact hml (by rw [hk5]; decide)
    · exact q_inTs (q_sub_map q_w_k45 (List.contains_iff_mem.mp k2)) rfl
    · rw [k4, ← q_ow_cls hlt, k3]
      exact q_inTs q_sup rfl
    · exact q_inTs (q_sub_map q_w_jl (List.contains_iff_mem.mp k1)) rfl
    · exact hin
theorem q_co_ok : ∀ j, j < q_nm → Jvm.Cond.code (q_mn j) (q_mb j) (q_ml j) (q_mr j) ∈ q_Ts := by
  intro j hj
  refine q_inTs ?_ rfl
  revert hj
  match j with
  | 0 => exact fun _ => q_co0
  | 1 => exact fun _ => q_co1
  | 2 => exact fun _ => q_co2
  | 3 => exact fun _ => q_co3
  | 4 => exact fun _ => q_co4
  | 5 => exact fun _ => q_co5
  | 6 => exact fun _ => q_co6
  | 7 => exact fun _ => q_co7
  | 8 => exact fun _ => q_co8
  | 9 => exact fun _ => q_co9
  | 10 => exact fun _ => q_co10
  | 11 => exact fun _ => q_co11
  | 12 => exact fun _ => q_co12
  | 13 => exact fun _ => q_co13
  | 14 => exact fun _ => q_co14
  | 15 => exact fun _ => q_co15
  | 16 => exact fun _ => q_co16
  | 17 => exact fun _ => q_co17
  | 18 => exact fun _ => q_co18
  | 19 => exact fun _ => q_co19
  | 20 => exact fun _ => q_co20
  | 21 => exact fun _ => q_co21
  | 22 => exact fun _ => q_co22
  | 23 => exact fun _ => q_co23
  | 24 => exact fun _ => q_co24
  | 25 => exact fun _ => q_co25
  | 26 => exact fun _ => q_co26
  | 27 => exact fun _ => q_co27
  | 28 => exact fun _ => q_co28
  | 29 => exact fun _ => q_co29
  | 30 => exact fun _ => q_co30
  | 31 => exact fun _ => q_co31
  | 32 => exact fun _ => q_co32
  | 33 => exact fun _ => q_co33
  | 34 => exact fun _ => q_co34
  | 35 => exact fun _ => q_co35
  | 36 => exact fun _ => q_co36
  | 37 => exact fun _ => q_co37
  | 38 => exact fun _ => q_co38
  | 39 => exact fun _ => q_co39
  | 40 => exact fun _ => q_co40
  | 41 => exact fun _ => q_co41
  | 42 => exact fun _ => q_co42
  | 43 => exact fun _ => q_co43
  | 44 => exact fun _ => q_co44
  | 45 => exact fun _ => q_co45
  | 46 => exact fun _ => q_co46
  | 47 => exact fun _ => q_co47
  | 48 => exact fun _ => q_co48
  | 49 => exact fun _ => q_co49
  | 50 => exact fun _ => q_co50
  | 51 => exact fun _ => q_co51
  | 52 => exact fun _ => q_co52
  | 53 => exact fun _ => q_co53
  | 54 => exact fun _ => q_co54
  | 55 => exact fun _ => q_co55
  | 56 => exact fun _ => q_co56
  | 57 => exact fun _ => q_co57
  | 58 => exact fun _ => q_co58
  | 59 => exact fun _ => q_co59
  | 60 => exact fun _ => q_co60
  | 61 => exact fun _ => q_co61
  | 62 => exact fun _ => q_co62
  | 63 => exact fun _ => q_co63
  | 64 => exact fun _ => q_co64
  | 65 => exact fun _ => q_co65
  | 66 => exact fun _ => q_co66
  | 67 => exact fun _ => q_co67
  | 68 => exact fun _ => q_co68
  | 69 => exact fun _ => q_co69
  | 70 => exact fun _ => q_co70
  | 71 => exact fun _ => q_co71
  | 72 => exact fun _ => q_co72
  | 73 => exact fun _ => q_co73
  | 74 => exact fun _ => q_co74
  | 75 => exact fun _ => q_co75
  | 76 => exact fun _ => q_co76
  | 77 => exact fun _ => q_co77
  | 78 => exact fun _ => q_co78
  | 79 => exact fun _ => q_co79
  | 80 => exact fun _ => q_co80
  | 81 => exact fun _ => q_co81
  | 82 => exact fun _ => q_co82
  | 83 => exact fun _ => q_co83
  | 84 => exact fun _ => q_co84
  | 85 => exact fun _ => q_co85
  | 86 => exact fun _ => q_co86
  | 87 => exact fun _ => q_co87
  | 88 => exact fun _ => q_co88
  | 89 => exact fun _ => q_co89
  | 90 => exact fun _ => q_co90
  | 91 => exact fun _ => q_co91
  | 92 => exact fun _ => q_co92
  | 93 => exact fun _ => q_co93
  | 94 => exact fun _ => q_co94
  | 95 => exact fun _ => q_co95
  | 96 => exact fun _ => q_co96
  | 97 => exact fun _ => q_co97
  | 98 => exact fun _ => q_co98
  | 99 => exact fun _ => q_co99
  | 100 => exact fun _ => q_co100
  | 101 => exact fun _ => q_co101
  | 102 => exact fun _ => q_co102
  | 103 => exact fun _ => q_co103
  | 104 => exact fun _ => q_co104
  | 105 => exact fun _ => q_co105
  | 106 => exact fun _ => q_co106
  | 107 => exact fun _ => q_co107
  | 108 => exact fun _ => q_co108
  | 109 => exact fun _ => q_co109
  | 110 => exact fun _ => q_co110
  | 111 => exact fun _ => q_co111
  | 112 => exact fun _ => q_co112
  | 113 => exact fun _ => q_co113
  | 114 => exact fun _ => q_co114
  | 115 => exact fun _ => q_co115
  | 116 => exact fun _ => q_co116
  | 117 => exact fun _ => q_co117
  | 118 => exact fun _ => q_co118
  | 119 => exact fun _ => q_co119
  | 120 => exact fun _ => q_co120
  | 121 => exact fun _ => q_co121
  | 122 => exact fun _ => q_co122
  | 123 => exact fun _ => q_co123
  | 124 => exact fun _ => q_co124
  | 125 => exact fun _ => q_co125
  | 126 => exact fun _ => q_co126
  | 127 => exact fun _ => q_co127
  | 128 => exact fun _ => q_co128
  | 129 => exact fun _ => q_co129
  | 130 => exact fun _ => q_co130
  | 131 => exact fun _ => q_co131
  | 132 => exact fun _ => q_co132
  | 133 => exact fun _ => q_co133
  | 134 => exact fun _ => q_co134
  | 135 => exact fun _ => q_co135
  | 136 => exact fun _ => q_co136
  | 137 => exact fun _ => q_co137
  | 138 => exact fun _ => q_co138
  | 139 => exact fun _ => q_co139
  | 140 => exact fun _ => q_co140
  | 141 => exact fun _ => q_co141
  | 142 => exact fun _ => q_co142
  | 143 => exact fun _ => q_co143
  | 144 => exact fun _ => q_co144
  | 145 => exact fun _ => q_co145
  | 146 => exact fun _ => q_co146
  | 147 => exact fun _ => q_co147
  | 148 => exact fun _ => q_co148
  | 149 => exact fun _ => q_co149
  | 150 => exact fun _ => q_co150
  | 151 => exact fun _ => q_co151
  | 152 => exact fun _ => q_co152
  | 153 => exact fun _ => q_co153
  | 154 => exact fun _ => q_co154
  | 155 => exact fun _ => q_co155
  | 156 => exact fun _ => q_co156
  | 157 => exact fun _ => q_co157
  | 158 => exact fun _ => q_co158
  | 159 => exact fun _ => q_co159
  | 160 => exact fun _ => q_co160
  | 161 => exact fun _ => q_co161
  | 162 => exact fun _ => q_co162
  | 163 => exact fun _ => q_co163
  | 164 => exact fun _ => q_co164
  | 165 => exact fun _ => q_co165
  | 166 => exact fun _ => q_co166
  | 167 => exact fun _ => q_co167
  | 168 => exact fun _ => q_co168
  | 169 => exact fun _ => q_co169
  | 170 => exact fun _ => q_co170
  | 171 => exact fun _ => q_co171
  | 172 => exact fun _ => q_co172
  | 173 => exact fun _ => q_co173
  | 174 => exact fun _ => q_co174
  | 175 => exact fun _ => q_co175
  | 176 => exact fun _ => q_co176
  | 177 => exact fun _ => q_co177
  | 178 => exact fun _ => q_co178
  | 179 => exact fun _ => q_co179
  | 180 => exact fun _ => q_co180
  | 181 => exact fun _ => q_co181
  | 182 => exact fun _ => q_co182
  | 183 => exact fun _ => q_co183
  | 184 => exact fun _ => q_co184
  | 185 => exact fun _ => q_co185
  | 186 => exact fun _ => q_co186
  | 187 => exact fun _ => q_co187
  | 188 => exact fun _ => q_co188
  | 189 => exact fun _ => q_co189
  | 190 => exact fun _ => q_co190
  | 191 => exact fun _ => q_co191
  | 192 => exact fun _ => q_co192
  | 193 => exact fun _ => q_co193
  | 194 => exact fun _ => q_co194
  | 195 => exact fun _ => q_co195
  | 196 => exact fun _ => q_co196
  | 197 => exact fun _ => q_co197
  | 198 => exact fun _ => q_co198
  | 199 => exact fun _ => q_co199
  | 200 => exact fun _ => q_co200
  | 201 => exact fun _ => q_co201
  | 202 => exact fun _ => q_co202
  | 203 => exact fun _ => q_co203
  | 204 => exact fun _ => q_co204
  | 205 => exact fun _ => q_co205
  | 206 => exact fun _ => q_co206
  | 207 => exact fun _ => q_co207
  | 208 => exact fun _ => q_co208
  | 209 => exact fun _ => q_co209
  | 210 => exact fun _ => q_co210
  | 211 => exact fun _ => q_co211
  | 212 => exact fun _ => q_co212
  | 213 => exact fun _ => q_co213
  | 214 => exact fun _ => q_co214
  | 215 => exact fun _ => q_co215
  | 216 => exact fun _ => q_co216
  | 217 => exact fun _ => q_co217
  | 218 => exact fun _ => q_co218
  | 219 => exact fun _ => q_co219
  | 220 => exact fun _ => q_co220
  | 221 => exact fun _ => q_co221
  | 222 => exact fun _ => q_co222
  | 223 => exact fun _ => q_co223
  | 224 => exact fun _ => q_co224
  | 225 => exact fun _ => q_co225
  | 226 => exact fun _ => q_co226
  | 227 => exact fun _ => q_co227
  | 228 => exact fun _ => q_co228
  | 229 => exact fun _ => q_co229
  | 230 => exact fun _ => q_co230
  | 231 => exact fun _ => q_co231
  | 232 => exact fun _ => q_co232
  | 233 => exact fun _ => q_co233
  | 234 => exact fun _ => q_co234
  | 235 => exact fun _ => q_co235
  | 236 => exact fun _ => q_co236
  | 237 => exact fun _ => q_co237
  | 238 => exact fun _ => q_co238
  | 239 => exact fun _ => q_co239
  | 240 => exact fun _ => q_co240
  | 241 => exact fun _ => q_co241
  | 242 => exact fun _ => q_co242
  | 243 => exact fun _ => q_co243
  | 244 => exact fun _ => q_co244
  | 245 => exact fun _ => q_co245
  | 246 => exact fun _ => q_co246
  | 247 => exact fun _ => q_co247
  | 248 => exact fun _ => q_co248
  | 249 => exact fun _ => q_co249
  | 250 => exact fun _ => q_co250
  | 251 => exact fun _ => q_co251
  | 252 => exact fun _ => q_co252
  | 253 => exact fun _ => q_co253
  | 254 => exact fun _ => q_co254
  | 255 => exact fun _ => q_co255
  | 256 => exact fun _ => q_co256
  | 257 => exact fun _ => q_co257
  | 258 => exact fun _ => q_co258
  | 259 => exact fun _ => q_co259
  | 260 => exact fun _ => q_co260
  | 261 => exact fun _ => q_co261
  | 262 => exact fun _ => q_co262
  | 263 => exact fun _ => q_co263
  | 264 => exact fun _ => q_co264
  | 265 => exact fun _ => q_co265
  | 266 => exact fun _ => q_co266
  | 267 => exact fun _ => q_co267
  | 268 => exact fun _ => q_co268
  | 269 => exact fun _ => q_co269
  | 270 => exact fun _ => q_co270
  | 271 => exact fun _ => q_co271
  | 272 => exact fun _ => q_co272
  | 273 => exact fun _ => q_co273
  | 274 => exact fun _ => q_co274
  | 275 => exact fun _ => q_co275
  | 276 => exact fun _ => q_co276
  | 277 => exact fun _ => q_co277
  | 278 => exact fun _ => q_co278
  | 279 => exact fun _ => q_co279
  | 280 => exact fun _ => q_co280
  | 281 => exact fun _ => q_co281
  | 282 => exact fun _ => q_co282
  | 283 => exact fun _ => q_co283
  | 284 => exact fun _ => q_co284
  | 285 => exact fun _ => q_co285
  | 286 => exact fun _ => q_co286
  | 287 => exact fun _ => q_co287
  | 288 => exact fun _ => q_co288
  | 289 => exact fun _ => q_co289
  | 290 => exact fun _ => q_co290
  | 291 => exact fun _ => q_co291
  | 292 => exact fun _ => q_co292
  | 293 => exact fun _ => q_co293
  | 294 => exact fun _ => q_co294
  | 295 => exact fun _ => q_co295
  | n + 296 => exact fun h => absurd h (by unfold q_nm; omega)
theorem q_lay_ok : ∀ (k : Nat) (q : vw_C), q_cls[k]? = some q → ∀ w ∈ u_ws q.1 q.2.1 q.2.2, w ∈ q_Ts := by
  have key : ∀ k, k < 14 → ∀ f, f < (q_clq k).2.2 → (q_lf.contains (k, f) || q_ln.contains (k, f)) = true := by decide +kernel
  intro k q hq w hw
  have hk : k < 14 := by have := (List.getElem?_eq_some_iff.mp hq).1; rw [q_cls_len] at this; exact this
  have e := q_clq_at hk
  rw [hq] at e
  cases e
  obtain ⟨f, hf, rfl⟩ := List.mem_map.mp hw
  have hg : goodWord (u_lay (q_clq k).1 (q_clq k).2.1 f) = true := by unfold u_lay; split <;> rfl
  have h := key k hk f (List.mem_range.mp hf)
  rw [Bool.or_eq_true] at h
  rcases h with h | h
  · exact q_inTs (q_sub_map q_w_lf (a := (k, f)) (List.contains_iff_mem.mp h)) hg
  · exact q_inTs (q_sub_map q_w_ln (a := (k, f)) (List.contains_iff_mem.mp h)) hg
theorem q_bw_ok : ∀ k, k < 14 → ∀ w ∈ q_bw k, w ∈ q_Ts := by
  have k1 : ∀ k, k < 14 → q_bl.contains k = true := by decide +kernel
  have k2 : ∀ k, k < 14 → (List.range 22).any (fun o => decide (q_ow o = (q_clq k).1)) = true := by decide +kernel
  intro k hk w hw
  unfold q_bw at hw
  simp only [List.mem_cons, List.not_mem_nil, or_false] at hw
  rcases hw with rfl | rfl
  · exact q_inTs (q_sub_map q_w_bl (List.contains_iff_mem.mp (k1 k hk))) rfl
  · obtain ⟨o, ho, e⟩ := List.any_eq_true.mp (k2 k hk)
    rw [← of_decide_eq_true e]
    exact q_inTs (q_ini_o o (List.mem_range.mp ho)) rfl
theorem q_w_misc : ([Jvm.Cond.code objectInit ⟨#[0xb1]⟩ 1 none] : List Jvm.Cond).all (fun w => goodWord w) = true := by decide +kernel
theorem q_w_oi : ([()].map (fun _ => Jvm.Cond.instanceMethod objectInit)).isSublist tables_1 = true := by decide +kernel
theorem q_w_nat : ([()].map (fun _ => Jvm.Cond.native arraycopyName)).isSublist tables_1 = true := by decide +kernel
theorem q_w_sta : ([()].map (fun _ => Jvm.Cond.static arraycopyName)).isSublist tables_1 = true := by decide +kernel
theorem q_w_sys : ([()].map (fun _ => Jvm.Cond.initialized "java/lang/System")).isSublist tables_1 = true := by decide +kernel
theorem q_w_ac : ([FieldType.int, .byte, .long].all (fun ty => [ty].map (fun t => Jvm.Cond.arrayClass t) |>.isSublist tables_1)) = true := by decide +kernel
theorem q_w_ob : Jvm.Cond.code objectInit ⟨#[0xb1]⟩ 1 none ∈ tables_1 := q_tb1 (List.mem_of_getElem? (i := 33) rfl)
theorem q_Tabs_ok : q_Tabs q_Ts := by
  refine ⟨⟨?_, q_co_ok, q_cw_ok, q_mok_ok⟩, fun q hq => q_inTs (q_sub_map q_w_ft hq) rfl, q_lay_ok, fun q hq => q_inTs (q_sub_map q_w_kt hq) rfl, fun q hq => q_inTs (q_sub_map q_w_ku hq) rfl, fun q hq => q_inTs (q_sub_map q_w_nt hq) rfl, q_bw_ok, ?_, fun q hq => q_inTs (q_sub_map q_w_at hq) rfl, ?_, fun q hq => q_inTs (q_sub_map q_w_ot hq) rfl, ?_, fun q hq h0 => q_inTs (q_sub_map q_w_st (a := q) (List.mem_filter.mpr ⟨hq, by simpa using h0⟩)) rfl, ?_⟩
  · intro w hw
    rcases List.mem_append.mp hw with h | h
    · obtain ⟨j, -, rfl⟩ := List.mem_map.mp h
      exact Or.inl rfl
    · exact good_of_word (List.mem_filter.mp h).2
  · intro ty hty
    have : ty ∈ [FieldType.int, .byte, .long] := by
      simp only [List.mem_cons, List.not_mem_nil, or_false] at hty ⊢
      rcases hty with rfl | rfl | rfl <;> simp
    exact q_inTs (q_sub_map (List.all_eq_true.mp q_w_ac ty this) List.mem_cons_self) rfl
  · intro w hw
    simp only [List.mem_cons, List.not_mem_nil, or_false] at hw
    rcases hw with rfl | rfl | rfl
    · exact q_inTs (q_sub_map q_w_nat (a := ()) List.mem_cons_self) rfl
    · exact q_inTs (q_sub_map q_w_sta (a := ()) List.mem_cons_self) rfl
    · exact q_inTs (q_sub_map q_w_sys (a := ()) List.mem_cons_self) rfl
  · intro w hw
    simp only [List.mem_cons, List.not_mem_nil, or_false] at hw
    rcases hw with rfl | rfl
    · exact q_inTs (q_sub_map q_w_oi (a := ()) List.mem_cons_self) rfl
    · exact q_inTs q_w_ob rfl
  · decide +kernel
