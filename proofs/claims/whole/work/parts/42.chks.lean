/-! every instruction of every method, checked against its bytes by program -/
def q_chkm (j : Nat) : Bool := (List.range (q_P j).1.length).all (fun pc => match (q_P j).1[pc]? with
  | some i => q_ck j pc i
  | none => true)
theorem q_chA0 : ∀ j, j < 8 → q_chkm (0 + j) = true := by decide +kernel
theorem q_chA8 : ∀ j, j < 8 → q_chkm (8 + j) = true := by decide +kernel
theorem q_chA16 : ∀ j, j < 8 → q_chkm (16 + j) = true := by decide +kernel
theorem q_chA24 : ∀ j, j < 8 → q_chkm (24 + j) = true := by decide +kernel
theorem q_chA32 : ∀ j, j < 8 → q_chkm (32 + j) = true := by decide +kernel
theorem q_chA40 : ∀ j, j < 8 → q_chkm (40 + j) = true := by decide +kernel
theorem q_chA48 : ∀ j, j < 8 → q_chkm (48 + j) = true := by decide +kernel
theorem q_chA56 : ∀ j, j < 8 → q_chkm (56 + j) = true := by decide +kernel
theorem q_chA64 : ∀ j, j < 8 → q_chkm (64 + j) = true := by decide +kernel
theorem q_chA72 : ∀ j, j < 8 → q_chkm (72 + j) = true := by decide +kernel
theorem q_chA80 : ∀ j, j < 8 → q_chkm (80 + j) = true := by decide +kernel
theorem q_chA88 : ∀ j, j < 8 → q_chkm (88 + j) = true := by decide +kernel
theorem q_chA96 : ∀ j, j < 8 → q_chkm (96 + j) = true := by decide +kernel
theorem q_chA104 : ∀ j, j < 8 → q_chkm (104 + j) = true := by decide +kernel
theorem q_chA112 : ∀ j, j < 8 → q_chkm (112 + j) = true := by decide +kernel
theorem q_chA120 : ∀ j, j < 8 → q_chkm (120 + j) = true := by decide +kernel
theorem q_chA128 : ∀ j, j < 8 → q_chkm (128 + j) = true := by decide +kernel
theorem q_chA136 : ∀ j, j < 8 → q_chkm (136 + j) = true := by decide +kernel
theorem q_chA144 : ∀ j, j < 8 → q_chkm (144 + j) = true := by decide +kernel
theorem q_chA152 : ∀ j, j < 8 → q_chkm (152 + j) = true := by decide +kernel
theorem q_chA160 : ∀ j, j < 8 → q_chkm (160 + j) = true := by decide +kernel
theorem q_chA168 : ∀ j, j < 8 → q_chkm (168 + j) = true := by decide +kernel
theorem q_chA176 : ∀ j, j < 8 → q_chkm (176 + j) = true := by decide +kernel
theorem q_chA184 : ∀ j, j < 8 → q_chkm (184 + j) = true := by decide +kernel
theorem q_chA192 : ∀ j, j < 8 → q_chkm (192 + j) = true := by decide +kernel
theorem q_chA200 : ∀ j, j < 8 → q_chkm (200 + j) = true := by decide +kernel
theorem q_chA208 : ∀ j, j < 8 → q_chkm (208 + j) = true := by decide +kernel
theorem q_chA216 : ∀ j, j < 8 → q_chkm (216 + j) = true := by decide +kernel
theorem q_chA224 : ∀ j, j < 8 → q_chkm (224 + j) = true := by decide +kernel
theorem q_chA232 : ∀ j, j < 8 → q_chkm (232 + j) = true := by decide +kernel
theorem q_chA240 : ∀ j, j < 8 → q_chkm (240 + j) = true := by decide +kernel
theorem q_chA248 : ∀ j, j < 8 → q_chkm (248 + j) = true := by decide +kernel
theorem q_chA256 : ∀ j, j < 8 → q_chkm (256 + j) = true := by decide +kernel
theorem q_chA264 : ∀ j, j < 8 → q_chkm (264 + j) = true := by decide +kernel
theorem q_chA272 : ∀ j, j < 8 → q_chkm (272 + j) = true := by decide +kernel
theorem q_chA280 : ∀ j, j < 8 → q_chkm (280 + j) = true := by decide +kernel
theorem q_chA288 : ∀ j, j < 8 → q_chkm (288 + j) = true := by decide +kernel
theorem q_chall : ∀ j, j < 296 → q_chkm j = true := by
  intro j hj
  by_cases h0 : j < 8
  · have := q_chA0 (j - 0) (by omega)
    rwa [show 0 + (j - 0) = j by omega] at this
  by_cases h8 : j < 16
  · have := q_chA8 (j - 8) (by omega)
    rwa [show 8 + (j - 8) = j by omega] at this
  by_cases h16 : j < 24
  · have := q_chA16 (j - 16) (by omega)
    rwa [show 16 + (j - 16) = j by omega] at this
  by_cases h24 : j < 32
  · have := q_chA24 (j - 24) (by omega)
    rwa [show 24 + (j - 24) = j by omega] at this
  by_cases h32 : j < 40
  · have := q_chA32 (j - 32) (by omega)
    rwa [show 32 + (j - 32) = j by omega] at this
  by_cases h40 : j < 48
  · have := q_chA40 (j - 40) (by omega)
    rwa [show 40 + (j - 40) = j by omega] at this
  by_cases h48 : j < 56
  · have := q_chA48 (j - 48) (by omega)
    rwa [show 48 + (j - 48) = j by omega] at this
  by_cases h56 : j < 64
  · have := q_chA56 (j - 56) (by omega)
    rwa [show 56 + (j - 56) = j by omega] at this
  by_cases h64 : j < 72
  · have := q_chA64 (j - 64) (by omega)
    rwa [show 64 + (j - 64) = j by omega] at this
  by_cases h72 : j < 80
  · have := q_chA72 (j - 72) (by omega)
    rwa [show 72 + (j - 72) = j by omega] at this
  by_cases h80 : j < 88
  · have := q_chA80 (j - 80) (by omega)
    rwa [show 80 + (j - 80) = j by omega] at this
  by_cases h88 : j < 96
  · have := q_chA88 (j - 88) (by omega)
    rwa [show 88 + (j - 88) = j by omega] at this
  by_cases h96 : j < 104
  · have := q_chA96 (j - 96) (by omega)
    rwa [show 96 + (j - 96) = j by omega] at this
  by_cases h104 : j < 112
  · have := q_chA104 (j - 104) (by omega)
    rwa [show 104 + (j - 104) = j by omega] at this
  by_cases h112 : j < 120
  · have := q_chA112 (j - 112) (by omega)
    rwa [show 112 + (j - 112) = j by omega] at this
  by_cases h120 : j < 128
  · have := q_chA120 (j - 120) (by omega)
    rwa [show 120 + (j - 120) = j by omega] at this
  by_cases h128 : j < 136
  · have := q_chA128 (j - 128) (by omega)
    rwa [show 128 + (j - 128) = j by omega] at this
  by_cases h136 : j < 144
  · have := q_chA136 (j - 136) (by omega)
    rwa [show 136 + (j - 136) = j by omega] at this
  by_cases h144 : j < 152
  · have := q_chA144 (j - 144) (by omega)
    rwa [show 144 + (j - 144) = j by omega] at this
  by_cases h152 : j < 160
  · have := q_chA152 (j - 152) (by omega)
    rwa [show 152 + (j - 152) = j by omega] at this
  by_cases h160 : j < 168
  · have := q_chA160 (j - 160) (by omega)
    rwa [show 160 + (j - 160) = j by omega] at this
  by_cases h168 : j < 176
  · have := q_chA168 (j - 168) (by omega)
    rwa [show 168 + (j - 168) = j by omega] at this
  by_cases h176 : j < 184
  · have := q_chA176 (j - 176) (by omega)
    rwa [show 176 + (j - 176) = j by omega] at this
  by_cases h184 : j < 192
  · have := q_chA184 (j - 184) (by omega)
    rwa [show 184 + (j - 184) = j by omega] at this
  by_cases h192 : j < 200
  · have := q_chA192 (j - 192) (by omega)
    rwa [show 192 + (j - 192) = j by omega] at this
  by_cases h200 : j < 208
  · have := q_chA200 (j - 200) (by omega)
    rwa [show 200 + (j - 200) = j by omega] at this
  by_cases h208 : j < 216
  · have := q_chA208 (j - 208) (by omega)
    rwa [show 208 + (j - 208) = j by omega] at this
  by_cases h216 : j < 224
  · have := q_chA216 (j - 216) (by omega)
    rwa [show 216 + (j - 216) = j by omega] at this
  by_cases h224 : j < 232
  · have := q_chA224 (j - 224) (by omega)
    rwa [show 224 + (j - 224) = j by omega] at this
  by_cases h232 : j < 240
  · have := q_chA232 (j - 232) (by omega)
    rwa [show 232 + (j - 232) = j by omega] at this
  by_cases h240 : j < 248
  · have := q_chA240 (j - 240) (by omega)
    rwa [show 240 + (j - 240) = j by omega] at this
  by_cases h248 : j < 256
  · have := q_chA248 (j - 248) (by omega)
    rwa [show 248 + (j - 248) = j by omega] at this
  by_cases h256 : j < 264
  · have := q_chA256 (j - 256) (by omega)
    rwa [show 256 + (j - 256) = j by omega] at this
  by_cases h264 : j < 272
  · have := q_chA264 (j - 264) (by omega)
    rwa [show 264 + (j - 264) = j by omega] at this
  by_cases h272 : j < 280
  · have := q_chA272 (j - 272) (by omega)
    rwa [show 272 + (j - 272) = j by omega] at this
  by_cases h280 : j < 288
  · have := q_chA280 (j - 280) (by omega)
    rwa [show 280 + (j - 280) = j by omega] at this
  by_cases h288 : j < 296
  · have := q_chA288 (j - 288) (by omega)
    rwa [show 288 + (j - 288) = j by omega] at this
  omega
