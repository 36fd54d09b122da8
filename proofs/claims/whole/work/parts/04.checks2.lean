def nw_ckr (bytes : ByteArray) (cd : List (List (Option Instr))) (b : Nat) : Bool := (List.range 16).all fun r => match (cd.getD b []).getD r none with
  | none => true
  | some i => nw_ck bytes (16 * b + r) i
theorem nw_ckL0 : nw_ckr code nw_cd118 0 = true := by decide +kernel
theorem nw_ckL1 : nw_ckr code nw_cd118 1 = true := by decide +kernel
theorem nw_ckL2 : nw_ckr code nw_cd118 2 = true := by decide +kernel
theorem nw_ckL3 : nw_ckr code nw_cd118 3 = true := by decide +kernel
theorem nw_ckL4 : nw_ckr code nw_cd118 4 = true := by decide +kernel
theorem nw_ckL5 : nw_ckr code nw_cd118 5 = true := by decide +kernel
theorem nw_ckL6 : nw_ckr code nw_cd118 6 = true := by decide +kernel
theorem nw_ckL7 : nw_ckr code nw_cd118 7 = true := by decide +kernel
theorem nw_ckL8 : nw_ckr code nw_cd118 8 = true := by decide +kernel
theorem nw_ckL9 : nw_ckr code nw_cd118 9 = true := by decide +kernel
theorem nw_ckL10 : nw_ckr code nw_cd118 10 = true := by decide +kernel
theorem nw_ckL11 : nw_ckr code nw_cd118 11 = true := by decide +kernel
theorem nw_ckL12 : nw_ckr code nw_cd118 12 = true := by decide +kernel
theorem nw_ckL13 : nw_ckr code nw_cd118 13 = true := by decide +kernel
theorem nw_ckL14 : nw_ckr code nw_cd118 14 = true := by decide +kernel
theorem nw_ckL15 : nw_ckr code nw_cd118 15 = true := by decide +kernel
theorem nw_ckL16 : nw_ckr code nw_cd118 16 = true := by decide +kernel
theorem nw_ckL17 : nw_ckr code nw_cd118 17 = true := by decide +kernel
theorem nw_ckL18 : nw_ckr code nw_cd118 18 = true := by decide +kernel
theorem nw_ckL19 : nw_ckr code nw_cd118 19 = true := by decide +kernel
theorem nw_ckL20 : nw_ckr code nw_cd118 20 = true := by decide +kernel
theorem nw_ckL21 : nw_ckr code nw_cd118 21 = true := by decide +kernel
theorem nw_ckL22 : nw_ckr code nw_cd118 22 = true := by decide +kernel
theorem nw_ckL23 : nw_ckr code nw_cd118 23 = true := by decide +kernel
theorem nw_ckL24 : nw_ckr code nw_cd118 24 = true := by decide +kernel
theorem nw_ckL25 : nw_ckr code nw_cd118 25 = true := by decide +kernel
theorem nw_ckL26 : nw_ckr code nw_cd118 26 = true := by decide +kernel
theorem nw_ckL27 : nw_ckr code nw_cd118 27 = true := by decide +kernel
theorem nw_ckL28 : nw_ckr code nw_cd118 28 = true := by decide +kernel
theorem nw_ckL29 : nw_ckr code nw_cd118 29 = true := by decide +kernel
theorem nw_ckL30 : nw_ckr code nw_cd118 30 = true := by decide +kernel
theorem nw_ckL31 : nw_ckr code nw_cd118 31 = true := by decide +kernel
theorem nw_ckL32 : nw_ckr code nw_cd118 32 = true := by decide +kernel
theorem nw_ckL33 : nw_ckr code nw_cd118 33 = true := by decide +kernel
theorem nw_ckL34 : nw_ckr code nw_cd118 34 = true := by decide +kernel
theorem nw_ckL35 : nw_ckr code nw_cd118 35 = true := by decide +kernel
theorem nw_ckL36 : nw_ckr code nw_cd118 36 = true := by decide +kernel
theorem nw_ckL37 : nw_ckr code nw_cd118 37 = true := by decide +kernel
theorem nw_ckL38 : nw_ckr code nw_cd118 38 = true := by decide +kernel
theorem nw_ckL39 : nw_ckr code nw_cd118 39 = true := by decide +kernel
theorem nw_ckL40 : nw_ckr code nw_cd118 40 = true := by decide +kernel
theorem nw_ckL41 : nw_ckr code nw_cd118 41 = true := by decide +kernel
theorem nw_ckL42 : nw_ckr code nw_cd118 42 = true := by decide +kernel
theorem nw_ckL43 : nw_ckr code nw_cd118 43 = true := by decide +kernel
theorem nw_ckL44 : nw_ckr code nw_cd118 44 = true := by decide +kernel
theorem nw_ckL45 : nw_ckr code nw_cd118 45 = true := by decide +kernel
theorem nw_ckL46 : nw_ckr code nw_cd118 46 = true := by decide +kernel
theorem nw_ckL47 : nw_ckr code nw_cd118 47 = true := by decide +kernel
theorem nw_ckL48 : nw_ckr code nw_cd118 48 = true := by decide +kernel
theorem nw_ckL49 : nw_ckr code nw_cd118 49 = true := by decide +kernel
theorem nw_ckL50 : nw_ckr code nw_cd118 50 = true := by decide +kernel
theorem nw_ckL51 : nw_ckr code nw_cd118 51 = true := by decide +kernel
theorem nw_ckL52 : nw_ckr code nw_cd118 52 = true := by decide +kernel
theorem nw_ckL53 : nw_ckr code nw_cd118 53 = true := by decide +kernel
theorem nw_ckL54 : nw_ckr code nw_cd118 54 = true := by decide +kernel
theorem nw_ckL55 : nw_ckr code nw_cd118 55 = true := by decide +kernel
theorem nw_ckL56 : nw_ckr code nw_cd118 56 = true := by decide +kernel
theorem nw_ck118 : nw_ckc code nw_cd118 = true := by
  refine List.all_eq_true.mpr fun b hb => ?_
  have hb : b < 57 := List.mem_range.mp hb
  match b, hb with
  | 0, _ => exact nw_ckL0
  | 1, _ => exact nw_ckL1
  | 2, _ => exact nw_ckL2
  | 3, _ => exact nw_ckL3
  | 4, _ => exact nw_ckL4
  | 5, _ => exact nw_ckL5
  | 6, _ => exact nw_ckL6
  | 7, _ => exact nw_ckL7
  | 8, _ => exact nw_ckL8
  | 9, _ => exact nw_ckL9
  | 10, _ => exact nw_ckL10
  | 11, _ => exact nw_ckL11
  | 12, _ => exact nw_ckL12
  | 13, _ => exact nw_ckL13
  | 14, _ => exact nw_ckL14
  | 15, _ => exact nw_ckL15
  | 16, _ => exact nw_ckL16
  | 17, _ => exact nw_ckL17
  | 18, _ => exact nw_ckL18
  | 19, _ => exact nw_ckL19
  | 20, _ => exact nw_ckL20
  | 21, _ => exact nw_ckL21
  | 22, _ => exact nw_ckL22
  | 23, _ => exact nw_ckL23
  | 24, _ => exact nw_ckL24
  | 25, _ => exact nw_ckL25
  | 26, _ => exact nw_ckL26
  | 27, _ => exact nw_ckL27
  | 28, _ => exact nw_ckL28
  | 29, _ => exact nw_ckL29
  | 30, _ => exact nw_ckL30
  | 31, _ => exact nw_ckL31
  | 32, _ => exact nw_ckL32
  | 33, _ => exact nw_ckL33
  | 34, _ => exact nw_ckL34
  | 35, _ => exact nw_ckL35
  | 36, _ => exact nw_ckL36
  | 37, _ => exact nw_ckL37
  | 38, _ => exact nw_ckL38
  | 39, _ => exact nw_ckL39
  | 40, _ => exact nw_ckL40
  | 41, _ => exact nw_ckL41
  | 42, _ => exact nw_ckL42
  | 43, _ => exact nw_ckL43
  | 44, _ => exact nw_ckL44
  | 45, _ => exact nw_ckL45
  | 46, _ => exact nw_ckL46
  | 47, _ => exact nw_ckL47
  | 48, _ => exact nw_ckL48
  | 49, _ => exact nw_ckL49
  | 50, _ => exact nw_ckL50
  | 51, _ => exact nw_ckL51
  | 52, _ => exact nw_ckL52
  | 53, _ => exact nw_ckL53
  | 54, _ => exact nw_ckL54
  | 55, _ => exact nw_ckL55
  | 56, _ => exact nw_ckL56
  | b + 57, hb => omega
theorem nw_code_ok {μ : Nat} {cd : List (List (Option Instr))} (h : nw_codes[μ]? = some cd) : nw_ckc (nw_B μ) cd = true := by
  have hl : μ < 119 := (List.getElem?_eq_some_iff.mp h).1
  match μ, hl, h with
  | 0, _, h => cases h; rfl
  | 1, _, h => cases h; exact nw_ck1
  | 2, _, h => cases h; exact nw_ck2
  | 3, _, h => cases h; exact nw_ck3
  | 4, _, h => cases h; exact nw_ck4
  | 5, _, h => cases h; exact nw_ck5
  | 6, _, h => cases h; exact nw_ck6
  | 7, _, h => cases h; exact nw_ck7
  | 8, _, h => cases h; rfl
  | 9, _, h => cases h; exact nw_ck9
  | 10, _, h => cases h; exact nw_ck10
  | 11, _, h => cases h; exact nw_ck11
  | 12, _, h => cases h; rfl
  | 13, _, h => cases h; exact nw_ck13
  | 14, _, h => cases h; exact nw_ck14
  | 15, _, h => cases h; exact nw_ck15
  | 16, _, h => cases h; exact nw_ck16
  | 17, _, h => cases h; exact nw_ck17
  | 18, _, h => cases h; exact nw_ck18
  | 19, _, h => cases h; exact nw_ck19
  | 20, _, h => cases h; exact nw_ck20
  | 21, _, h => cases h; exact nw_ck21
  | 22, _, h => cases h; rfl
  | 23, _, h => cases h; exact nw_ck23
  | 24, _, h => cases h; exact nw_ck24
  | 25, _, h => cases h; exact nw_ck25
  | 26, _, h => cases h; rfl
  | 27, _, h => cases h; exact nw_ck27
  | 28, _, h => cases h; exact nw_ck28
  | 29, _, h => cases h; exact nw_ck29
  | 30, _, h => cases h; exact nw_ck30
  | 31, _, h => cases h; exact nw_ck31
  | 32, _, h => cases h; exact nw_ck32
  | 33, _, h => cases h; exact nw_ck33
  | 34, _, h => cases h; exact nw_ck34
  | 35, _, h => cases h; exact nw_ck35
  | 36, _, h => cases h; exact nw_ck36
  | 37, _, h => cases h; exact nw_ck37
  | 38, _, h => cases h; exact nw_ck38
  | 39, _, h => cases h; exact nw_ck39
  | 40, _, h => cases h; exact nw_ck40
  | 41, _, h => cases h; exact nw_ck41
  | 42, _, h => cases h; exact nw_ck42
  | 43, _, h => cases h; exact nw_ck43
  | 44, _, h => cases h; exact nw_ck44
  | 45, _, h => cases h; exact nw_ck45
  | 46, _, h => cases h; exact nw_ck46
  | 47, _, h => cases h; exact nw_ck47
  | 48, _, h => cases h; exact nw_ck48
  | 49, _, h => cases h; exact nw_ck49
  | 50, _, h => cases h; exact nw_ck50
  | 51, _, h => cases h; exact nw_ck51
  | 52, _, h => cases h; exact nw_ck52
  | 53, _, h => cases h; exact nw_ck53
  | 54, _, h => cases h; exact nw_ck54
  | 55, _, h => cases h; exact nw_ck55
  | 56, _, h => cases h; exact nw_ck56
  | 57, _, h => cases h; exact nw_ck57
  | 58, _, h => cases h; exact nw_ck58
  | 59, _, h => cases h; exact nw_ck59
  | 60, _, h => cases h; exact nw_ck60
  | 61, _, h => cases h; exact nw_ck61
  | 62, _, h => cases h; exact nw_ck62
  | 63, _, h => cases h; exact nw_ck63
  | 64, _, h => cases h; exact nw_ck64
  | 65, _, h => cases h; rfl
  | 66, _, h => cases h; exact nw_ck66
  | 67, _, h => cases h; exact nw_ck67
  | 68, _, h => cases h; exact nw_ck68
  | 69, _, h => cases h; exact nw_ck69
  | 70, _, h => cases h; exact nw_ck70
  | 71, _, h => cases h; exact nw_ck71
  | 72, _, h => cases h; exact nw_ck72
  | 73, _, h => cases h; exact nw_ck73
  | 74, _, h => cases h; exact nw_ck74
  | 75, _, h => cases h; exact nw_ck75
  | 76, _, h => cases h; exact nw_ck76
  | 77, _, h => cases h; exact nw_ck77
  | 78, _, h => cases h; exact nw_ck78
  | 79, _, h => cases h; exact nw_ck79
  | 80, _, h => cases h; exact nw_ck80
  | 81, _, h => cases h; exact nw_ck81
  | 82, _, h => cases h; exact nw_ck82
  | 83, _, h => cases h; exact nw_ck83
  | 84, _, h => cases h; exact nw_ck84
  | 85, _, h => cases h; exact nw_ck85
  | 86, _, h => cases h; exact nw_ck86
  | 87, _, h => cases h; exact nw_ck87
  | 88, _, h => cases h; exact nw_ck88
  | 89, _, h => cases h; exact nw_ck89
  | 90, _, h => cases h; exact nw_ck90
  | 91, _, h => cases h; exact nw_ck91
  | 92, _, h => cases h; exact nw_ck92
  | 93, _, h => cases h; exact nw_ck93
  | 94, _, h => cases h; exact nw_ck94
  | 95, _, h => cases h; exact nw_ck95
  | 96, _, h => cases h; exact nw_ck96
  | 97, _, h => cases h; exact nw_ck97
  | 98, _, h => cases h; exact nw_ck98
  | 99, _, h => cases h; exact nw_ck99
  | 100, _, h => cases h; exact nw_ck100
  | 101, _, h => cases h; exact nw_ck101
  | 102, _, h => cases h; exact nw_ck102
  | 103, _, h => cases h; exact nw_ck103
  | 104, _, h => cases h; exact nw_ck104
  | 105, _, h => cases h; exact nw_ck105
  | 106, _, h => cases h; exact nw_ck106
  | 107, _, h => cases h; exact nw_ck107
  | 108, _, h => cases h; exact nw_ck108
  | 109, _, h => cases h; exact nw_ck109
  | 110, _, h => cases h; exact nw_ck110
  | 111, _, h => cases h; exact nw_ck111
  | 112, _, h => cases h; exact nw_ck112
  | 113, _, h => cases h; exact nw_ck113
  | 114, _, h => cases h; exact nw_ck114
  | 115, _, h => cases h; exact nw_ck115
  | 116, _, h => cases h; exact nw_ck116
  | 117, _, h => cases h; exact nw_ck117
  | 118, _, h => cases h; exact nw_ck118
  | μ + 119, hl, _ => omega
theorem nw_ok_of {w : Cond} (i : Nat) (h : lw_tbl[i]? = some w) (g : goodWord w = true) : w ∈ nw_tb := List.mem_filter.mpr ⟨List.mem_of_getElem? h, g⟩
