/-! what a program decides of the tables -/
def nw_ln : Instr → Nat
  | .bipush _ => 2
  | .sipush _ => 3
  | .ldc _ => 2
  | .ldc_w _ => 3
  | .iload _ => 2
  | .aload _ => 2
  | .istore _ => 2
  | .astore _ => 2
  | .iinc _ _ => 3
  | .goto _ => 3
  | .if_icmp _ _ => 3
  | .ifCond _ _ => 3
  | .getfield _ => 3
  | .putfield _ => 3
  | .invokevirtual _ => 3
  | .invokestatic _ => 3
  | _ => 1
def nw_jo (pc : Nat) : Instr → Bool
  | .goto o => decide (0 ≤ (pc : Int) + o)
  | .if_icmp _ o => decide (0 ≤ (pc : Int) + o)
  | .ifCond _ o => decide (0 ≤ (pc : Int) + o)
  | .tableswitch d _ _ offs => decide (0 ≤ (pc : Int) + d) && offs.toList.all (fun o => decide (0 ≤ (pc : Int) + o))
  | _ => true
def nw_isw : Instr → Bool
  | .tableswitch _ _ _ _ => true
  | _ => false
def nw_ck (bytes : ByteArray) (pc : Nat) (i : Instr) : Bool := match decode bytes pc with
  | .ok (i', n) => decide (i' = i) && (nw_isw i || Nat.beq n (nw_ln i)) && nw_jo pc i
  | _ => false
def nw_ckc (bytes : ByteArray) (cd : List (List (Option Instr))) : Bool := (List.range cd.length).all fun b => (List.range 16).all fun r => match (cd.getD b []).getD r none with
  | none => true
  | some i => nw_ck bytes (16 * b + r) i
theorem nw_ckc_sp {bytes : ByteArray} {cd : List (List (Option Instr))} (h : nw_ckc bytes cd = true) {pc : Nat} {i : Instr} (hf : nw_fe cd pc = some i) : nw_ck bytes pc i = true := by
  unfold nw_fe at hf
  have hb : pc / 16 < cd.length := by
    rcases Nat.lt_or_ge (pc / 16) cd.length with q | q
    · exact q
    · rw [show cd.getD (pc / 16) [] = [] from by simp [List.getD_eq_getElem?_getD, List.getElem?_eq_none q]] at hf
      simp at hf
  have h1 := List.all_eq_true.mp (List.all_eq_true.mp h (pc / 16) (List.mem_range.mpr hb)) (pc % 16) (List.mem_range.mpr (Nat.mod_lt _ (by decide)))
  rw [hf] at h1
  rw [show 16 * (pc / 16) + pc % 16 = pc from by omega] at h1
  exact h1

theorem nw_ck1 : nw_ckc cX0_has nw_cd1 = true := by decide +kernel
theorem nw_ck2 : nw_ckc cX0_hasCandidate nw_cd2 = true := by decide +kernel
theorem nw_ck3 : nw_ckc cX0_add nw_cd3 = true := by decide +kernel
theorem nw_ck4 : nw_ckc cX0_changeWorth nw_cd4 = true := by decide +kernel
theorem nw_ck5 : nw_ckc cX0_taken nw_cd5 = true := by decide +kernel
theorem nw_ck6 : nw_ckc cX0_read nw_cd6 = true := by decide +kernel
theorem nw_ck7 : nw_ckc cX0_numberOf nw_cd7 = true := by decide +kernel
theorem nw_ck9 : nw_ckc cX1_clear nw_cd9 = true := by decide +kernel
theorem nw_ck10 : nw_ckc cX1_put nw_cd10 = true := by decide +kernel
theorem nw_ck11 : nw_ckc cX1_at nw_cd11 = true := by decide +kernel
theorem nw_ck13 : nw_ckc cX2_has nw_cd13 = true := by decide +kernel
theorem nw_ck14 : nw_ckc cX2_sets nw_cd14 = true := by decide +kernel
theorem nw_ck15 : nw_ckc cX2_add nw_cd15 = true := by decide +kernel
theorem nw_ck16 : nw_ckc cX2_changeWeight nw_cd16 = true := by decide +kernel
theorem nw_ck17 : nw_ckc cX2_inMode nw_cd17 = true := by decide +kernel
theorem nw_ck18 : nw_ckc cX2_isCheaper nw_cd18 = true := by decide +kernel
theorem nw_ck19 : nw_ckc cX2_isKept nw_cd19 = true := by decide +kernel
theorem nw_ck20 : nw_ckc cX2_howMany nw_cd20 = true := by decide +kernel
theorem nw_ck21 : nw_ckc cX2_together nw_cd21 = true := by decide +kernel
theorem nw_ck23 : nw_ckc cX3_clear nw_cd23 = true := by decide +kernel
theorem nw_ck24 : nw_ckc cX3_see nw_cd24 = true := by decide +kernel
theorem nw_ck25 : nw_ckc cX3_lacksAgainst nw_cd25 = true := by decide +kernel
theorem nw_ck27 : nw_ckc cX4_choice nw_cd27 = true := by decide +kernel
theorem nw_ck28 : nw_ckc cX4_worth nw_cd28 = true := by decide +kernel
theorem nw_ck29 : nw_ckc cX4_rule nw_cd29 = true := by decide +kernel
theorem nw_ck30 : nw_ckc cX4_mode nw_cd30 = true := by decide +kernel
theorem nw_ck31 : nw_ckc cX4_weigh nw_cd31 = true := by decide +kernel
theorem nw_ck32 : nw_ckc cX4_told nw_cd32 = true := by decide +kernel
theorem nw_ck33 : nw_ckc cX4_count nw_cd33 = true := by decide +kernel
theorem nw_ck34 : nw_ckc cX4_best nw_cd34 = true := by decide +kernel
theorem nw_ck35 : nw_ckc cX4_pick nw_cd35 = true := by decide +kernel
theorem nw_ck36 : nw_ckc cX4_fixed nw_cd36 = true := by decide +kernel
theorem nw_ck37 : nw_ckc cX4_force nw_cd37 = true := by decide +kernel
theorem nw_ck38 : nw_ckc cX4_forced nw_cd38 = true := by decide +kernel
theorem nw_ck39 : nw_ckc cX4_avoid nw_cd39 = true := by decide +kernel
theorem nw_ck40 : nw_ckc cX4_raise nw_cd40 = true := by decide +kernel
theorem nw_ck41 : nw_ckc cX4_lower nw_cd41 = true := by decide +kernel
theorem nw_ck42 : nw_ckc cX4_needs nw_cd42 = true := by decide +kernel
theorem nw_ck43 : nw_ckc cX4_clash nw_cd43 = true := by decide +kernel
theorem nw_ck44 : nw_ckc cX4_clashAt nw_cd44 = true := by decide +kernel
theorem nw_ck45 : nw_ckc cX4_relaxAt nw_cd45 = true := by decide +kernel
theorem nw_ck46 : nw_ckc cX4_cost nw_cd46 = true := by decide +kernel
theorem nw_ck47 : nw_ckc cX4_price nw_cd47 = true := by decide +kernel
theorem nw_ck48 : nw_ckc cX4_breaks nw_cd48 = true := by decide +kernel
theorem nw_ck49 : nw_ckc cX4_score nw_cd49 = true := by decide +kernel
theorem nw_ck50 : nw_ckc cX4_forgetAll nw_cd50 = true := by decide +kernel
theorem nw_ck51 : nw_ckc cX4_isWeight nw_cd51 = true := by decide +kernel
theorem nw_ck52 : nw_ckc cX4_namesNoChoice nw_cd52 = true := by decide +kernel
theorem nw_ck53 : nw_ckc cX4_isWellTold nw_cd53 = true := by decide +kernel
theorem nw_ck54 : nw_ckc cX4_judgeFrom nw_cd54 = true := by decide +kernel
theorem nw_ck55 : nw_ckc cX4_planOf nw_cd55 = true := by decide +kernel
theorem nw_ck56 : nw_ckc cX4_scoreWith nw_cd56 = true := by decide +kernel
theorem nw_ck57 : nw_ckc cX4_lookAtAll nw_cd57 = true := by decide +kernel
theorem nw_ck58 : nw_ckc cX4_findWhole nw_cd58 = true := by decide +kernel
theorem nw_ck59 : nw_ckc cX4_findParts nw_cd59 = true := by decide +kernel
theorem nw_ck60 : nw_ckc cX4_findSets nw_cd60 = true := by decide +kernel
theorem nw_ck61 : nw_ckc cX4_findPossible nw_cd61 = true := by decide +kernel
theorem nw_ck62 : nw_ckc cX4_listSets nw_cd62 = true := by decide +kernel
theorem nw_ck63 : nw_ckc cX4_isClash nw_cd63 = true := by decide +kernel
theorem nw_ck64 : nw_ckc cX4_isRelaxation nw_cd64 = true := by decide +kernel
theorem nw_ck66 : nw_ckc cX5_in nw_cd66 = true := by decide +kernel
theorem nw_ck67 : nw_ckc cX5_isChoice nw_cd67 = true := by decide +kernel
theorem nw_ck68 : nw_ckc cX5_isCandidate nw_cd68 = true := by decide +kernel
theorem nw_ck69 : nw_ckc cX5_isRule nw_cd69 = true := by decide +kernel
theorem nw_ck70 : nw_ckc cX5_choice nw_cd70 = true := by decide +kernel
theorem nw_ck71 : nw_ckc cX5_worth nw_cd71 = true := by decide +kernel
theorem nw_ck72 : nw_ckc cX5_isRight nw_cd72 = true := by decide +kernel
theorem nw_ck73 : nw_ckc cX5_rule nw_cd73 = true := by decide +kernel
theorem nw_ck74 : nw_ckc cX5_mode nw_cd74 = true := by decide +kernel
theorem nw_ck75 : nw_ckc cX5_weigh nw_cd75 = true := by decide +kernel
theorem nw_ck76 : nw_ckc cX5_told nw_cd76 = true := by decide +kernel
theorem nw_ck77 : nw_ckc cX5_plans nw_cd77 = true := by decide +kernel
theorem nw_ck78 : nw_ckc cX5_lay nw_cd78 = true := by decide +kernel
theorem nw_ck79 : nw_ckc cX5_keeps nw_cd79 = true := by decide +kernel
theorem nw_ck80 : nw_ckc cX5_breaksNow nw_cd80 = true := by decide +kernel
theorem nw_ck81 : nw_ckc cX5_freshen nw_cd81 = true := by decide +kernel
theorem nw_ck82 : nw_ckc cX5_ofMode nw_cd82 = true := by decide +kernel
theorem nw_ck83 : nw_ckc cX5_costOf nw_cd83 = true := by decide +kernel
theorem nw_ck84 : nw_ckc cX5_takes nw_cd84 = true := by decide +kernel
theorem nw_ck85 : nw_ckc cX5_scoreNow nw_cd85 = true := by decide +kernel
theorem nw_ck86 : nw_ckc cX5_scoreOf nw_cd86 = true := by decide +kernel
theorem nw_ck87 : nw_ckc cX5_first nw_cd87 = true := by decide +kernel
theorem nw_ck88 : nw_ckc cX5_firstBest nw_cd88 = true := by decide +kernel
theorem nw_ck89 : nw_ckc cX5_findCan nw_cd89 = true := by decide +kernel
theorem nw_ck90 : nw_ckc cX5_isClash nw_cd90 = true := by decide +kernel
theorem nw_ck91 : nw_ckc cX5_isRelaxation nw_cd91 = true := by decide +kernel
theorem nw_ck92 : nw_ckc cX5_sizeOf nw_cd92 = true := by decide +kernel
theorem nw_ck93 : nw_ckc cX5_rankOf nw_cd93 = true := by decide +kernel
theorem nw_ck94 : nw_ckc cX5_manySets nw_cd94 = true := by decide +kernel
theorem nw_ck95 : nw_ckc cX5_setAt nw_cd95 = true := by decide +kernel
theorem nw_ck96 : nw_ckc cX5_standing nw_cd96 = true := by decide +kernel
theorem nw_ck97 : nw_ckc cX5_count nw_cd97 = true := by decide +kernel
theorem nw_ck98 : nw_ckc cX5_best nw_cd98 = true := by decide +kernel
theorem nw_ck99 : nw_ckc cX5_pick nw_cd99 = true := by decide +kernel
theorem nw_ck100 : nw_ckc cX5_fixed nw_cd100 = true := by decide +kernel
theorem nw_ck101 : nw_ckc cX5_force nw_cd101 = true := by decide +kernel
theorem nw_ck102 : nw_ckc cX5_forced nw_cd102 = true := by decide +kernel
theorem nw_ck103 : nw_ckc cX5_avoid nw_cd103 = true := by decide +kernel
theorem nw_ck104 : nw_ckc cX5_raise nw_cd104 = true := by decide +kernel
theorem nw_ck105 : nw_ckc cX5_lower nw_cd105 = true := by decide +kernel
theorem nw_ck106 : nw_ckc cX5_needs nw_cd106 = true := by decide +kernel
theorem nw_ck107 : nw_ckc cX5_clash nw_cd107 = true := by decide +kernel
theorem nw_ck108 : nw_ckc cX5_clashAt nw_cd108 = true := by decide +kernel
theorem nw_ck109 : nw_ckc cX5_relaxAt nw_cd109 = true := by decide +kernel
theorem nw_ck110 : nw_ckc cX5_cost nw_cd110 = true := by decide +kernel
theorem nw_ck111 : nw_ckc cX5_price nw_cd111 = true := by decide +kernel
theorem nw_ck112 : nw_ckc cX5_isPlan nw_cd112 = true := by decide +kernel
theorem nw_ck113 : nw_ckc cX5_breaks nw_cd113 = true := by decide +kernel
theorem nw_ck114 : nw_ckc cX5_score nw_cd114 = true := by decide +kernel
theorem nw_ck115 : nw_ckc cJ6_bitCount_0f7a4 nw_cd115 = true := by decide +kernel
theorem nw_ck116 : nw_ckc cJ9_abs_0f7a4 nw_cd116 = true := by decide +kernel
theorem nw_ck117 : nw_ckc cJ9_max_7cf53 nw_cd117 = true := by decide +kernel
