/-! the constructors: what they make -/
theorem nk_good {w : Cond} (h : w ∈ nw_tb) : GoodIn nw_tb (w :: nw_tb) := by
  intro v hv
  have hw2 : v ∈ nw_tb := by
    rcases List.mem_cons.mp hv with rfl | hv
    · exact h
    · exact hv
  exact ⟨hw2, good_of_word (List.mem_filter.mp hw2).2⟩
theorem nk_w51 : Cond.instanceMethod objectInit ∈ nw_tb := nw_ok_of 51 (by decide +kernel) (by decide +kernel)
theorem nk_w52 : Cond.code objectInit ⟨#[0xb1]⟩ 1 none ∈ nw_tb := nw_ok_of 52 (by decide +kernel) (by decide +kernel)
theorem nk_w57 : Cond.code ⟨"WhyNots$Choices", "<init>", "()V"⟩ prog_2_method_1_code 1 none ∈ nw_tb := nw_ok_of 57 (by decide +kernel) (by decide +kernel)
theorem nk_w58 : Cond.methodLink "WhyNots$Choices" 3 objectInit ∈ nw_tb := nw_ok_of 58 (by decide +kernel) (by decide +kernel)
theorem nk_w59 : Cond.fieldLink "WhyNots$Choices" 9 "WhyNots$Choices" "size" "I" ∈ nw_tb := nw_ok_of 59 (by decide +kernel) (by decide +kernel)
theorem nk_w61 : Cond.fieldLink "WhyNots$Choices" 15 "WhyNots$Choices" "plans" "I" ∈ nw_tb := nw_ok_of 61 (by decide +kernel) (by decide +kernel)
theorem nk_w63 : Cond.fieldLink "WhyNots$Choices" 18 "WhyNots$Choices" "candidates" "[I" ∈ nw_tb := nw_ok_of 63 (by decide +kernel) (by decide +kernel)
theorem nk_w64 : Cond.fieldLink "WhyNots$Choices" 22 "WhyNots$Choices" "steps" "[I" ∈ nw_tb := nw_ok_of 64 (by decide +kernel) (by decide +kernel)
theorem nk_w65 : Cond.fieldLink "WhyNots$Choices" 25 "WhyNots$Choices" "worths" "[I" ∈ nw_tb := nw_ok_of 65 (by decide +kernel) (by decide +kernel)
theorem nk_w66 : Cond.fieldLink "WhyNots$Choices" 28 "WhyNots$Choices" "sums" "[I" ∈ nw_tb := nw_ok_of 66 (by decide +kernel) (by decide +kernel)
theorem nk_w81 : Cond.arrayClass .int ∈ nw_tb := nw_ok_of 81 (by decide +kernel) (by decide +kernel)
theorem nk_w86 : Cond.code ⟨"WhyNots$Rules", "<init>", "()V"⟩ prog_4_method_1_code 1 none ∈ nw_tb := nw_ok_of 86 (by decide +kernel) (by decide +kernel)
theorem nk_w87 : Cond.methodLink "WhyNots$Rules" 3 objectInit ∈ nw_tb := nw_ok_of 87 (by decide +kernel) (by decide +kernel)
theorem nk_w88 : Cond.fieldLink "WhyNots$Rules" 9 "WhyNots$Rules" "size" "I" ∈ nw_tb := nw_ok_of 88 (by decide +kernel) (by decide +kernel)
theorem nk_w90 : Cond.fieldLink "WhyNots$Rules" 15 "WhyNots$Rules" "kinds" "[I" ∈ nw_tb := nw_ok_of 90 (by decide +kernel) (by decide +kernel)
theorem nk_w92 : Cond.fieldLink "WhyNots$Rules" 19 "WhyNots$Rules" "as" "[I" ∈ nw_tb := nw_ok_of 92 (by decide +kernel) (by decide +kernel)
theorem nk_w94 : Cond.fieldLink "WhyNots$Rules" 22 "WhyNots$Rules" "bs" "[I" ∈ nw_tb := nw_ok_of 94 (by decide +kernel) (by decide +kernel)
theorem nk_w96 : Cond.fieldLink "WhyNots$Rules" 25 "WhyNots$Rules" "ns" "[I" ∈ nw_tb := nw_ok_of 96 (by decide +kernel) (by decide +kernel)
theorem nk_w98 : Cond.fieldLink "WhyNots$Rules" 28 "WhyNots$Rules" "weights" "[I" ∈ nw_tb := nw_ok_of 98 (by decide +kernel) (by decide +kernel)
theorem nk_w100 : Cond.fieldLink "WhyNots$Rules" 31 "WhyNots$Rules" "modes" "[I" ∈ nw_tb := nw_ok_of 100 (by decide +kernel) (by decide +kernel)
theorem nk_w102 : Cond.fieldLink "WhyNots$Rules" 34 "WhyNots$Rules" "costs" "[I" ∈ nw_tb := nw_ok_of 102 (by decide +kernel) (by decide +kernel)
theorem nk_w125 : Cond.code ⟨"WhyNots$Top", "<init>", "()V"⟩ prog_5_method_1_code 1 none ∈ nw_tb := nw_ok_of 125 (by decide +kernel) (by decide +kernel)
theorem nk_w126 : Cond.methodLink "WhyNots$Top" 1 objectInit ∈ nw_tb := nw_ok_of 126 (by decide +kernel) (by decide +kernel)
theorem nk_w127 : Cond.fieldLink "WhyNots$Top" 7 "WhyNots$Top" "seen" "I" ∈ nw_tb := nw_ok_of 127 (by decide +kernel) (by decide +kernel)
theorem nk_w129 : Cond.fieldLink "WhyNots$Top" 13 "WhyNots$Top" "greatest" "I" ∈ nw_tb := nw_ok_of 129 (by decide +kernel) (by decide +kernel)
theorem nk_w131 : Cond.fieldLink "WhyNots$Top" 16 "WhyNots$Top" "first" "I" ∈ nw_tb := nw_ok_of 131 (by decide +kernel) (by decide +kernel)
theorem nk_w133 : Cond.fieldLink "WhyNots$Top" 19 "WhyNots$Top" "alike" "I" ∈ nw_tb := nw_ok_of 133 (by decide +kernel) (by decide +kernel)
theorem nk_w148 : Cond.code ⟨"WhyNots$Listing", "<init>", "()V"⟩ prog_3_method_1_code 1 none ∈ nw_tb := nw_ok_of 148 (by decide +kernel) (by decide +kernel)
theorem nk_w149 : Cond.methodLink "WhyNots$Listing" 3 objectInit ∈ nw_tb := nw_ok_of 149 (by decide +kernel) (by decide +kernel)
theorem nk_w150 : Cond.fieldLink "WhyNots$Listing" 9 "WhyNots$Listing" "size" "I" ∈ nw_tb := nw_ok_of 150 (by decide +kernel) (by decide +kernel)
theorem nk_w152 : Cond.fieldLink "WhyNots$Listing" 15 "WhyNots$Listing" "members" "[I" ∈ nw_tb := nw_ok_of 152 (by decide +kernel) (by decide +kernel)
theorem nk_w153 : Cond.fieldLink "WhyNots$Listing" 19 "WhyNots$Listing" "keys" "[I" ∈ nw_tb := nw_ok_of 153 (by decide +kernel) (by decide +kernel)
theorem nk_w161 : Cond.arrayClass .boolean ∈ nw_tb := nw_ok_of 161 (by decide +kernel) (by decide +kernel)
theorem nk_w460 : Cond.code ⟨"WhyNotsModel", "<init>", "()V"⟩ prog_7_method_1_code 1 none ∈ nw_tb := nw_ok_of 460 (by decide +kernel) (by decide +kernel)
theorem nk_w461 : Cond.methodLink "WhyNotsModel" 1 objectInit ∈ nw_tb := nw_ok_of 461 (by decide +kernel) (by decide +kernel)
theorem nk_w463 : Cond.fieldLink "WhyNotsModel" 7 "WhyNotsModel" "many" "[I" ∈ nw_tb := nw_ok_of 463 (by decide +kernel) (by decide +kernel)
theorem nk_w464 : Cond.fieldLink "WhyNotsModel" 13 "WhyNotsModel" "worths" "[I" ∈ nw_tb := nw_ok_of 464 (by decide +kernel) (by decide +kernel)
theorem nk_w466 : Cond.fieldLink "WhyNotsModel" 16 "WhyNotsModel" "kinds" "[I" ∈ nw_tb := nw_ok_of 466 (by decide +kernel) (by decide +kernel)
theorem nk_w467 : Cond.fieldLink "WhyNotsModel" 19 "WhyNotsModel" "as" "[I" ∈ nw_tb := nw_ok_of 467 (by decide +kernel) (by decide +kernel)
theorem nk_w468 : Cond.fieldLink "WhyNotsModel" 22 "WhyNotsModel" "bs" "[I" ∈ nw_tb := nw_ok_of 468 (by decide +kernel) (by decide +kernel)
theorem nk_w469 : Cond.fieldLink "WhyNotsModel" 25 "WhyNotsModel" "ns" "[I" ∈ nw_tb := nw_ok_of 469 (by decide +kernel) (by decide +kernel)
theorem nk_w470 : Cond.fieldLink "WhyNotsModel" 28 "WhyNotsModel" "weights" "[I" ∈ nw_tb := nw_ok_of 470 (by decide +kernel) (by decide +kernel)
theorem nk_w471 : Cond.fieldLink "WhyNotsModel" 31 "WhyNotsModel" "modes" "[I" ∈ nw_tb := nw_ok_of 471 (by decide +kernel) (by decide +kernel)
theorem nk_w472 : Cond.fieldLink "WhyNotsModel" 34 "WhyNotsModel" "broken" "[I" ∈ nw_tb := nw_ok_of 472 (by decide +kernel) (by decide +kernel)
theorem nk_w473 : Cond.fieldLink "WhyNotsModel" 44 "WhyNotsModel" "isFresh" "Z" ∈ nw_tb := nw_ok_of 473 (by decide +kernel) (by decide +kernel)
theorem nk_w474 : Cond.fieldLink "WhyNotsModel" 37 "WhyNotsModel" "can" "[Z" ∈ nw_tb := nw_ok_of 474 (by decide +kernel) (by decide +kernel)
theorem nk_w475 : Cond.fieldLink "WhyNotsModel" 41 "WhyNotsModel" "x" "[I" ∈ nw_tb := nw_ok_of 475 (by decide +kernel) (by decide +kernel)
theorem nk_dX0_0 : decode cX0_init 0 = .ok (.aload_n 0, 1) := by decide +kernel
theorem nk_dX0_1 : decode cX0_init 1 = .ok (.invokespecial 3, 3) := by decide +kernel
theorem nk_dX0_4 : decode cX0_init 4 = .ok (.aload_n 0, 1) := by decide +kernel
theorem nk_dX0_5 : decode cX0_init 5 = .ok (.iconst 0, 1) := by decide +kernel
theorem nk_dX0_6 : decode cX0_init 6 = .ok (.putfield 9, 3) := by decide +kernel
theorem nk_dX0_9 : decode cX0_init 9 = .ok (.aload_n 0, 1) := by decide +kernel
theorem nk_dX0_10 : decode cX0_init 10 = .ok (.iconst 1, 1) := by decide +kernel
theorem nk_dX0_11 : decode cX0_init 11 = .ok (.putfield 15, 3) := by decide +kernel
theorem nk_dX0_14 : decode cX0_init 14 = .ok (.aload_n 0, 1) := by decide +kernel
theorem nk_dX0_15 : decode cX0_init 15 = .ok (.iconst 5, 1) := by decide +kernel
theorem nk_dX0_16 : decode cX0_init 16 = .ok (.newarray .int, 2) := by decide +kernel
theorem nk_dX0_18 : decode cX0_init 18 = .ok (.putfield 18, 3) := by decide +kernel
theorem nk_dX0_21 : decode cX0_init 21 = .ok (.aload_n 0, 1) := by decide +kernel
theorem nk_dX0_22 : decode cX0_init 22 = .ok (.iconst 5, 1) := by decide +kernel
theorem nk_dX0_23 : decode cX0_init 23 = .ok (.newarray .int, 2) := by decide +kernel
theorem nk_dX0_25 : decode cX0_init 25 = .ok (.putfield 22, 3) := by decide +kernel
theorem nk_dX0_28 : decode cX0_init 28 = .ok (.aload_n 0, 1) := by decide +kernel
theorem nk_dX0_29 : decode cX0_init 29 = .ok (.bipush 30, 2) := by decide +kernel
theorem nk_dX0_31 : decode cX0_init 31 = .ok (.newarray .int, 2) := by decide +kernel
theorem nk_dX0_33 : decode cX0_init 33 = .ok (.putfield 25, 3) := by decide +kernel
theorem nk_dX0_36 : decode cX0_init 36 = .ok (.aload_n 0, 1) := by decide +kernel
theorem nk_dX0_37 : decode cX0_init 37 = .ok (.sipush 7776, 3) := by decide +kernel
theorem nk_dX0_40 : decode cX0_init 40 = .ok (.newarray .int, 2) := by decide +kernel
theorem nk_dX0_42 : decode cX0_init 42 = .ok (.putfield 28, 3) := by decide +kernel
theorem nk_dX0_45 : decode cX0_init 45 = .ok (.return_, 1) := by decide +kernel
def nk_WX0 : List Cond := .code yX0_init cX0_init 1 none :: nw_tb
set_option maxHeartbeats 4000000 in
set_option maxRecDepth 100000 in
theorem nk_cX0 (l : Launch) (E : va_G) (h0 sz : Nat) : Met l yX0_init nk_WX0 ({ frames := 1, cells := 4, slots := 7816, locals := 34 }) (va_Pc [.ref h0] (fun U => U.heap.size = sz ∧ va_P E vwCl [(h0, .inr (0, [.int 0, .int 0, .null, .null, .null, .null]))] U.heap ∧ va_K E vwCl [] U ∧ va_D (fun _ => True) [(h0, .inr (0, [.int 0, .int 0, .null, .null, .null, .null]))])) (va_Qv (fun _ : Unit => True) (fun _ t => ∃ (q16 q23 q31 q40 : Nat) (c16 c23 c31 c40 : ClassId), va_P E vwCl [(h0, .inr (0, [.int 0, .int 1, .ref q16, .ref q23, .ref q31, .ref q40])), (q16, .inl (c16, 5, .inl (fun _ => 0))), (q23, .inl (c23, 5, .inl (fun _ => 0))), (q31, .inl (c31, 30, .inl (fun _ => 0))), (q40, .inl (c40, 7776, .inl (fun _ => 0)))] t.heap ∧ va_K E vwCl [(c16, .int), (c23, .int), (c31, .int), (c40, .int)] t ∧ va_D (va_A [(h0, .inr (0, [.int 0, .int 0, .null, .null, .null, .null]))] sz) [(h0, .inr (0, [.int 0, .int 1, .ref q16, .ref q23, .ref q31, .ref q40])), (q16, .inl (c16, 5, .inl (fun _ => 0))), (q23, .inl (c23, 5, .inl (fun _ => 0))), (q31, .inl (c31, 30, .inl (fun _ => 0))), (q40, .inl (c40, 7776, .inl (fun _ => 0)))]) (va_A [(h0, .inr (0, [.int 0, .int 0, .null, .null, .null, .null]))] sz)) 4 7816 (va_A [(h0, .inr (0, [.int 0, .int 0, .null, .null, .null, .null]))] sz) := by
  refine Met.ofW (cc := cX0_init) (maxL := 1) (ret := none) (by decide) rfl ?_
  intro p e s m args below meth c s₁ B hml hv
  obtain ⟨rfl, hsz, hP, hK, hD0⟩ := hv
  have hx := B.exec
  have hb := B.bytes
  have hr := B.returns
  have hts0 := atoms_spec (ws := nk_WX0) B.pre
  have hts : ∀ w ∈ nw_tb, w.before #[Value.ref h0] s = true := fun w hw => hts0 w (List.mem_cons_of_mem _ hw)
  have hown : s.vm.findClass RX0 = some m.cls := findClass_of_methodNamed B.named
  have hlocks := B.notSynchronized
  have hin : meth.name = "<init>" := (name_of_methodNamed B.named B.method).1
  subst hsz
  have hD := hD0.self (sz := s.heap.size)
  generalize hAe : va_A [(h0, .inr (0, [.int 0, .int 0, .null, .null, .null, .null]))] s.heap.size = A at hD ⊢
  have hA : ∀ q : Nat, s.heap.size ≤ q → A q := fun q h => by rw [← hAe]; exact Or.inr h
  have hS : va_S A s.heap s.heap [] := va_S.rf
  have hP : va_P E vwCl [(h0, .inr (0, [.int 0, .int 0, .null, .null, .null, .null]))] s.heap := hP
  have hl := lv_entry ([.ref h0]) (n := 1) (Nat.le_of_ble_eq_true rfl)
  rw [lg_entry_eq]
  generalize (lg_sl ([.ref h0]) ++ List.replicate (1 - (lg_sl ([.ref h0])).length) Slot.unset).toArray = ls at hl ⊢
  have hl : lv_has ls 1 [(0, .ref h0)] := hl
  refine lv_aload_n hx hb nk_dX0_0 rfl (lv_at hl 0 rfl) ?_
  refine W.objInit hx hb hown (hts _ nk_w58) (hts _ nk_w51) (hts _ nk_w52) rfl (by rw [hml]; exact hl.1) rfl nk_dX0_1 (Nat.le_of_ble_eq_true rfl) (Nat.le_of_ble_eq_true rfl) ?_
  refine W.eq (g2 := F0 m 4 ls []) rfl ?_
  refine lv_aload_n hx hb nk_dX0_4 rfl (lv_at hl 0 rfl) ?_
  refine lv_iconst (v := 0) hx hb nk_dX0_5 (by decide) ?_
  refine va_put (D := E) (ci := 0) (v := .int 0) (ty := .int) (C := RX0) (T := TX0) (N := 6) hx hb hts nw_in0 tyX0 tyX0_ok nmX0 hown hK hP hD hS 0 rfl rfl 0 (by decide) (hts _ nk_w59) (fun _ h9 => h9) rfl (by decide +kernel) rfl rfl (Nat.le_of_ble_eq_true rfl) nk_dX0_6 (fun H locs hP hD hS => ?_)
  have hP : va_P E vwCl [(h0, .inr (0, [.int 0, .int 0, .null, .null, .null, .null]))] H := hP
  have hD : va_D A [(h0, .inr (0, [.int 0, .int 0, .null, .null, .null, .null]))] := hD
  refine lv_aload_n hx hb nk_dX0_9 rfl (lv_at hl 0 rfl) ?_
  refine lv_iconst (v := 1) hx hb nk_dX0_10 (by decide) ?_
  refine va_put (D := E) (ci := 0) (v := .int 1) (ty := .int) (C := RX0) (T := TX0) (N := 6) hx hb hts nw_in0 tyX0 tyX0_ok nmX0 hown hK hP hD hS 0 rfl rfl 1 (by decide) (hts _ nk_w61) (fun _ h9 => h9) rfl (by decide +kernel) rfl rfl (Nat.le_of_ble_eq_true rfl) nk_dX0_11 (fun H locs hP hD hS => ?_)
  have hP : va_P E vwCl [(h0, .inr (0, [.int 0, .int 1, .null, .null, .null, .null]))] H := hP
  have hD : va_D A [(h0, .inr (0, [.int 0, .int 1, .null, .null, .null, .null]))] := hD
  refine lv_aload_n hx hb nk_dX0_14 rfl (lv_at hl 0 rfl) ?_
  refine lv_iconst (v := 5) hx hb nk_dX0_15 (by decide) ?_
  refine va_newa (atype := .int) (ty := .int) (n := 5) (N' := 5) (a0 := (5, .inl (fun _ => 0))) hx hb (hts _ nk_w81) rfl hK hP hD hS hA (fun _ => rfl) (by decide) (by decide) (by decide) (Nat.le_of_ble_eq_true rfl) (Nat.le_of_ble_eq_true rfl) nk_dX0_16 (fun q16 c16 H hK hP hD hS => ?_)
  have hP : va_P E vwCl [(h0, .inr (0, [.int 0, .int 1, .null, .null, .null, .null])), (q16, .inl (c16, 5, .inl (fun _ => 0)))] H := hP
  have hD : va_D A [(h0, .inr (0, [.int 0, .int 1, .null, .null, .null, .null])), (q16, .inl (c16, 5, .inl (fun _ => 0)))] := hD
  have hK : va_K E vwCl [(c16, .int)] s := hK
  refine W.widen (k := 1) (n := 5) (Nat.le_of_ble_eq_true rfl) (Nat.le_of_ble_eq_true rfl) ?_
  refine va_putF (D := E) (ci := 0) (v := .ref q16) (ty := .array .int) (C := RX0) (T := TX0) (N := 6) hx hb hts nw_in0 tyX0 tyX0_ok nmX0 hown hK hP hD hS 0 rfl rfl 2 (by decide) (hts _ nk_w63) (fun _ h9 => h9) rfl hin rfl (by decide +kernel) rfl rfl (Nat.le_of_ble_eq_true rfl) nk_dX0_18 (fun H locs hP hD hS => ?_)
  have hP : va_P E vwCl [(h0, .inr (0, [.int 0, .int 1, .ref q16, .null, .null, .null])), (q16, .inl (c16, 5, .inl (fun _ => 0)))] H := hP
  have hD : va_D A [(h0, .inr (0, [.int 0, .int 1, .ref q16, .null, .null, .null])), (q16, .inl (c16, 5, .inl (fun _ => 0)))] := hD
  refine lv_aload_n hx hb nk_dX0_21 rfl (lv_at hl 0 rfl) ?_
  refine lv_iconst (v := 5) hx hb nk_dX0_22 (by decide) ?_
  refine va_newa (atype := .int) (ty := .int) (n := 5) (N' := 5) (a0 := (5, .inl (fun _ => 0))) hx hb (hts _ nk_w81) rfl hK hP hD hS hA (fun _ => rfl) (by decide) (by decide) (by decide) (Nat.le_of_ble_eq_true rfl) (Nat.le_of_ble_eq_true rfl) nk_dX0_23 (fun q23 c23 H hK hP hD hS => ?_)
  have hP : va_P E vwCl [(h0, .inr (0, [.int 0, .int 1, .ref q16, .null, .null, .null])), (q16, .inl (c16, 5, .inl (fun _ => 0))), (q23, .inl (c23, 5, .inl (fun _ => 0)))] H := hP
  have hD : va_D A [(h0, .inr (0, [.int 0, .int 1, .ref q16, .null, .null, .null])), (q16, .inl (c16, 5, .inl (fun _ => 0))), (q23, .inl (c23, 5, .inl (fun _ => 0)))] := hD
  have hK : va_K E vwCl [(c16, .int), (c23, .int)] s := hK
  refine W.widen (k := 2) (n := 10) (Nat.le_of_ble_eq_true rfl) (Nat.le_of_ble_eq_true rfl) ?_
  refine va_putF (D := E) (ci := 0) (v := .ref q23) (ty := .array .int) (C := RX0) (T := TX0) (N := 6) hx hb hts nw_in0 tyX0 tyX0_ok nmX0 hown hK hP hD hS 0 rfl rfl 3 (by decide) (hts _ nk_w64) (fun _ h9 => h9) rfl hin rfl (by decide +kernel) rfl rfl (Nat.le_of_ble_eq_true rfl) nk_dX0_25 (fun H locs hP hD hS => ?_)
  have hP : va_P E vwCl [(h0, .inr (0, [.int 0, .int 1, .ref q16, .ref q23, .null, .null])), (q16, .inl (c16, 5, .inl (fun _ => 0))), (q23, .inl (c23, 5, .inl (fun _ => 0)))] H := hP
  have hD : va_D A [(h0, .inr (0, [.int 0, .int 1, .ref q16, .ref q23, .null, .null])), (q16, .inl (c16, 5, .inl (fun _ => 0))), (q23, .inl (c23, 5, .inl (fun _ => 0)))] := hD
  refine lv_aload_n hx hb nk_dX0_28 rfl (lv_at hl 0 rfl) ?_
  refine lv_bipush (v := 30) hx hb nk_dX0_29 (by decide) ?_
  refine va_newa (atype := .int) (ty := .int) (n := 30) (N' := 30) (a0 := (30, .inl (fun _ => 0))) hx hb (hts _ nk_w81) rfl hK hP hD hS hA (fun _ => rfl) (by decide) (by decide) (by decide) (Nat.le_of_ble_eq_true rfl) (Nat.le_of_ble_eq_true rfl) nk_dX0_31 (fun q31 c31 H hK hP hD hS => ?_)
  have hP : va_P E vwCl [(h0, .inr (0, [.int 0, .int 1, .ref q16, .ref q23, .null, .null])), (q16, .inl (c16, 5, .inl (fun _ => 0))), (q23, .inl (c23, 5, .inl (fun _ => 0))), (q31, .inl (c31, 30, .inl (fun _ => 0)))] H := hP
  have hD : va_D A [(h0, .inr (0, [.int 0, .int 1, .ref q16, .ref q23, .null, .null])), (q16, .inl (c16, 5, .inl (fun _ => 0))), (q23, .inl (c23, 5, .inl (fun _ => 0))), (q31, .inl (c31, 30, .inl (fun _ => 0)))] := hD
  have hK : va_K E vwCl [(c16, .int), (c23, .int), (c31, .int)] s := hK
  refine W.widen (k := 3) (n := 40) (Nat.le_of_ble_eq_true rfl) (Nat.le_of_ble_eq_true rfl) ?_
  refine va_putF (D := E) (ci := 0) (v := .ref q31) (ty := .array .int) (C := RX0) (T := TX0) (N := 6) hx hb hts nw_in0 tyX0 tyX0_ok nmX0 hown hK hP hD hS 0 rfl rfl 4 (by decide) (hts _ nk_w65) (fun _ h9 => h9) rfl hin rfl (by decide +kernel) rfl rfl (Nat.le_of_ble_eq_true rfl) nk_dX0_33 (fun H locs hP hD hS => ?_)
  have hP : va_P E vwCl [(h0, .inr (0, [.int 0, .int 1, .ref q16, .ref q23, .ref q31, .null])), (q16, .inl (c16, 5, .inl (fun _ => 0))), (q23, .inl (c23, 5, .inl (fun _ => 0))), (q31, .inl (c31, 30, .inl (fun _ => 0)))] H := hP
  have hD : va_D A [(h0, .inr (0, [.int 0, .int 1, .ref q16, .ref q23, .ref q31, .null])), (q16, .inl (c16, 5, .inl (fun _ => 0))), (q23, .inl (c23, 5, .inl (fun _ => 0))), (q31, .inl (c31, 30, .inl (fun _ => 0)))] := hD
  refine lv_aload_n hx hb nk_dX0_36 rfl (lv_at hl 0 rfl) ?_
  refine lv_sipush (v := 7776) hx hb nk_dX0_37 (by decide) ?_
  refine va_newa (atype := .int) (ty := .int) (n := 7776) (N' := 7776) (a0 := (7776, .inl (fun _ => 0))) hx hb (hts _ nk_w81) rfl hK hP hD hS hA (fun _ => rfl) (by decide) (by decide) (by decide) (Nat.le_of_ble_eq_true rfl) (Nat.le_of_ble_eq_true rfl) nk_dX0_40 (fun q40 c40 H hK hP hD hS => ?_)
  have hP : va_P E vwCl [(h0, .inr (0, [.int 0, .int 1, .ref q16, .ref q23, .ref q31, .null])), (q16, .inl (c16, 5, .inl (fun _ => 0))), (q23, .inl (c23, 5, .inl (fun _ => 0))), (q31, .inl (c31, 30, .inl (fun _ => 0))), (q40, .inl (c40, 7776, .inl (fun _ => 0)))] H := hP
  have hD : va_D A [(h0, .inr (0, [.int 0, .int 1, .ref q16, .ref q23, .ref q31, .null])), (q16, .inl (c16, 5, .inl (fun _ => 0))), (q23, .inl (c23, 5, .inl (fun _ => 0))), (q31, .inl (c31, 30, .inl (fun _ => 0))), (q40, .inl (c40, 7776, .inl (fun _ => 0)))] := hD
  have hK : va_K E vwCl [(c16, .int), (c23, .int), (c31, .int), (c40, .int)] s := hK
  refine W.widen (k := 4) (n := 7816) (Nat.le_of_ble_eq_true rfl) (Nat.le_of_ble_eq_true rfl) ?_
  refine va_putF (D := E) (ci := 0) (v := .ref q40) (ty := .array .int) (C := RX0) (T := TX0) (N := 6) hx hb hts nw_in0 tyX0 tyX0_ok nmX0 hown hK hP hD hS 0 rfl rfl 5 (by decide) (hts _ nk_w66) (fun _ h9 => h9) rfl hin rfl (by decide +kernel) rfl rfl (Nat.le_of_ble_eq_true rfl) nk_dX0_42 (fun H locs hP hD hS => ?_)
  have hP : va_P E vwCl [(h0, .inr (0, [.int 0, .int 1, .ref q16, .ref q23, .ref q31, .ref q40])), (q16, .inl (c16, 5, .inl (fun _ => 0))), (q23, .inl (c23, 5, .inl (fun _ => 0))), (q31, .inl (c31, 30, .inl (fun _ => 0))), (q40, .inl (c40, 7776, .inl (fun _ => 0)))] H := hP
  have hD : va_D A [(h0, .inr (0, [.int 0, .int 1, .ref q16, .ref q23, .ref q31, .ref q40])), (q16, .inl (c16, 5, .inl (fun _ => 0))), (q23, .inl (c23, 5, .inl (fun _ => 0))), (q31, .inl (c31, 30, .inl (fun _ => 0))), (q40, .inl (c40, 7776, .inl (fun _ => 0)))] := hD
  exact W.vret hx hb hr (fun t ht hW => ⟨⟨(), rfl, trivial, q16, q23, q31, q40, c16, c23, c31, c40, by rw [ht]; exact hP, va_K.moved hW.alike hK, hD⟩, hS.F ht⟩) hS.2.2 nk_dX0_45
theorem nk_gX0 : GoodIn nw_tb nk_WX0 := nk_good nk_w57
theorem nk_dX1_0 : decode cX1_init 0 = .ok (.aload_n 0, 1) := by decide +kernel
theorem nk_dX1_1 : decode cX1_init 1 = .ok (.invokespecial 3, 3) := by decide +kernel
theorem nk_dX1_4 : decode cX1_init 4 = .ok (.aload_n 0, 1) := by decide +kernel
theorem nk_dX1_5 : decode cX1_init 5 = .ok (.iconst 0, 1) := by decide +kernel
theorem nk_dX1_6 : decode cX1_init 6 = .ok (.putfield 9, 3) := by decide +kernel
theorem nk_dX1_9 : decode cX1_init 9 = .ok (.aload_n 0, 1) := by decide +kernel
theorem nk_dX1_10 : decode cX1_init 10 = .ok (.sipush 924, 3) := by decide +kernel
theorem nk_dX1_13 : decode cX1_init 13 = .ok (.newarray .int, 2) := by decide +kernel
theorem nk_dX1_15 : decode cX1_init 15 = .ok (.putfield 15, 3) := by decide +kernel
theorem nk_dX1_18 : decode cX1_init 18 = .ok (.aload_n 0, 1) := by decide +kernel
theorem nk_dX1_19 : decode cX1_init 19 = .ok (.sipush 924, 3) := by decide +kernel
theorem nk_dX1_22 : decode cX1_init 22 = .ok (.newarray .int, 2) := by decide +kernel
theorem nk_dX1_24 : decode cX1_init 24 = .ok (.putfield 19, 3) := by decide +kernel
theorem nk_dX1_27 : decode cX1_init 27 = .ok (.return_, 1) := by decide +kernel
def nk_WX1 : List Cond := .code yX1_init cX1_init 1 none :: nw_tb
set_option maxHeartbeats 4000000 in
set_option maxRecDepth 100000 in
theorem nk_cX1 (l : Launch) (E : va_G) (h0 sz : Nat) : Met l yX1_init nk_WX1 ({ frames := 1, cells := 2, slots := 1848, locals := 34 }) (va_Pc [.ref h0] (fun U => U.heap.size = sz ∧ va_P E vwCl [(h0, .inr (1, [.int 0, .null, .null]))] U.heap ∧ va_K E vwCl [] U ∧ va_D (fun _ => True) [(h0, .inr (1, [.int 0, .null, .null]))])) (va_Qv (fun _ : Unit => True) (fun _ t => ∃ (q13 q22 : Nat) (c13 c22 : ClassId), va_P E vwCl [(h0, .inr (1, [.int 0, .ref q13, .ref q22])), (q13, .inl (c13, 924, .inl (fun _ => 0))), (q22, .inl (c22, 924, .inl (fun _ => 0)))] t.heap ∧ va_K E vwCl [(c13, .int), (c22, .int)] t ∧ va_D (va_A [(h0, .inr (1, [.int 0, .null, .null]))] sz) [(h0, .inr (1, [.int 0, .ref q13, .ref q22])), (q13, .inl (c13, 924, .inl (fun _ => 0))), (q22, .inl (c22, 924, .inl (fun _ => 0)))]) (va_A [(h0, .inr (1, [.int 0, .null, .null]))] sz)) 2 1848 (va_A [(h0, .inr (1, [.int 0, .null, .null]))] sz) := by
  refine Met.ofW (cc := cX1_init) (maxL := 1) (ret := none) (by decide) rfl ?_
  intro p e s m args below meth c s₁ B hml hv
  obtain ⟨rfl, hsz, hP, hK, hD0⟩ := hv
  have hx := B.exec
  have hb := B.bytes
  have hr := B.returns
  have hts0 := atoms_spec (ws := nk_WX1) B.pre
  have hts : ∀ w ∈ nw_tb, w.before #[Value.ref h0] s = true := fun w hw => hts0 w (List.mem_cons_of_mem _ hw)
  have hown : s.vm.findClass RX1 = some m.cls := findClass_of_methodNamed B.named
  have hlocks := B.notSynchronized
  have hin : meth.name = "<init>" := (name_of_methodNamed B.named B.method).1
  subst hsz
  have hD := hD0.self (sz := s.heap.size)
  generalize hAe : va_A [(h0, .inr (1, [.int 0, .null, .null]))] s.heap.size = A at hD ⊢
  have hA : ∀ q : Nat, s.heap.size ≤ q → A q := fun q h => by rw [← hAe]; exact Or.inr h
  have hS : va_S A s.heap s.heap [] := va_S.rf
  have hP : va_P E vwCl [(h0, .inr (1, [.int 0, .null, .null]))] s.heap := hP
  have hl := lv_entry ([.ref h0]) (n := 1) (Nat.le_of_ble_eq_true rfl)
  rw [lg_entry_eq]
  generalize (lg_sl ([.ref h0]) ++ List.replicate (1 - (lg_sl ([.ref h0])).length) Slot.unset).toArray = ls at hl ⊢
  have hl : lv_has ls 1 [(0, .ref h0)] := hl
  refine lv_aload_n hx hb nk_dX1_0 rfl (lv_at hl 0 rfl) ?_
  refine W.objInit hx hb hown (hts _ nk_w149) (hts _ nk_w51) (hts _ nk_w52) rfl (by rw [hml]; exact hl.1) rfl nk_dX1_1 (Nat.le_of_ble_eq_true rfl) (Nat.le_of_ble_eq_true rfl) ?_
  refine W.eq (g2 := F0 m 4 ls []) rfl ?_
  refine lv_aload_n hx hb nk_dX1_4 rfl (lv_at hl 0 rfl) ?_
  refine lv_iconst (v := 0) hx hb nk_dX1_5 (by decide) ?_
  refine va_put (D := E) (ci := 1) (v := .int 0) (ty := .int) (C := RX1) (T := TX1) (N := 3) hx hb hts nw_in1 tyX1 tyX1_ok nmX1 hown hK hP hD hS 0 rfl rfl 0 (by decide) (hts _ nk_w150) (fun _ h9 => h9) rfl (by decide +kernel) rfl rfl (Nat.le_of_ble_eq_true rfl) nk_dX1_6 (fun H locs hP hD hS => ?_)
  have hP : va_P E vwCl [(h0, .inr (1, [.int 0, .null, .null]))] H := hP
  have hD : va_D A [(h0, .inr (1, [.int 0, .null, .null]))] := hD
  refine lv_aload_n hx hb nk_dX1_9 rfl (lv_at hl 0 rfl) ?_
  refine lv_sipush (v := 924) hx hb nk_dX1_10 (by decide) ?_
  refine va_newa (atype := .int) (ty := .int) (n := 924) (N' := 924) (a0 := (924, .inl (fun _ => 0))) hx hb (hts _ nk_w81) rfl hK hP hD hS hA (fun _ => rfl) (by decide) (by decide) (by decide) (Nat.le_of_ble_eq_true rfl) (Nat.le_of_ble_eq_true rfl) nk_dX1_13 (fun q13 c13 H hK hP hD hS => ?_)
  have hP : va_P E vwCl [(h0, .inr (1, [.int 0, .null, .null])), (q13, .inl (c13, 924, .inl (fun _ => 0)))] H := hP
  have hD : va_D A [(h0, .inr (1, [.int 0, .null, .null])), (q13, .inl (c13, 924, .inl (fun _ => 0)))] := hD
  have hK : va_K E vwCl [(c13, .int)] s := hK
  refine W.widen (k := 1) (n := 924) (Nat.le_of_ble_eq_true rfl) (Nat.le_of_ble_eq_true rfl) ?_
  refine va_putF (D := E) (ci := 1) (v := .ref q13) (ty := .array .int) (C := RX1) (T := TX1) (N := 3) hx hb hts nw_in1 tyX1 tyX1_ok nmX1 hown hK hP hD hS 0 rfl rfl 1 (by decide) (hts _ nk_w152) (fun _ h9 => h9) rfl hin rfl (by decide +kernel) rfl rfl (Nat.le_of_ble_eq_true rfl) nk_dX1_15 (fun H locs hP hD hS => ?_)
  have hP : va_P E vwCl [(h0, .inr (1, [.int 0, .ref q13, .null])), (q13, .inl (c13, 924, .inl (fun _ => 0)))] H := hP
  have hD : va_D A [(h0, .inr (1, [.int 0, .ref q13, .null])), (q13, .inl (c13, 924, .inl (fun _ => 0)))] := hD
  refine lv_aload_n hx hb nk_dX1_18 rfl (lv_at hl 0 rfl) ?_
  refine lv_sipush (v := 924) hx hb nk_dX1_19 (by decide) ?_
  refine va_newa (atype := .int) (ty := .int) (n := 924) (N' := 924) (a0 := (924, .inl (fun _ => 0))) hx hb (hts _ nk_w81) rfl hK hP hD hS hA (fun _ => rfl) (by decide) (by decide) (by decide) (Nat.le_of_ble_eq_true rfl) (Nat.le_of_ble_eq_true rfl) nk_dX1_22 (fun q22 c22 H hK hP hD hS => ?_)
  have hP : va_P E vwCl [(h0, .inr (1, [.int 0, .ref q13, .null])), (q13, .inl (c13, 924, .inl (fun _ => 0))), (q22, .inl (c22, 924, .inl (fun _ => 0)))] H := hP
  have hD : va_D A [(h0, .inr (1, [.int 0, .ref q13, .null])), (q13, .inl (c13, 924, .inl (fun _ => 0))), (q22, .inl (c22, 924, .inl (fun _ => 0)))] := hD
  have hK : va_K E vwCl [(c13, .int), (c22, .int)] s := hK
  refine W.widen (k := 2) (n := 1848) (Nat.le_of_ble_eq_true rfl) (Nat.le_of_ble_eq_true rfl) ?_
  refine va_putF (D := E) (ci := 1) (v := .ref q22) (ty := .array .int) (C := RX1) (T := TX1) (N := 3) hx hb hts nw_in1 tyX1 tyX1_ok nmX1 hown hK hP hD hS 0 rfl rfl 2 (by decide) (hts _ nk_w153) (fun _ h9 => h9) rfl hin rfl (by decide +kernel) rfl rfl (Nat.le_of_ble_eq_true rfl) nk_dX1_24 (fun H locs hP hD hS => ?_)
  have hP : va_P E vwCl [(h0, .inr (1, [.int 0, .ref q13, .ref q22])), (q13, .inl (c13, 924, .inl (fun _ => 0))), (q22, .inl (c22, 924, .inl (fun _ => 0)))] H := hP
  have hD : va_D A [(h0, .inr (1, [.int 0, .ref q13, .ref q22])), (q13, .inl (c13, 924, .inl (fun _ => 0))), (q22, .inl (c22, 924, .inl (fun _ => 0)))] := hD
  exact W.vret hx hb hr (fun t ht hW => ⟨⟨(), rfl, trivial, q13, q22, c13, c22, by rw [ht]; exact hP, va_K.moved hW.alike hK, hD⟩, hS.F ht⟩) hS.2.2 nk_dX1_27
theorem nk_gX1 : GoodIn nw_tb nk_WX1 := nk_good nk_w148
theorem nk_dX2_0 : decode cX2_init 0 = .ok (.aload_n 0, 1) := by decide +kernel
theorem nk_dX2_1 : decode cX2_init 1 = .ok (.invokespecial 3, 3) := by decide +kernel
theorem nk_dX2_4 : decode cX2_init 4 = .ok (.aload_n 0, 1) := by decide +kernel
theorem nk_dX2_5 : decode cX2_init 5 = .ok (.iconst 0, 1) := by decide +kernel
theorem nk_dX2_6 : decode cX2_init 6 = .ok (.putfield 9, 3) := by decide +kernel
theorem nk_dX2_9 : decode cX2_init 9 = .ok (.aload_n 0, 1) := by decide +kernel
theorem nk_dX2_10 : decode cX2_init 10 = .ok (.bipush 12, 2) := by decide +kernel
theorem nk_dX2_12 : decode cX2_init 12 = .ok (.newarray .int, 2) := by decide +kernel
theorem nk_dX2_14 : decode cX2_init 14 = .ok (.putfield 15, 3) := by decide +kernel
theorem nk_dX2_17 : decode cX2_init 17 = .ok (.aload_n 0, 1) := by decide +kernel
theorem nk_dX2_18 : decode cX2_init 18 = .ok (.bipush 12, 2) := by decide +kernel
theorem nk_dX2_20 : decode cX2_init 20 = .ok (.newarray .int, 2) := by decide +kernel
theorem nk_dX2_22 : decode cX2_init 22 = .ok (.putfield 19, 3) := by decide +kernel
theorem nk_dX2_25 : decode cX2_init 25 = .ok (.aload_n 0, 1) := by decide +kernel
theorem nk_dX2_26 : decode cX2_init 26 = .ok (.bipush 12, 2) := by decide +kernel
theorem nk_dX2_28 : decode cX2_init 28 = .ok (.newarray .int, 2) := by decide +kernel
theorem nk_dX2_30 : decode cX2_init 30 = .ok (.putfield 22, 3) := by decide +kernel
theorem nk_dX2_33 : decode cX2_init 33 = .ok (.aload_n 0, 1) := by decide +kernel
theorem nk_dX2_34 : decode cX2_init 34 = .ok (.bipush 12, 2) := by decide +kernel
theorem nk_dX2_36 : decode cX2_init 36 = .ok (.newarray .int, 2) := by decide +kernel
theorem nk_dX2_38 : decode cX2_init 38 = .ok (.putfield 25, 3) := by decide +kernel
theorem nk_dX2_41 : decode cX2_init 41 = .ok (.aload_n 0, 1) := by decide +kernel
theorem nk_dX2_42 : decode cX2_init 42 = .ok (.bipush 12, 2) := by decide +kernel
theorem nk_dX2_44 : decode cX2_init 44 = .ok (.newarray .int, 2) := by decide +kernel
theorem nk_dX2_46 : decode cX2_init 46 = .ok (.putfield 28, 3) := by decide +kernel
theorem nk_dX2_49 : decode cX2_init 49 = .ok (.aload_n 0, 1) := by decide +kernel
theorem nk_dX2_50 : decode cX2_init 50 = .ok (.bipush 12, 2) := by decide +kernel
theorem nk_dX2_52 : decode cX2_init 52 = .ok (.newarray .int, 2) := by decide +kernel
theorem nk_dX2_54 : decode cX2_init 54 = .ok (.putfield 31, 3) := by decide +kernel
theorem nk_dX2_57 : decode cX2_init 57 = .ok (.aload_n 0, 1) := by decide +kernel
theorem nk_dX2_58 : decode cX2_init 58 = .ok (.sipush 4096, 3) := by decide +kernel
theorem nk_dX2_61 : decode cX2_init 61 = .ok (.newarray .int, 2) := by decide +kernel
theorem nk_dX2_63 : decode cX2_init 63 = .ok (.putfield 34, 3) := by decide +kernel
theorem nk_dX2_66 : decode cX2_init 66 = .ok (.return_, 1) := by decide +kernel
def nk_WX2 : List Cond := .code yX2_init cX2_init 1 none :: nw_tb
set_option maxHeartbeats 4000000 in
set_option maxRecDepth 100000 in
theorem nk_cX2 (l : Launch) (E : va_G) (h0 sz : Nat) : Met l yX2_init nk_WX2 ({ frames := 1, cells := 7, slots := 4168, locals := 34 }) (va_Pc [.ref h0] (fun U => U.heap.size = sz ∧ va_P E vwCl [(h0, .inr (2, [.int 0, .null, .null, .null, .null, .null, .null, .null]))] U.heap ∧ va_K E vwCl [] U ∧ va_D (fun _ => True) [(h0, .inr (2, [.int 0, .null, .null, .null, .null, .null, .null, .null]))])) (va_Qv (fun _ : Unit => True) (fun _ t => ∃ (q12 q20 q28 q36 q44 q52 q61 : Nat) (c12 c20 c28 c36 c44 c52 c61 : ClassId), va_P E vwCl [(h0, .inr (2, [.int 0, .ref q12, .ref q20, .ref q28, .ref q36, .ref q44, .ref q52, .ref q61])), (q12, .inl (c12, 12, .inl (fun _ => 0))), (q20, .inl (c20, 12, .inl (fun _ => 0))), (q28, .inl (c28, 12, .inl (fun _ => 0))), (q36, .inl (c36, 12, .inl (fun _ => 0))), (q44, .inl (c44, 12, .inl (fun _ => 0))), (q52, .inl (c52, 12, .inl (fun _ => 0))), (q61, .inl (c61, 4096, .inl (fun _ => 0)))] t.heap ∧ va_K E vwCl [(c12, .int), (c20, .int), (c28, .int), (c36, .int), (c44, .int), (c52, .int), (c61, .int)] t ∧ va_D (va_A [(h0, .inr (2, [.int 0, .null, .null, .null, .null, .null, .null, .null]))] sz) [(h0, .inr (2, [.int 0, .ref q12, .ref q20, .ref q28, .ref q36, .ref q44, .ref q52, .ref q61])), (q12, .inl (c12, 12, .inl (fun _ => 0))), (q20, .inl (c20, 12, .inl (fun _ => 0))), (q28, .inl (c28, 12, .inl (fun _ => 0))), (q36, .inl (c36, 12, .inl (fun _ => 0))), (q44, .inl (c44, 12, .inl (fun _ => 0))), (q52, .inl (c52, 12, .inl (fun _ => 0))), (q61, .inl (c61, 4096, .inl (fun _ => 0)))]) (va_A [(h0, .inr (2, [.int 0, .null, .null, .null, .null, .null, .null, .null]))] sz)) 7 4168 (va_A [(h0, .inr (2, [.int 0, .null, .null, .null, .null, .null, .null, .null]))] sz) := by
  refine Met.ofW (cc := cX2_init) (maxL := 1) (ret := none) (by decide) rfl ?_
  intro p e s m args below meth c s₁ B hml hv
  obtain ⟨rfl, hsz, hP, hK, hD0⟩ := hv
  have hx := B.exec
  have hb := B.bytes
  have hr := B.returns
  have hts0 := atoms_spec (ws := nk_WX2) B.pre
  have hts : ∀ w ∈ nw_tb, w.before #[Value.ref h0] s = true := fun w hw => hts0 w (List.mem_cons_of_mem _ hw)
  have hown : s.vm.findClass RX2 = some m.cls := findClass_of_methodNamed B.named
  have hlocks := B.notSynchronized
  have hin : meth.name = "<init>" := (name_of_methodNamed B.named B.method).1
  subst hsz
  have hD := hD0.self (sz := s.heap.size)
  generalize hAe : va_A [(h0, .inr (2, [.int 0, .null, .null, .null, .null, .null, .null, .null]))] s.heap.size = A at hD ⊢
  have hA : ∀ q : Nat, s.heap.size ≤ q → A q := fun q h => by rw [← hAe]; exact Or.inr h
  have hS : va_S A s.heap s.heap [] := va_S.rf
  have hP : va_P E vwCl [(h0, .inr (2, [.int 0, .null, .null, .null, .null, .null, .null, .null]))] s.heap := hP
  have hl := lv_entry ([.ref h0]) (n := 1) (Nat.le_of_ble_eq_true rfl)
  rw [lg_entry_eq]
  generalize (lg_sl ([.ref h0]) ++ List.replicate (1 - (lg_sl ([.ref h0])).length) Slot.unset).toArray = ls at hl ⊢
  have hl : lv_has ls 1 [(0, .ref h0)] := hl
  refine lv_aload_n hx hb nk_dX2_0 rfl (lv_at hl 0 rfl) ?_
  refine W.objInit hx hb hown (hts _ nk_w87) (hts _ nk_w51) (hts _ nk_w52) rfl (by rw [hml]; exact hl.1) rfl nk_dX2_1 (Nat.le_of_ble_eq_true rfl) (Nat.le_of_ble_eq_true rfl) ?_
  refine W.eq (g2 := F0 m 4 ls []) rfl ?_
  refine lv_aload_n hx hb nk_dX2_4 rfl (lv_at hl 0 rfl) ?_
  refine lv_iconst (v := 0) hx hb nk_dX2_5 (by decide) ?_
  refine va_put (D := E) (ci := 2) (v := .int 0) (ty := .int) (C := RX2) (T := TX2) (N := 8) hx hb hts nw_in2 tyX2 tyX2_ok nmX2 hown hK hP hD hS 0 rfl rfl 0 (by decide) (hts _ nk_w88) (fun _ h9 => h9) rfl (by decide +kernel) rfl rfl (Nat.le_of_ble_eq_true rfl) nk_dX2_6 (fun H locs hP hD hS => ?_)
  have hP : va_P E vwCl [(h0, .inr (2, [.int 0, .null, .null, .null, .null, .null, .null, .null]))] H := hP
  have hD : va_D A [(h0, .inr (2, [.int 0, .null, .null, .null, .null, .null, .null, .null]))] := hD
  refine lv_aload_n hx hb nk_dX2_9 rfl (lv_at hl 0 rfl) ?_
  refine lv_bipush (v := 12) hx hb nk_dX2_10 (by decide) ?_
  refine va_newa (atype := .int) (ty := .int) (n := 12) (N' := 12) (a0 := (12, .inl (fun _ => 0))) hx hb (hts _ nk_w81) rfl hK hP hD hS hA (fun _ => rfl) (by decide) (by decide) (by decide) (Nat.le_of_ble_eq_true rfl) (Nat.le_of_ble_eq_true rfl) nk_dX2_12 (fun q12 c12 H hK hP hD hS => ?_)
  have hP : va_P E vwCl [(h0, .inr (2, [.int 0, .null, .null, .null, .null, .null, .null, .null])), (q12, .inl (c12, 12, .inl (fun _ => 0)))] H := hP
  have hD : va_D A [(h0, .inr (2, [.int 0, .null, .null, .null, .null, .null, .null, .null])), (q12, .inl (c12, 12, .inl (fun _ => 0)))] := hD
  have hK : va_K E vwCl [(c12, .int)] s := hK
  refine W.widen (k := 1) (n := 12) (Nat.le_of_ble_eq_true rfl) (Nat.le_of_ble_eq_true rfl) ?_
  refine va_putF (D := E) (ci := 2) (v := .ref q12) (ty := .array .int) (C := RX2) (T := TX2) (N := 8) hx hb hts nw_in2 tyX2 tyX2_ok nmX2 hown hK hP hD hS 0 rfl rfl 1 (by decide) (hts _ nk_w90) (fun _ h9 => h9) rfl hin rfl (by decide +kernel) rfl rfl (Nat.le_of_ble_eq_true rfl) nk_dX2_14 (fun H locs hP hD hS => ?_)
  have hP : va_P E vwCl [(h0, .inr (2, [.int 0, .ref q12, .null, .null, .null, .null, .null, .null])), (q12, .inl (c12, 12, .inl (fun _ => 0)))] H := hP
  have hD : va_D A [(h0, .inr (2, [.int 0, .ref q12, .null, .null, .null, .null, .null, .null])), (q12, .inl (c12, 12, .inl (fun _ => 0)))] := hD
  refine lv_aload_n hx hb nk_dX2_17 rfl (lv_at hl 0 rfl) ?_
  refine lv_bipush (v := 12) hx hb nk_dX2_18 (by decide) ?_
  refine va_newa (atype := .int) (ty := .int) (n := 12) (N' := 12) (a0 := (12, .inl (fun _ => 0))) hx hb (hts _ nk_w81) rfl hK hP hD hS hA (fun _ => rfl) (by decide) (by decide) (by decide) (Nat.le_of_ble_eq_true rfl) (Nat.le_of_ble_eq_true rfl) nk_dX2_20 (fun q20 c20 H hK hP hD hS => ?_)
  have hP : va_P E vwCl [(h0, .inr (2, [.int 0, .ref q12, .null, .null, .null, .null, .null, .null])), (q12, .inl (c12, 12, .inl (fun _ => 0))), (q20, .inl (c20, 12, .inl (fun _ => 0)))] H := hP
  have hD : va_D A [(h0, .inr (2, [.int 0, .ref q12, .null, .null, .null, .null, .null, .null])), (q12, .inl (c12, 12, .inl (fun _ => 0))), (q20, .inl (c20, 12, .inl (fun _ => 0)))] := hD
  have hK : va_K E vwCl [(c12, .int), (c20, .int)] s := hK
  refine W.widen (k := 2) (n := 24) (Nat.le_of_ble_eq_true rfl) (Nat.le_of_ble_eq_true rfl) ?_
  refine va_putF (D := E) (ci := 2) (v := .ref q20) (ty := .array .int) (C := RX2) (T := TX2) (N := 8) hx hb hts nw_in2 tyX2 tyX2_ok nmX2 hown hK hP hD hS 0 rfl rfl 2 (by decide) (hts _ nk_w92) (fun _ h9 => h9) rfl hin rfl (by decide +kernel) rfl rfl (Nat.le_of_ble_eq_true rfl) nk_dX2_22 (fun H locs hP hD hS => ?_)
  have hP : va_P E vwCl [(h0, .inr (2, [.int 0, .ref q12, .ref q20, .null, .null, .null, .null, .null])), (q12, .inl (c12, 12, .inl (fun _ => 0))), (q20, .inl (c20, 12, .inl (fun _ => 0)))] H := hP
  have hD : va_D A [(h0, .inr (2, [.int 0, .ref q12, .ref q20, .null, .null, .null, .null, .null])), (q12, .inl (c12, 12, .inl (fun _ => 0))), (q20, .inl (c20, 12, .inl (fun _ => 0)))] := hD
  refine lv_aload_n hx hb nk_dX2_25 rfl (lv_at hl 0 rfl) ?_
  refine lv_bipush (v := 12) hx hb nk_dX2_26 (by decide) ?_
  refine va_newa (atype := .int) (ty := .int) (n := 12) (N' := 12) (a0 := (12, .inl (fun _ => 0))) hx hb (hts _ nk_w81) rfl hK hP hD hS hA (fun _ => rfl) (by decide) (by decide) (by decide) (Nat.le_of_ble_eq_true rfl) (Nat.le_of_ble_eq_true rfl) nk_dX2_28 (fun q28 c28 H hK hP hD hS => ?_)
  have hP : va_P E vwCl [(h0, .inr (2, [.int 0, .ref q12, .ref q20, .null, .null, .null, .null, .null])), (q12, .inl (c12, 12, .inl (fun _ => 0))), (q20, .inl (c20, 12, .inl (fun _ => 0))), (q28, .inl (c28, 12, .inl (fun _ => 0)))] H := hP
  have hD : va_D A [(h0, .inr (2, [.int 0, .ref q12, .ref q20, .null, .null, .null, .null, .null])), (q12, .inl (c12, 12, .inl (fun _ => 0))), (q20, .inl (c20, 12, .inl (fun _ => 0))), (q28, .inl (c28, 12, .inl (fun _ => 0)))] := hD
  have hK : va_K E vwCl [(c12, .int), (c20, .int), (c28, .int)] s := hK
  refine W.widen (k := 3) (n := 36) (Nat.le_of_ble_eq_true rfl) (Nat.le_of_ble_eq_true rfl) ?_
  refine va_putF (D := E) (ci := 2) (v := .ref q28) (ty := .array .int) (C := RX2) (T := TX2) (N := 8) hx hb hts nw_in2 tyX2 tyX2_ok nmX2 hown hK hP hD hS 0 rfl rfl 3 (by decide) (hts _ nk_w94) (fun _ h9 => h9) rfl hin rfl (by decide +kernel) rfl rfl (Nat.le_of_ble_eq_true rfl) nk_dX2_30 (fun H locs hP hD hS => ?_)
  have hP : va_P E vwCl [(h0, .inr (2, [.int 0, .ref q12, .ref q20, .ref q28, .null, .null, .null, .null])), (q12, .inl (c12, 12, .inl (fun _ => 0))), (q20, .inl (c20, 12, .inl (fun _ => 0))), (q28, .inl (c28, 12, .inl (fun _ => 0)))] H := hP
  have hD : va_D A [(h0, .inr (2, [.int 0, .ref q12, .ref q20, .ref q28, .null, .null, .null, .null])), (q12, .inl (c12, 12, .inl (fun _ => 0))), (q20, .inl (c20, 12, .inl (fun _ => 0))), (q28, .inl (c28, 12, .inl (fun _ => 0)))] := hD
  refine lv_aload_n hx hb nk_dX2_33 rfl (lv_at hl 0 rfl) ?_
  refine lv_bipush (v := 12) hx hb nk_dX2_34 (by decide) ?_
  refine va_newa (atype := .int) (ty := .int) (n := 12) (N' := 12) (a0 := (12, .inl (fun _ => 0))) hx hb (hts _ nk_w81) rfl hK hP hD hS hA (fun _ => rfl) (by decide) (by decide) (by decide) (Nat.le_of_ble_eq_true rfl) (Nat.le_of_ble_eq_true rfl) nk_dX2_36 (fun q36 c36 H hK hP hD hS => ?_)
  have hP : va_P E vwCl [(h0, .inr (2, [.int 0, .ref q12, .ref q20, .ref q28, .null, .null, .null, .null])), (q12, .inl (c12, 12, .inl (fun _ => 0))), (q20, .inl (c20, 12, .inl (fun _ => 0))), (q28, .inl (c28, 12, .inl (fun _ => 0))), (q36, .inl (c36, 12, .inl (fun _ => 0)))] H := hP
  have hD : va_D A [(h0, .inr (2, [.int 0, .ref q12, .ref q20, .ref q28, .null, .null, .null, .null])), (q12, .inl (c12, 12, .inl (fun _ => 0))), (q20, .inl (c20, 12, .inl (fun _ => 0))), (q28, .inl (c28, 12, .inl (fun _ => 0))), (q36, .inl (c36, 12, .inl (fun _ => 0)))] := hD
  have hK : va_K E vwCl [(c12, .int), (c20, .int), (c28, .int), (c36, .int)] s := hK
  refine W.widen (k := 4) (n := 48) (Nat.le_of_ble_eq_true rfl) (Nat.le_of_ble_eq_true rfl) ?_
  refine va_putF (D := E) (ci := 2) (v := .ref q36) (ty := .array .int) (C := RX2) (T := TX2) (N := 8) hx hb hts nw_in2 tyX2 tyX2_ok nmX2 hown hK hP hD hS 0 rfl rfl 4 (by decide) (hts _ nk_w96) (fun _ h9 => h9) rfl hin rfl (by decide +kernel) rfl rfl (Nat.le_of_ble_eq_true rfl) nk_dX2_38 (fun H locs hP hD hS => ?_)
  have hP : va_P E vwCl [(h0, .inr (2, [.int 0, .ref q12, .ref q20, .ref q28, .ref q36, .null, .null, .null])), (q12, .inl (c12, 12, .inl (fun _ => 0))), (q20, .inl (c20, 12, .inl (fun _ => 0))), (q28, .inl (c28, 12, .inl (fun _ => 0))), (q36, .inl (c36, 12, .inl (fun _ => 0)))] H := hP
  have hD : va_D A [(h0, .inr (2, [.int 0, .ref q12, .ref q20, .ref q28, .ref q36, .null, .null, .null])), (q12, .inl (c12, 12, .inl (fun _ => 0))), (q20, .inl (c20, 12, .inl (fun _ => 0))), (q28, .inl (c28, 12, .inl (fun _ => 0))), (q36, .inl (c36, 12, .inl (fun _ => 0)))] := hD
  refine lv_aload_n hx hb nk_dX2_41 rfl (lv_at hl 0 rfl) ?_
  refine lv_bipush (v := 12) hx hb nk_dX2_42 (by decide) ?_
  refine va_newa (atype := .int) (ty := .int) (n := 12) (N' := 12) (a0 := (12, .inl (fun _ => 0))) hx hb (hts _ nk_w81) rfl hK hP hD hS hA (fun _ => rfl) (by decide) (by decide) (by decide) (Nat.le_of_ble_eq_true rfl) (Nat.le_of_ble_eq_true rfl) nk_dX2_44 (fun q44 c44 H hK hP hD hS => ?_)
  have hP : va_P E vwCl [(h0, .inr (2, [.int 0, .ref q12, .ref q20, .ref q28, .ref q36, .null, .null, .null])), (q12, .inl (c12, 12, .inl (fun _ => 0))), (q20, .inl (c20, 12, .inl (fun _ => 0))), (q28, .inl (c28, 12, .inl (fun _ => 0))), (q36, .inl (c36, 12, .inl (fun _ => 0))), (q44, .inl (c44, 12, .inl (fun _ => 0)))] H := hP
  have hD : va_D A [(h0, .inr (2, [.int 0, .ref q12, .ref q20, .ref q28, .ref q36, .null, .null, .null])), (q12, .inl (c12, 12, .inl (fun _ => 0))), (q20, .inl (c20, 12, .inl (fun _ => 0))), (q28, .inl (c28, 12, .inl (fun _ => 0))), (q36, .inl (c36, 12, .inl (fun _ => 0))), (q44, .inl (c44, 12, .inl (fun _ => 0)))] := hD
  have hK : va_K E vwCl [(c12, .int), (c20, .int), (c28, .int), (c36, .int), (c44, .int)] s := hK
  refine W.widen (k := 5) (n := 60) (Nat.le_of_ble_eq_true rfl) (Nat.le_of_ble_eq_true rfl) ?_
  refine va_putF (D := E) (ci := 2) (v := .ref q44) (ty := .array .int) (C := RX2) (T := TX2) (N := 8) hx hb hts nw_in2 tyX2 tyX2_ok nmX2 hown hK hP hD hS 0 rfl rfl 5 (by decide) (hts _ nk_w98) (fun _ h9 => h9) rfl hin rfl (by decide +kernel) rfl rfl (Nat.le_of_ble_eq_true rfl) nk_dX2_46 (fun H locs hP hD hS => ?_)
  have hP : va_P E vwCl [(h0, .inr (2, [.int 0, .ref q12, .ref q20, .ref q28, .ref q36, .ref q44, .null, .null])), (q12, .inl (c12, 12, .inl (fun _ => 0))), (q20, .inl (c20, 12, .inl (fun _ => 0))), (q28, .inl (c28, 12, .inl (fun _ => 0))), (q36, .inl (c36, 12, .inl (fun _ => 0))), (q44, .inl (c44, 12, .inl (fun _ => 0)))] H := hP
  have hD : va_D A [(h0, .inr (2, [.int 0, .ref q12, .ref q20, .ref q28, .ref q36, .ref q44, .null, .null])), (q12, .inl (c12, 12, .inl (fun _ => 0))), (q20, .inl (c20, 12, .inl (fun _ => 0))), (q28, .inl (c28, 12, .inl (fun _ => 0))), (q36, .inl (c36, 12, .inl (fun _ => 0))), (q44, .inl (c44, 12, .inl (fun _ => 0)))] := hD
  refine lv_aload_n hx hb nk_dX2_49 rfl (lv_at hl 0 rfl) ?_
  refine lv_bipush (v := 12) hx hb nk_dX2_50 (by decide) ?_
  refine va_newa (atype := .int) (ty := .int) (n := 12) (N' := 12) (a0 := (12, .inl (fun _ => 0))) hx hb (hts _ nk_w81) rfl hK hP hD hS hA (fun _ => rfl) (by decide) (by decide) (by decide) (Nat.le_of_ble_eq_true rfl) (Nat.le_of_ble_eq_true rfl) nk_dX2_52 (fun q52 c52 H hK hP hD hS => ?_)
  have hP : va_P E vwCl [(h0, .inr (2, [.int 0, .ref q12, .ref q20, .ref q28, .ref q36, .ref q44, .null, .null])), (q12, .inl (c12, 12, .inl (fun _ => 0))), (q20, .inl (c20, 12, .inl (fun _ => 0))), (q28, .inl (c28, 12, .inl (fun _ => 0))), (q36, .inl (c36, 12, .inl (fun _ => 0))), (q44, .inl (c44, 12, .inl (fun _ => 0))), (q52, .inl (c52, 12, .inl (fun _ => 0)))] H := hP
  have hD : va_D A [(h0, .inr (2, [.int 0, .ref q12, .ref q20, .ref q28, .ref q36, .ref q44, .null, .null])), (q12, .inl (c12, 12, .inl (fun _ => 0))), (q20, .inl (c20, 12, .inl (fun _ => 0))), (q28, .inl (c28, 12, .inl (fun _ => 0))), (q36, .inl (c36, 12, .inl (fun _ => 0))), (q44, .inl (c44, 12, .inl (fun _ => 0))), (q52, .inl (c52, 12, .inl (fun _ => 0)))] := hD
  have hK : va_K E vwCl [(c12, .int), (c20, .int), (c28, .int), (c36, .int), (c44, .int), (c52, .int)] s := hK
  refine W.widen (k := 6) (n := 72) (Nat.le_of_ble_eq_true rfl) (Nat.le_of_ble_eq_true rfl) ?_
  refine va_putF (D := E) (ci := 2) (v := .ref q52) (ty := .array .int) (C := RX2) (T := TX2) (N := 8) hx hb hts nw_in2 tyX2 tyX2_ok nmX2 hown hK hP hD hS 0 rfl rfl 6 (by decide) (hts _ nk_w100) (fun _ h9 => h9) rfl hin rfl (by decide +kernel) rfl rfl (Nat.le_of_ble_eq_true rfl) nk_dX2_54 (fun H locs hP hD hS => ?_)
  have hP : va_P E vwCl [(h0, .inr (2, [.int 0, .ref q12, .ref q20, .ref q28, .ref q36, .ref q44, .ref q52, .null])), (q12, .inl (c12, 12, .inl (fun _ => 0))), (q20, .inl (c20, 12, .inl (fun _ => 0))), (q28, .inl (c28, 12, .inl (fun _ => 0))), (q36, .inl (c36, 12, .inl (fun _ => 0))), (q44, .inl (c44, 12, .inl (fun _ => 0))), (q52, .inl (c52, 12, .inl (fun _ => 0)))] H := hP
  have hD : va_D A [(h0, .inr (2, [.int 0, .ref q12, .ref q20, .ref q28, .ref q36, .ref q44, .ref q52, .null])), (q12, .inl (c12, 12, .inl (fun _ => 0))), (q20, .inl (c20, 12, .inl (fun _ => 0))), (q28, .inl (c28, 12, .inl (fun _ => 0))), (q36, .inl (c36, 12, .inl (fun _ => 0))), (q44, .inl (c44, 12, .inl (fun _ => 0))), (q52, .inl (c52, 12, .inl (fun _ => 0)))] := hD
  refine lv_aload_n hx hb nk_dX2_57 rfl (lv_at hl 0 rfl) ?_
  refine lv_sipush (v := 4096) hx hb nk_dX2_58 (by decide) ?_
  refine va_newa (atype := .int) (ty := .int) (n := 4096) (N' := 4096) (a0 := (4096, .inl (fun _ => 0))) hx hb (hts _ nk_w81) rfl hK hP hD hS hA (fun _ => rfl) (by decide) (by decide) (by decide) (Nat.le_of_ble_eq_true rfl) (Nat.le_of_ble_eq_true rfl) nk_dX2_61 (fun q61 c61 H hK hP hD hS => ?_)
  have hP : va_P E vwCl [(h0, .inr (2, [.int 0, .ref q12, .ref q20, .ref q28, .ref q36, .ref q44, .ref q52, .null])), (q12, .inl (c12, 12, .inl (fun _ => 0))), (q20, .inl (c20, 12, .inl (fun _ => 0))), (q28, .inl (c28, 12, .inl (fun _ => 0))), (q36, .inl (c36, 12, .inl (fun _ => 0))), (q44, .inl (c44, 12, .inl (fun _ => 0))), (q52, .inl (c52, 12, .inl (fun _ => 0))), (q61, .inl (c61, 4096, .inl (fun _ => 0)))] H := hP
  have hD : va_D A [(h0, .inr (2, [.int 0, .ref q12, .ref q20, .ref q28, .ref q36, .ref q44, .ref q52, .null])), (q12, .inl (c12, 12, .inl (fun _ => 0))), (q20, .inl (c20, 12, .inl (fun _ => 0))), (q28, .inl (c28, 12, .inl (fun _ => 0))), (q36, .inl (c36, 12, .inl (fun _ => 0))), (q44, .inl (c44, 12, .inl (fun _ => 0))), (q52, .inl (c52, 12, .inl (fun _ => 0))), (q61, .inl (c61, 4096, .inl (fun _ => 0)))] := hD
  have hK : va_K E vwCl [(c12, .int), (c20, .int), (c28, .int), (c36, .int), (c44, .int), (c52, .int), (c61, .int)] s := hK
  refine W.widen (k := 7) (n := 4168) (Nat.le_of_ble_eq_true rfl) (Nat.le_of_ble_eq_true rfl) ?_
  refine va_putF (D := E) (ci := 2) (v := .ref q61) (ty := .array .int) (C := RX2) (T := TX2) (N := 8) hx hb hts nw_in2 tyX2 tyX2_ok nmX2 hown hK hP hD hS 0 rfl rfl 7 (by decide) (hts _ nk_w102) (fun _ h9 => h9) rfl hin rfl (by decide +kernel) rfl rfl (Nat.le_of_ble_eq_true rfl) nk_dX2_63 (fun H locs hP hD hS => ?_)
  have hP : va_P E vwCl [(h0, .inr (2, [.int 0, .ref q12, .ref q20, .ref q28, .ref q36, .ref q44, .ref q52, .ref q61])), (q12, .inl (c12, 12, .inl (fun _ => 0))), (q20, .inl (c20, 12, .inl (fun _ => 0))), (q28, .inl (c28, 12, .inl (fun _ => 0))), (q36, .inl (c36, 12, .inl (fun _ => 0))), (q44, .inl (c44, 12, .inl (fun _ => 0))), (q52, .inl (c52, 12, .inl (fun _ => 0))), (q61, .inl (c61, 4096, .inl (fun _ => 0)))] H := hP
  have hD : va_D A [(h0, .inr (2, [.int 0, .ref q12, .ref q20, .ref q28, .ref q36, .ref q44, .ref q52, .ref q61])), (q12, .inl (c12, 12, .inl (fun _ => 0))), (q20, .inl (c20, 12, .inl (fun _ => 0))), (q28, .inl (c28, 12, .inl (fun _ => 0))), (q36, .inl (c36, 12, .inl (fun _ => 0))), (q44, .inl (c44, 12, .inl (fun _ => 0))), (q52, .inl (c52, 12, .inl (fun _ => 0))), (q61, .inl (c61, 4096, .inl (fun _ => 0)))] := hD
  exact W.vret hx hb hr (fun t ht hW => ⟨⟨(), rfl, trivial, q12, q20, q28, q36, q44, q52, q61, c12, c20, c28, c36, c44, c52, c61, by rw [ht]; exact hP, va_K.moved hW.alike hK, hD⟩, hS.F ht⟩) hS.2.2 nk_dX2_66
theorem nk_gX2 : GoodIn nw_tb nk_WX2 := nk_good nk_w86
theorem nk_dX3_0 : decode cX3_init 0 = .ok (.aload_n 0, 1) := by decide +kernel
theorem nk_dX3_1 : decode cX3_init 1 = .ok (.invokespecial 1, 3) := by decide +kernel
theorem nk_dX3_4 : decode cX3_init 4 = .ok (.aload_n 0, 1) := by decide +kernel
theorem nk_dX3_5 : decode cX3_init 5 = .ok (.iconst 0, 1) := by decide +kernel
theorem nk_dX3_6 : decode cX3_init 6 = .ok (.putfield 7, 3) := by decide +kernel
theorem nk_dX3_9 : decode cX3_init 9 = .ok (.aload_n 0, 1) := by decide +kernel
theorem nk_dX3_10 : decode cX3_init 10 = .ok (.iconst 0, 1) := by decide +kernel
theorem nk_dX3_11 : decode cX3_init 11 = .ok (.putfield 13, 3) := by decide +kernel
theorem nk_dX3_14 : decode cX3_init 14 = .ok (.aload_n 0, 1) := by decide +kernel
theorem nk_dX3_15 : decode cX3_init 15 = .ok (.iconst 0, 1) := by decide +kernel
theorem nk_dX3_16 : decode cX3_init 16 = .ok (.putfield 16, 3) := by decide +kernel
theorem nk_dX3_19 : decode cX3_init 19 = .ok (.aload_n 0, 1) := by decide +kernel
theorem nk_dX3_20 : decode cX3_init 20 = .ok (.iconst 0, 1) := by decide +kernel
theorem nk_dX3_21 : decode cX3_init 21 = .ok (.putfield 19, 3) := by decide +kernel
theorem nk_dX3_24 : decode cX3_init 24 = .ok (.return_, 1) := by decide +kernel
def nk_WX3 : List Cond := .code yX3_init cX3_init 1 none :: nw_tb
set_option maxHeartbeats 4000000 in
set_option maxRecDepth 100000 in
theorem nk_cX3 (l : Launch) (E : va_G) (h0 sz : Nat) : Met l yX3_init nk_WX3 ({ frames := 1, cells := 0, slots := 0, locals := 34 }) (va_Pc [.ref h0] (fun U => U.heap.size = sz ∧ va_P E vwCl [(h0, .inr (3, [.int 0, .int 0, .int 0, .int 0]))] U.heap ∧ va_K E vwCl [] U ∧ va_D (fun _ => True) [(h0, .inr (3, [.int 0, .int 0, .int 0, .int 0]))])) (va_Qv (fun _ : Unit => True) (fun _ t => va_P E vwCl [(h0, .inr (3, [.int 0, .int 0, .int 0, .int 0]))] t.heap ∧ va_K E vwCl [] t ∧ va_D (va_A [(h0, .inr (3, [.int 0, .int 0, .int 0, .int 0]))] sz) [(h0, .inr (3, [.int 0, .int 0, .int 0, .int 0]))]) (va_A [(h0, .inr (3, [.int 0, .int 0, .int 0, .int 0]))] sz)) 0 0 (va_A [(h0, .inr (3, [.int 0, .int 0, .int 0, .int 0]))] sz) := by
  refine Met.ofW (cc := cX3_init) (maxL := 1) (ret := none) (by decide) rfl ?_
  intro p e s m args below meth c s₁ B hml hv
  obtain ⟨rfl, hsz, hP, hK, hD0⟩ := hv
  have hx := B.exec
  have hb := B.bytes
  have hr := B.returns
  have hts0 := atoms_spec (ws := nk_WX3) B.pre
  have hts : ∀ w ∈ nw_tb, w.before #[Value.ref h0] s = true := fun w hw => hts0 w (List.mem_cons_of_mem _ hw)
  have hown : s.vm.findClass RX3 = some m.cls := findClass_of_methodNamed B.named
  have hlocks := B.notSynchronized
  have hin : meth.name = "<init>" := (name_of_methodNamed B.named B.method).1
  subst hsz
  have hD := hD0.self (sz := s.heap.size)
  generalize hAe : va_A [(h0, .inr (3, [.int 0, .int 0, .int 0, .int 0]))] s.heap.size = A at hD ⊢
  have hA : ∀ q : Nat, s.heap.size ≤ q → A q := fun q h => by rw [← hAe]; exact Or.inr h
  have hS : va_S A s.heap s.heap [] := va_S.rf
  have hP : va_P E vwCl [(h0, .inr (3, [.int 0, .int 0, .int 0, .int 0]))] s.heap := hP
  have hl := lv_entry ([.ref h0]) (n := 1) (Nat.le_of_ble_eq_true rfl)
  rw [lg_entry_eq]
  generalize (lg_sl ([.ref h0]) ++ List.replicate (1 - (lg_sl ([.ref h0])).length) Slot.unset).toArray = ls at hl ⊢
  have hl : lv_has ls 1 [(0, .ref h0)] := hl
  refine lv_aload_n hx hb nk_dX3_0 rfl (lv_at hl 0 rfl) ?_
  refine W.objInit hx hb hown (hts _ nk_w126) (hts _ nk_w51) (hts _ nk_w52) rfl (by rw [hml]; exact hl.1) rfl nk_dX3_1 (Nat.le_of_ble_eq_true rfl) (Nat.le_of_ble_eq_true rfl) ?_
  refine W.eq (g2 := F0 m 4 ls []) rfl ?_
  refine lv_aload_n hx hb nk_dX3_4 rfl (lv_at hl 0 rfl) ?_
  refine lv_iconst (v := 0) hx hb nk_dX3_5 (by decide) ?_
  refine va_put (D := E) (ci := 3) (v := .int 0) (ty := .int) (C := RX3) (T := TX3) (N := 4) hx hb hts nw_in3 tyX3 tyX3_ok nmX3 hown hK hP hD hS 0 rfl rfl 0 (by decide) (hts _ nk_w127) (fun _ h9 => h9) rfl (by decide +kernel) rfl rfl (Nat.le_of_ble_eq_true rfl) nk_dX3_6 (fun H locs hP hD hS => ?_)
  have hP : va_P E vwCl [(h0, .inr (3, [.int 0, .int 0, .int 0, .int 0]))] H := hP
  have hD : va_D A [(h0, .inr (3, [.int 0, .int 0, .int 0, .int 0]))] := hD
  refine lv_aload_n hx hb nk_dX3_9 rfl (lv_at hl 0 rfl) ?_
  refine lv_iconst (v := 0) hx hb nk_dX3_10 (by decide) ?_
  refine va_put (D := E) (ci := 3) (v := .int 0) (ty := .int) (C := RX3) (T := TX3) (N := 4) hx hb hts nw_in3 tyX3 tyX3_ok nmX3 hown hK hP hD hS 0 rfl rfl 1 (by decide) (hts _ nk_w129) (fun _ h9 => h9) rfl (by decide +kernel) rfl rfl (Nat.le_of_ble_eq_true rfl) nk_dX3_11 (fun H locs hP hD hS => ?_)
  have hP : va_P E vwCl [(h0, .inr (3, [.int 0, .int 0, .int 0, .int 0]))] H := hP
  have hD : va_D A [(h0, .inr (3, [.int 0, .int 0, .int 0, .int 0]))] := hD
  refine lv_aload_n hx hb nk_dX3_14 rfl (lv_at hl 0 rfl) ?_
  refine lv_iconst (v := 0) hx hb nk_dX3_15 (by decide) ?_
  refine va_put (D := E) (ci := 3) (v := .int 0) (ty := .int) (C := RX3) (T := TX3) (N := 4) hx hb hts nw_in3 tyX3 tyX3_ok nmX3 hown hK hP hD hS 0 rfl rfl 2 (by decide) (hts _ nk_w131) (fun _ h9 => h9) rfl (by decide +kernel) rfl rfl (Nat.le_of_ble_eq_true rfl) nk_dX3_16 (fun H locs hP hD hS => ?_)
  have hP : va_P E vwCl [(h0, .inr (3, [.int 0, .int 0, .int 0, .int 0]))] H := hP
  have hD : va_D A [(h0, .inr (3, [.int 0, .int 0, .int 0, .int 0]))] := hD
  refine lv_aload_n hx hb nk_dX3_19 rfl (lv_at hl 0 rfl) ?_
  refine lv_iconst (v := 0) hx hb nk_dX3_20 (by decide) ?_
  refine va_put (D := E) (ci := 3) (v := .int 0) (ty := .int) (C := RX3) (T := TX3) (N := 4) hx hb hts nw_in3 tyX3 tyX3_ok nmX3 hown hK hP hD hS 0 rfl rfl 3 (by decide) (hts _ nk_w133) (fun _ h9 => h9) rfl (by decide +kernel) rfl rfl (Nat.le_of_ble_eq_true rfl) nk_dX3_21 (fun H locs hP hD hS => ?_)
  have hP : va_P E vwCl [(h0, .inr (3, [.int 0, .int 0, .int 0, .int 0]))] H := hP
  have hD : va_D A [(h0, .inr (3, [.int 0, .int 0, .int 0, .int 0]))] := hD
  exact W.vret hx hb hr (fun t ht hW => ⟨⟨(), rfl, trivial, by rw [ht]; exact hP, va_K.moved hW.alike hK, hD⟩, hS.F ht⟩) hS.2.2 nk_dX3_24
theorem nk_gX3 : GoodIn nw_tb nk_WX3 := nk_good nk_w125
theorem nk_dX5_0 : decode cX5_init 0 = .ok (.aload_n 0, 1) := by decide +kernel
theorem nk_dX5_1 : decode cX5_init 1 = .ok (.invokespecial 1, 3) := by decide +kernel
theorem nk_dX5_4 : decode cX5_init 4 = .ok (.aload_n 0, 1) := by decide +kernel
theorem nk_dX5_5 : decode cX5_init 5 = .ok (.iconst 5, 1) := by decide +kernel
theorem nk_dX5_6 : decode cX5_init 6 = .ok (.newarray .int, 2) := by decide +kernel
theorem nk_dX5_8 : decode cX5_init 8 = .ok (.putfield 7, 3) := by decide +kernel
theorem nk_dX5_11 : decode cX5_init 11 = .ok (.aload_n 0, 1) := by decide +kernel
theorem nk_dX5_12 : decode cX5_init 12 = .ok (.bipush 30, 2) := by decide +kernel
theorem nk_dX5_14 : decode cX5_init 14 = .ok (.newarray .int, 2) := by decide +kernel
theorem nk_dX5_16 : decode cX5_init 16 = .ok (.putfield 13, 3) := by decide +kernel
theorem nk_dX5_19 : decode cX5_init 19 = .ok (.aload_n 0, 1) := by decide +kernel
theorem nk_dX5_20 : decode cX5_init 20 = .ok (.bipush 12, 2) := by decide +kernel
theorem nk_dX5_22 : decode cX5_init 22 = .ok (.newarray .int, 2) := by decide +kernel
theorem nk_dX5_24 : decode cX5_init 24 = .ok (.putfield 16, 3) := by decide +kernel
theorem nk_dX5_27 : decode cX5_init 27 = .ok (.aload_n 0, 1) := by decide +kernel
theorem nk_dX5_28 : decode cX5_init 28 = .ok (.bipush 12, 2) := by decide +kernel
theorem nk_dX5_30 : decode cX5_init 30 = .ok (.newarray .int, 2) := by decide +kernel
theorem nk_dX5_32 : decode cX5_init 32 = .ok (.putfield 19, 3) := by decide +kernel
theorem nk_dX5_35 : decode cX5_init 35 = .ok (.aload_n 0, 1) := by decide +kernel
theorem nk_dX5_36 : decode cX5_init 36 = .ok (.bipush 12, 2) := by decide +kernel
theorem nk_dX5_38 : decode cX5_init 38 = .ok (.newarray .int, 2) := by decide +kernel
theorem nk_dX5_40 : decode cX5_init 40 = .ok (.putfield 22, 3) := by decide +kernel
theorem nk_dX5_43 : decode cX5_init 43 = .ok (.aload_n 0, 1) := by decide +kernel
theorem nk_dX5_44 : decode cX5_init 44 = .ok (.bipush 12, 2) := by decide +kernel
theorem nk_dX5_46 : decode cX5_init 46 = .ok (.newarray .int, 2) := by decide +kernel
theorem nk_dX5_48 : decode cX5_init 48 = .ok (.putfield 25, 3) := by decide +kernel
theorem nk_dX5_51 : decode cX5_init 51 = .ok (.aload_n 0, 1) := by decide +kernel
theorem nk_dX5_52 : decode cX5_init 52 = .ok (.bipush 12, 2) := by decide +kernel
theorem nk_dX5_54 : decode cX5_init 54 = .ok (.newarray .int, 2) := by decide +kernel
theorem nk_dX5_56 : decode cX5_init 56 = .ok (.putfield 28, 3) := by decide +kernel
theorem nk_dX5_59 : decode cX5_init 59 = .ok (.aload_n 0, 1) := by decide +kernel
theorem nk_dX5_60 : decode cX5_init 60 = .ok (.bipush 12, 2) := by decide +kernel
theorem nk_dX5_62 : decode cX5_init 62 = .ok (.newarray .int, 2) := by decide +kernel
theorem nk_dX5_64 : decode cX5_init 64 = .ok (.putfield 31, 3) := by decide +kernel
theorem nk_dX5_67 : decode cX5_init 67 = .ok (.aload_n 0, 1) := by decide +kernel
theorem nk_dX5_68 : decode cX5_init 68 = .ok (.sipush 7776, 3) := by decide +kernel
theorem nk_dX5_71 : decode cX5_init 71 = .ok (.newarray .int, 2) := by decide +kernel
theorem nk_dX5_73 : decode cX5_init 73 = .ok (.putfield 34, 3) := by decide +kernel
theorem nk_dX5_76 : decode cX5_init 76 = .ok (.aload_n 0, 1) := by decide +kernel
theorem nk_dX5_77 : decode cX5_init 77 = .ok (.sipush 4096, 3) := by decide +kernel
theorem nk_dX5_80 : decode cX5_init 80 = .ok (.newarray .boolean, 2) := by decide +kernel
theorem nk_dX5_82 : decode cX5_init 82 = .ok (.putfield 37, 3) := by decide +kernel
theorem nk_dX5_85 : decode cX5_init 85 = .ok (.aload_n 0, 1) := by decide +kernel
theorem nk_dX5_86 : decode cX5_init 86 = .ok (.iconst 5, 1) := by decide +kernel
theorem nk_dX5_87 : decode cX5_init 87 = .ok (.newarray .int, 2) := by decide +kernel
theorem nk_dX5_89 : decode cX5_init 89 = .ok (.putfield 41, 3) := by decide +kernel
theorem nk_dX5_92 : decode cX5_init 92 = .ok (.aload_n 0, 1) := by decide +kernel
theorem nk_dX5_93 : decode cX5_init 93 = .ok (.iconst 0, 1) := by decide +kernel
theorem nk_dX5_94 : decode cX5_init 94 = .ok (.putfield 44, 3) := by decide +kernel
theorem nk_dX5_97 : decode cX5_init 97 = .ok (.return_, 1) := by decide +kernel
def nk_WX5 : List Cond := .code yX5_init cX5_init 1 none :: nw_tb
set_option maxHeartbeats 4000000 in
set_option maxRecDepth 100000 in
theorem nk_cX5 (l : Launch) (E : va_G) (h0 sz : Nat) : Met l yX5_init nk_WX5 ({ frames := 1, cells := 11, slots := 11984, locals := 34 }) (va_Pc [.ref h0] (fun U => U.heap.size = sz ∧ va_P E vwCl [(h0, .inr (5, [.int 0, .null, .null, .int 0, .null, .null, .null, .null, .null, .null, .null, .int 0, .null, .null, .int 0]))] U.heap ∧ va_K E vwCl [] U ∧ va_D (fun _ => True) [(h0, .inr (5, [.int 0, .null, .null, .int 0, .null, .null, .null, .null, .null, .null, .null, .int 0, .null, .null, .int 0]))])) (va_Qv (fun _ : Unit => True) (fun _ t => ∃ (q6 q14 q22 q30 q38 q46 q54 q62 q71 q80 q87 : Nat) (c6 c14 c22 c30 c38 c46 c54 c62 c71 c80 c87 : ClassId), va_P E vwCl [(h0, .inr (5, [.int 0, .ref q6, .ref q14, .int 0, .ref q22, .ref q30, .ref q38, .ref q46, .ref q54, .ref q62, .ref q71, .int 0, .ref q80, .ref q87, .int 0])), (q6, .inl (c6, 5, .inl (fun _ => 0))), (q14, .inl (c14, 30, .inl (fun _ => 0))), (q22, .inl (c22, 12, .inl (fun _ => 0))), (q30, .inl (c30, 12, .inl (fun _ => 0))), (q38, .inl (c38, 12, .inl (fun _ => 0))), (q46, .inl (c46, 12, .inl (fun _ => 0))), (q54, .inl (c54, 12, .inl (fun _ => 0))), (q62, .inl (c62, 12, .inl (fun _ => 0))), (q71, .inl (c71, 7776, .inl (fun _ => 0))), (q80, .inl (c80, 4096, .inl (fun _ => 0))), (q87, .inl (c87, 5, .inl (fun _ => 0)))] t.heap ∧ va_K E vwCl [(c6, .int), (c14, .int), (c22, .int), (c30, .int), (c38, .int), (c46, .int), (c54, .int), (c62, .int), (c71, .int), (c80, .boolean), (c87, .int)] t ∧ va_D (va_A [(h0, .inr (5, [.int 0, .null, .null, .int 0, .null, .null, .null, .null, .null, .null, .null, .int 0, .null, .null, .int 0]))] sz) [(h0, .inr (5, [.int 0, .ref q6, .ref q14, .int 0, .ref q22, .ref q30, .ref q38, .ref q46, .ref q54, .ref q62, .ref q71, .int 0, .ref q80, .ref q87, .int 0])), (q6, .inl (c6, 5, .inl (fun _ => 0))), (q14, .inl (c14, 30, .inl (fun _ => 0))), (q22, .inl (c22, 12, .inl (fun _ => 0))), (q30, .inl (c30, 12, .inl (fun _ => 0))), (q38, .inl (c38, 12, .inl (fun _ => 0))), (q46, .inl (c46, 12, .inl (fun _ => 0))), (q54, .inl (c54, 12, .inl (fun _ => 0))), (q62, .inl (c62, 12, .inl (fun _ => 0))), (q71, .inl (c71, 7776, .inl (fun _ => 0))), (q80, .inl (c80, 4096, .inl (fun _ => 0))), (q87, .inl (c87, 5, .inl (fun _ => 0)))]) (va_A [(h0, .inr (5, [.int 0, .null, .null, .int 0, .null, .null, .null, .null, .null, .null, .null, .int 0, .null, .null, .int 0]))] sz)) 11 11984 (va_A [(h0, .inr (5, [.int 0, .null, .null, .int 0, .null, .null, .null, .null, .null, .null, .null, .int 0, .null, .null, .int 0]))] sz) := by
  refine Met.ofW (cc := cX5_init) (maxL := 1) (ret := none) (by decide) rfl ?_
  intro p e s m args below meth c s₁ B hml hv
  obtain ⟨rfl, hsz, hP, hK, hD0⟩ := hv
  have hx := B.exec
  have hb := B.bytes
  have hr := B.returns
  have hts0 := atoms_spec (ws := nk_WX5) B.pre
  have hts : ∀ w ∈ nw_tb, w.before #[Value.ref h0] s = true := fun w hw => hts0 w (List.mem_cons_of_mem _ hw)
  have hown : s.vm.findClass RX5 = some m.cls := findClass_of_methodNamed B.named
  have hlocks := B.notSynchronized
  have hin : meth.name = "<init>" := (name_of_methodNamed B.named B.method).1
  subst hsz
  have hD := hD0.self (sz := s.heap.size)
  generalize hAe : va_A [(h0, .inr (5, [.int 0, .null, .null, .int 0, .null, .null, .null, .null, .null, .null, .null, .int 0, .null, .null, .int 0]))] s.heap.size = A at hD ⊢
  have hA : ∀ q : Nat, s.heap.size ≤ q → A q := fun q h => by rw [← hAe]; exact Or.inr h
  have hS : va_S A s.heap s.heap [] := va_S.rf
  have hP : va_P E vwCl [(h0, .inr (5, [.int 0, .null, .null, .int 0, .null, .null, .null, .null, .null, .null, .null, .int 0, .null, .null, .int 0]))] s.heap := hP
  have hl := lv_entry ([.ref h0]) (n := 1) (Nat.le_of_ble_eq_true rfl)
  rw [lg_entry_eq]
  generalize (lg_sl ([.ref h0]) ++ List.replicate (1 - (lg_sl ([.ref h0])).length) Slot.unset).toArray = ls at hl ⊢
  have hl : lv_has ls 1 [(0, .ref h0)] := hl
  refine lv_aload_n hx hb nk_dX5_0 rfl (lv_at hl 0 rfl) ?_
  refine W.objInit hx hb hown (hts _ nk_w461) (hts _ nk_w51) (hts _ nk_w52) rfl (by rw [hml]; exact hl.1) rfl nk_dX5_1 (Nat.le_of_ble_eq_true rfl) (Nat.le_of_ble_eq_true rfl) ?_
  refine W.eq (g2 := F0 m 4 ls []) rfl ?_
  refine lv_aload_n hx hb nk_dX5_4 rfl (lv_at hl 0 rfl) ?_
  refine lv_iconst (v := 5) hx hb nk_dX5_5 (by decide) ?_
  refine va_newa (atype := .int) (ty := .int) (n := 5) (N' := 5) (a0 := (5, .inl (fun _ => 0))) hx hb (hts _ nk_w81) rfl hK hP hD hS hA (fun _ => rfl) (by decide) (by decide) (by decide) (Nat.le_of_ble_eq_true rfl) (Nat.le_of_ble_eq_true rfl) nk_dX5_6 (fun q6 c6 H hK hP hD hS => ?_)
  have hP : va_P E vwCl [(h0, .inr (5, [.int 0, .null, .null, .int 0, .null, .null, .null, .null, .null, .null, .null, .int 0, .null, .null, .int 0])), (q6, .inl (c6, 5, .inl (fun _ => 0)))] H := hP
  have hD : va_D A [(h0, .inr (5, [.int 0, .null, .null, .int 0, .null, .null, .null, .null, .null, .null, .null, .int 0, .null, .null, .int 0])), (q6, .inl (c6, 5, .inl (fun _ => 0)))] := hD
  have hK : va_K E vwCl [(c6, .int)] s := hK
  refine W.widen (k := 1) (n := 5) (Nat.le_of_ble_eq_true rfl) (Nat.le_of_ble_eq_true rfl) ?_
  refine va_putF (D := E) (ci := 5) (v := .ref q6) (ty := .array .int) (C := RX5) (T := TX5) (N := 15) hx hb hts nw_in5 tyX5 tyX5_ok nmX5 hown hK hP hD hS 0 rfl rfl 1 (by decide) (hts _ nk_w463) (fun _ h9 => h9) rfl hin rfl (by decide +kernel) rfl rfl (Nat.le_of_ble_eq_true rfl) nk_dX5_8 (fun H locs hP hD hS => ?_)
  have hP : va_P E vwCl [(h0, .inr (5, [.int 0, .ref q6, .null, .int 0, .null, .null, .null, .null, .null, .null, .null, .int 0, .null, .null, .int 0])), (q6, .inl (c6, 5, .inl (fun _ => 0)))] H := hP
  have hD : va_D A [(h0, .inr (5, [.int 0, .ref q6, .null, .int 0, .null, .null, .null, .null, .null, .null, .null, .int 0, .null, .null, .int 0])), (q6, .inl (c6, 5, .inl (fun _ => 0)))] := hD
  refine lv_aload_n hx hb nk_dX5_11 rfl (lv_at hl 0 rfl) ?_
  refine lv_bipush (v := 30) hx hb nk_dX5_12 (by decide) ?_
  refine va_newa (atype := .int) (ty := .int) (n := 30) (N' := 30) (a0 := (30, .inl (fun _ => 0))) hx hb (hts _ nk_w81) rfl hK hP hD hS hA (fun _ => rfl) (by decide) (by decide) (by decide) (Nat.le_of_ble_eq_true rfl) (Nat.le_of_ble_eq_true rfl) nk_dX5_14 (fun q14 c14 H hK hP hD hS => ?_)
  have hP : va_P E vwCl [(h0, .inr (5, [.int 0, .ref q6, .null, .int 0, .null, .null, .null, .null, .null, .null, .null, .int 0, .null, .null, .int 0])), (q6, .inl (c6, 5, .inl (fun _ => 0))), (q14, .inl (c14, 30, .inl (fun _ => 0)))] H := hP
  have hD : va_D A [(h0, .inr (5, [.int 0, .ref q6, .null, .int 0, .null, .null, .null, .null, .null, .null, .null, .int 0, .null, .null, .int 0])), (q6, .inl (c6, 5, .inl (fun _ => 0))), (q14, .inl (c14, 30, .inl (fun _ => 0)))] := hD
  have hK : va_K E vwCl [(c6, .int), (c14, .int)] s := hK
  refine W.widen (k := 2) (n := 35) (Nat.le_of_ble_eq_true rfl) (Nat.le_of_ble_eq_true rfl) ?_
  refine va_putF (D := E) (ci := 5) (v := .ref q14) (ty := .array .int) (C := RX5) (T := TX5) (N := 15) hx hb hts nw_in5 tyX5 tyX5_ok nmX5 hown hK hP hD hS 0 rfl rfl 2 (by decide) (hts _ nk_w464) (fun _ h9 => h9) rfl hin rfl (by decide +kernel) rfl rfl (Nat.le_of_ble_eq_true rfl) nk_dX5_16 (fun H locs hP hD hS => ?_)
  have hP : va_P E vwCl [(h0, .inr (5, [.int 0, .ref q6, .ref q14, .int 0, .null, .null, .null, .null, .null, .null, .null, .int 0, .null, .null, .int 0])), (q6, .inl (c6, 5, .inl (fun _ => 0))), (q14, .inl (c14, 30, .inl (fun _ => 0)))] H := hP
  have hD : va_D A [(h0, .inr (5, [.int 0, .ref q6, .ref q14, .int 0, .null, .null, .null, .null, .null, .null, .null, .int 0, .null, .null, .int 0])), (q6, .inl (c6, 5, .inl (fun _ => 0))), (q14, .inl (c14, 30, .inl (fun _ => 0)))] := hD
  refine lv_aload_n hx hb nk_dX5_19 rfl (lv_at hl 0 rfl) ?_
  refine lv_bipush (v := 12) hx hb nk_dX5_20 (by decide) ?_
  refine va_newa (atype := .int) (ty := .int) (n := 12) (N' := 12) (a0 := (12, .inl (fun _ => 0))) hx hb (hts _ nk_w81) rfl hK hP hD hS hA (fun _ => rfl) (by decide) (by decide) (by decide) (Nat.le_of_ble_eq_true rfl) (Nat.le_of_ble_eq_true rfl) nk_dX5_22 (fun q22 c22 H hK hP hD hS => ?_)
  have hP : va_P E vwCl [(h0, .inr (5, [.int 0, .ref q6, .ref q14, .int 0, .null, .null, .null, .null, .null, .null, .null, .int 0, .null, .null, .int 0])), (q6, .inl (c6, 5, .inl (fun _ => 0))), (q14, .inl (c14, 30, .inl (fun _ => 0))), (q22, .inl (c22, 12, .inl (fun _ => 0)))] H := hP
  have hD : va_D A [(h0, .inr (5, [.int 0, .ref q6, .ref q14, .int 0, .null, .null, .null, .null, .null, .null, .null, .int 0, .null, .null, .int 0])), (q6, .inl (c6, 5, .inl (fun _ => 0))), (q14, .inl (c14, 30, .inl (fun _ => 0))), (q22, .inl (c22, 12, .inl (fun _ => 0)))] := hD
  have hK : va_K E vwCl [(c6, .int), (c14, .int), (c22, .int)] s := hK
  refine W.widen (k := 3) (n := 47) (Nat.le_of_ble_eq_true rfl) (Nat.le_of_ble_eq_true rfl) ?_
  refine va_putF (D := E) (ci := 5) (v := .ref q22) (ty := .array .int) (C := RX5) (T := TX5) (N := 15) hx hb hts nw_in5 tyX5 tyX5_ok nmX5 hown hK hP hD hS 0 rfl rfl 4 (by decide) (hts _ nk_w466) (fun _ h9 => h9) rfl hin rfl (by decide +kernel) rfl rfl (Nat.le_of_ble_eq_true rfl) nk_dX5_24 (fun H locs hP hD hS => ?_)
  have hP : va_P E vwCl [(h0, .inr (5, [.int 0, .ref q6, .ref q14, .int 0, .ref q22, .null, .null, .null, .null, .null, .null, .int 0, .null, .null, .int 0])), (q6, .inl (c6, 5, .inl (fun _ => 0))), (q14, .inl (c14, 30, .inl (fun _ => 0))), (q22, .inl (c22, 12, .inl (fun _ => 0)))] H := hP
  have hD : va_D A [(h0, .inr (5, [.int 0, .ref q6, .ref q14, .int 0, .ref q22, .null, .null, .null, .null, .null, .null, .int 0, .null, .null, .int 0])), (q6, .inl (c6, 5, .inl (fun _ => 0))), (q14, .inl (c14, 30, .inl (fun _ => 0))), (q22, .inl (c22, 12, .inl (fun _ => 0)))] := hD
  refine lv_aload_n hx hb nk_dX5_27 rfl (lv_at hl 0 rfl) ?_
  refine lv_bipush (v := 12) hx hb nk_dX5_28 (by decide) ?_
  refine va_newa (atype := .int) (ty := .int) (n := 12) (N' := 12) (a0 := (12, .inl (fun _ => 0))) hx hb (hts _ nk_w81) rfl hK hP hD hS hA (fun _ => rfl) (by decide) (by decide) (by decide) (Nat.le_of_ble_eq_true rfl) (Nat.le_of_ble_eq_true rfl) nk_dX5_30 (fun q30 c30 H hK hP hD hS => ?_)
  have hP : va_P E vwCl [(h0, .inr (5, [.int 0, .ref q6, .ref q14, .int 0, .ref q22, .null, .null, .null, .null, .null, .null, .int 0, .null, .null, .int 0])), (q6, .inl (c6, 5, .inl (fun _ => 0))), (q14, .inl (c14, 30, .inl (fun _ => 0))), (q22, .inl (c22, 12, .inl (fun _ => 0))), (q30, .inl (c30, 12, .inl (fun _ => 0)))] H := hP
  have hD : va_D A [(h0, .inr (5, [.int 0, .ref q6, .ref q14, .int 0, .ref q22, .null, .null, .null, .null, .null, .null, .int 0, .null, .null, .int 0])), (q6, .inl (c6, 5, .inl (fun _ => 0))), (q14, .inl (c14, 30, .inl (fun _ => 0))), (q22, .inl (c22, 12, .inl (fun _ => 0))), (q30, .inl (c30, 12, .inl (fun _ => 0)))] := hD
  have hK : va_K E vwCl [(c6, .int), (c14, .int), (c22, .int), (c30, .int)] s := hK
  refine W.widen (k := 4) (n := 59) (Nat.le_of_ble_eq_true rfl) (Nat.le_of_ble_eq_true rfl) ?_
  refine va_putF (D := E) (ci := 5) (v := .ref q30) (ty := .array .int) (C := RX5) (T := TX5) (N := 15) hx hb hts nw_in5 tyX5 tyX5_ok nmX5 hown hK hP hD hS 0 rfl rfl 5 (by decide) (hts _ nk_w467) (fun _ h9 => h9) rfl hin rfl (by decide +kernel) rfl rfl (Nat.le_of_ble_eq_true rfl) nk_dX5_32 (fun H locs hP hD hS => ?_)
  have hP : va_P E vwCl [(h0, .inr (5, [.int 0, .ref q6, .ref q14, .int 0, .ref q22, .ref q30, .null, .null, .null, .null, .null, .int 0, .null, .null, .int 0])), (q6, .inl (c6, 5, .inl (fun _ => 0))), (q14, .inl (c14, 30, .inl (fun _ => 0))), (q22, .inl (c22, 12, .inl (fun _ => 0))), (q30, .inl (c30, 12, .inl (fun _ => 0)))] H := hP
  have hD : va_D A [(h0, .inr (5, [.int 0, .ref q6, .ref q14, .int 0, .ref q22, .ref q30, .null, .null, .null, .null, .null, .int 0, .null, .null, .int 0])), (q6, .inl (c6, 5, .inl (fun _ => 0))), (q14, .inl (c14, 30, .inl (fun _ => 0))), (q22, .inl (c22, 12, .inl (fun _ => 0))), (q30, .inl (c30, 12, .inl (fun _ => 0)))] := hD
  refine lv_aload_n hx hb nk_dX5_35 rfl (lv_at hl 0 rfl) ?_
  refine lv_bipush (v := 12) hx hb nk_dX5_36 (by decide) ?_
  refine va_newa (atype := .int) (ty := .int) (n := 12) (N' := 12) (a0 := (12, .inl (fun _ => 0))) hx hb (hts _ nk_w81) rfl hK hP hD hS hA (fun _ => rfl) (by decide) (by decide) (by decide) (Nat.le_of_ble_eq_true rfl) (Nat.le_of_ble_eq_true rfl) nk_dX5_38 (fun q38 c38 H hK hP hD hS => ?_)
  have hP : va_P E vwCl [(h0, .inr (5, [.int 0, .ref q6, .ref q14, .int 0, .ref q22, .ref q30, .null, .null, .null, .null, .null, .int 0, .null, .null, .int 0])), (q6, .inl (c6, 5, .inl (fun _ => 0))), (q14, .inl (c14, 30, .inl (fun _ => 0))), (q22, .inl (c22, 12, .inl (fun _ => 0))), (q30, .inl (c30, 12, .inl (fun _ => 0))), (q38, .inl (c38, 12, .inl (fun _ => 0)))] H := hP
  have hD : va_D A [(h0, .inr (5, [.int 0, .ref q6, .ref q14, .int 0, .ref q22, .ref q30, .null, .null, .null, .null, .null, .int 0, .null, .null, .int 0])), (q6, .inl (c6, 5, .inl (fun _ => 0))), (q14, .inl (c14, 30, .inl (fun _ => 0))), (q22, .inl (c22, 12, .inl (fun _ => 0))), (q30, .inl (c30, 12, .inl (fun _ => 0))), (q38, .inl (c38, 12, .inl (fun _ => 0)))] := hD
  have hK : va_K E vwCl [(c6, .int), (c14, .int), (c22, .int), (c30, .int), (c38, .int)] s := hK
  refine W.widen (k := 5) (n := 71) (Nat.le_of_ble_eq_true rfl) (Nat.le_of_ble_eq_true rfl) ?_
  refine va_putF (D := E) (ci := 5) (v := .ref q38) (ty := .array .int) (C := RX5) (T := TX5) (N := 15) hx hb hts nw_in5 tyX5 tyX5_ok nmX5 hown hK hP hD hS 0 rfl rfl 6 (by decide) (hts _ nk_w468) (fun _ h9 => h9) rfl hin rfl (by decide +kernel) rfl rfl (Nat.le_of_ble_eq_true rfl) nk_dX5_40 (fun H locs hP hD hS => ?_)
  have hP : va_P E vwCl [(h0, .inr (5, [.int 0, .ref q6, .ref q14, .int 0, .ref q22, .ref q30, .ref q38, .null, .null, .null, .null, .int 0, .null, .null, .int 0])), (q6, .inl (c6, 5, .inl (fun _ => 0))), (q14, .inl (c14, 30, .inl (fun _ => 0))), (q22, .inl (c22, 12, .inl (fun _ => 0))), (q30, .inl (c30, 12, .inl (fun _ => 0))), (q38, .inl (c38, 12, .inl (fun _ => 0)))] H := hP
  have hD : va_D A [(h0, .inr (5, [.int 0, .ref q6, .ref q14, .int 0, .ref q22, .ref q30, .ref q38, .null, .null, .null, .null, .int 0, .null, .null, .int 0])), (q6, .inl (c6, 5, .inl (fun _ => 0))), (q14, .inl (c14, 30, .inl (fun _ => 0))), (q22, .inl (c22, 12, .inl (fun _ => 0))), (q30, .inl (c30, 12, .inl (fun _ => 0))), (q38, .inl (c38, 12, .inl (fun _ => 0)))] := hD
  refine lv_aload_n hx hb nk_dX5_43 rfl (lv_at hl 0 rfl) ?_
  refine lv_bipush (v := 12) hx hb nk_dX5_44 (by decide) ?_
  refine va_newa (atype := .int) (ty := .int) (n := 12) (N' := 12) (a0 := (12, .inl (fun _ => 0))) hx hb (hts _ nk_w81) rfl hK hP hD hS hA (fun _ => rfl) (by decide) (by decide) (by decide) (Nat.le_of_ble_eq_true rfl) (Nat.le_of_ble_eq_true rfl) nk_dX5_46 (fun q46 c46 H hK hP hD hS => ?_)
  have hP : va_P E vwCl [(h0, .inr (5, [.int 0, .ref q6, .ref q14, .int 0, .ref q22, .ref q30, .ref q38, .null, .null, .null, .null, .int 0, .null, .null, .int 0])), (q6, .inl (c6, 5, .inl (fun _ => 0))), (q14, .inl (c14, 30, .inl (fun _ => 0))), (q22, .inl (c22, 12, .inl (fun _ => 0))), (q30, .inl (c30, 12, .inl (fun _ => 0))), (q38, .inl (c38, 12, .inl (fun _ => 0))), (q46, .inl (c46, 12, .inl (fun _ => 0)))] H := hP
  have hD : va_D A [(h0, .inr (5, [.int 0, .ref q6, .ref q14, .int 0, .ref q22, .ref q30, .ref q38, .null, .null, .null, .null, .int 0, .null, .null, .int 0])), (q6, .inl (c6, 5, .inl (fun _ => 0))), (q14, .inl (c14, 30, .inl (fun _ => 0))), (q22, .inl (c22, 12, .inl (fun _ => 0))), (q30, .inl (c30, 12, .inl (fun _ => 0))), (q38, .inl (c38, 12, .inl (fun _ => 0))), (q46, .inl (c46, 12, .inl (fun _ => 0)))] := hD
  have hK : va_K E vwCl [(c6, .int), (c14, .int), (c22, .int), (c30, .int), (c38, .int), (c46, .int)] s := hK
  refine W.widen (k := 6) (n := 83) (Nat.le_of_ble_eq_true rfl) (Nat.le_of_ble_eq_true rfl) ?_
  refine va_putF (D := E) (ci := 5) (v := .ref q46) (ty := .array .int) (C := RX5) (T := TX5) (N := 15) hx hb hts nw_in5 tyX5 tyX5_ok nmX5 hown hK hP hD hS 0 rfl rfl 7 (by decide) (hts _ nk_w469) (fun _ h9 => h9) rfl hin rfl (by decide +kernel) rfl rfl (Nat.le_of_ble_eq_true rfl) nk_dX5_48 (fun H locs hP hD hS => ?_)
  have hP : va_P E vwCl [(h0, .inr (5, [.int 0, .ref q6, .ref q14, .int 0, .ref q22, .ref q30, .ref q38, .ref q46, .null, .null, .null, .int 0, .null, .null, .int 0])), (q6, .inl (c6, 5, .inl (fun _ => 0))), (q14, .inl (c14, 30, .inl (fun _ => 0))), (q22, .inl (c22, 12, .inl (fun _ => 0))), (q30, .inl (c30, 12, .inl (fun _ => 0))), (q38, .inl (c38, 12, .inl (fun _ => 0))), (q46, .inl (c46, 12, .inl (fun _ => 0)))] H := hP
  have hD : va_D A [(h0, .inr (5, [.int 0, .ref q6, .ref q14, .int 0, .ref q22, .ref q30, .ref q38, .ref q46, .null, .null, .null, .int 0, .null, .null, .int 0])), (q6, .inl (c6, 5, .inl (fun _ => 0))), (q14, .inl (c14, 30, .inl (fun _ => 0))), (q22, .inl (c22, 12, .inl (fun _ => 0))), (q30, .inl (c30, 12, .inl (fun _ => 0))), (q38, .inl (c38, 12, .inl (fun _ => 0))), (q46, .inl (c46, 12, .inl (fun _ => 0)))] := hD
  refine lv_aload_n hx hb nk_dX5_51 rfl (lv_at hl 0 rfl) ?_
  refine lv_bipush (v := 12) hx hb nk_dX5_52 (by decide) ?_
  refine va_newa (atype := .int) (ty := .int) (n := 12) (N' := 12) (a0 := (12, .inl (fun _ => 0))) hx hb (hts _ nk_w81) rfl hK hP hD hS hA (fun _ => rfl) (by decide) (by decide) (by decide) (Nat.le_of_ble_eq_true rfl) (Nat.le_of_ble_eq_true rfl) nk_dX5_54 (fun q54 c54 H hK hP hD hS => ?_)
  have hP : va_P E vwCl [(h0, .inr (5, [.int 0, .ref q6, .ref q14, .int 0, .ref q22, .ref q30, .ref q38, .ref q46, .null, .null, .null, .int 0, .null, .null, .int 0])), (q6, .inl (c6, 5, .inl (fun _ => 0))), (q14, .inl (c14, 30, .inl (fun _ => 0))), (q22, .inl (c22, 12, .inl (fun _ => 0))), (q30, .inl (c30, 12, .inl (fun _ => 0))), (q38, .inl (c38, 12, .inl (fun _ => 0))), (q46, .inl (c46, 12, .inl (fun _ => 0))), (q54, .inl (c54, 12, .inl (fun _ => 0)))] H := hP
  have hD : va_D A [(h0, .inr (5, [.int 0, .ref q6, .ref q14, .int 0, .ref q22, .ref q30, .ref q38, .ref q46, .null, .null, .null, .int 0, .null, .null, .int 0])), (q6, .inl (c6, 5, .inl (fun _ => 0))), (q14, .inl (c14, 30, .inl (fun _ => 0))), (q22, .inl (c22, 12, .inl (fun _ => 0))), (q30, .inl (c30, 12, .inl (fun _ => 0))), (q38, .inl (c38, 12, .inl (fun _ => 0))), (q46, .inl (c46, 12, .inl (fun _ => 0))), (q54, .inl (c54, 12, .inl (fun _ => 0)))] := hD
  have hK : va_K E vwCl [(c6, .int), (c14, .int), (c22, .int), (c30, .int), (c38, .int), (c46, .int), (c54, .int)] s := hK
  refine W.widen (k := 7) (n := 95) (Nat.le_of_ble_eq_true rfl) (Nat.le_of_ble_eq_true rfl) ?_
  refine va_putF (D := E) (ci := 5) (v := .ref q54) (ty := .array .int) (C := RX5) (T := TX5) (N := 15) hx hb hts nw_in5 tyX5 tyX5_ok nmX5 hown hK hP hD hS 0 rfl rfl 8 (by decide) (hts _ nk_w470) (fun _ h9 => h9) rfl hin rfl (by decide +kernel) rfl rfl (Nat.le_of_ble_eq_true rfl) nk_dX5_56 (fun H locs hP hD hS => ?_)
  have hP : va_P E vwCl [(h0, .inr (5, [.int 0, .ref q6, .ref q14, .int 0, .ref q22, .ref q30, .ref q38, .ref q46, .ref q54, .null, .null, .int 0, .null, .null, .int 0])), (q6, .inl (c6, 5, .inl (fun _ => 0))), (q14, .inl (c14, 30, .inl (fun _ => 0))), (q22, .inl (c22, 12, .inl (fun _ => 0))), (q30, .inl (c30, 12, .inl (fun _ => 0))), (q38, .inl (c38, 12, .inl (fun _ => 0))), (q46, .inl (c46, 12, .inl (fun _ => 0))), (q54, .inl (c54, 12, .inl (fun _ => 0)))] H := hP
  have hD : va_D A [(h0, .inr (5, [.int 0, .ref q6, .ref q14, .int 0, .ref q22, .ref q30, .ref q38, .ref q46, .ref q54, .null, .null, .int 0, .null, .null, .int 0])), (q6, .inl (c6, 5, .inl (fun _ => 0))), (q14, .inl (c14, 30, .inl (fun _ => 0))), (q22, .inl (c22, 12, .inl (fun _ => 0))), (q30, .inl (c30, 12, .inl (fun _ => 0))), (q38, .inl (c38, 12, .inl (fun _ => 0))), (q46, .inl (c46, 12, .inl (fun _ => 0))), (q54, .inl (c54, 12, .inl (fun _ => 0)))] := hD
  refine lv_aload_n hx hb nk_dX5_59 rfl (lv_at hl 0 rfl) ?_
  refine lv_bipush (v := 12) hx hb nk_dX5_60 (by decide) ?_
  refine va_newa (atype := .int) (ty := .int) (n := 12) (N' := 12) (a0 := (12, .inl (fun _ => 0))) hx hb (hts _ nk_w81) rfl hK hP hD hS hA (fun _ => rfl) (by decide) (by decide) (by decide) (Nat.le_of_ble_eq_true rfl) (Nat.le_of_ble_eq_true rfl) nk_dX5_62 (fun q62 c62 H hK hP hD hS => ?_)
  have hP : va_P E vwCl [(h0, .inr (5, [.int 0, .ref q6, .ref q14, .int 0, .ref q22, .ref q30, .ref q38, .ref q46, .ref q54, .null, .null, .int 0, .null, .null, .int 0])), (q6, .inl (c6, 5, .inl (fun _ => 0))), (q14, .inl (c14, 30, .inl (fun _ => 0))), (q22, .inl (c22, 12, .inl (fun _ => 0))), (q30, .inl (c30, 12, .inl (fun _ => 0))), (q38, .inl (c38, 12, .inl (fun _ => 0))), (q46, .inl (c46, 12, .inl (fun _ => 0))), (q54, .inl (c54, 12, .inl (fun _ => 0))), (q62, .inl (c62, 12, .inl (fun _ => 0)))] H := hP
  have hD : va_D A [(h0, .inr (5, [.int 0, .ref q6, .ref q14, .int 0, .ref q22, .ref q30, .ref q38, .ref q46, .ref q54, .null, .null, .int 0, .null, .null, .int 0])), (q6, .inl (c6, 5, .inl (fun _ => 0))), (q14, .inl (c14, 30, .inl (fun _ => 0))), (q22, .inl (c22, 12, .inl (fun _ => 0))), (q30, .inl (c30, 12, .inl (fun _ => 0))), (q38, .inl (c38, 12, .inl (fun _ => 0))), (q46, .inl (c46, 12, .inl (fun _ => 0))), (q54, .inl (c54, 12, .inl (fun _ => 0))), (q62, .inl (c62, 12, .inl (fun _ => 0)))] := hD
  have hK : va_K E vwCl [(c6, .int), (c14, .int), (c22, .int), (c30, .int), (c38, .int), (c46, .int), (c54, .int), (c62, .int)] s := hK
  refine W.widen (k := 8) (n := 107) (Nat.le_of_ble_eq_true rfl) (Nat.le_of_ble_eq_true rfl) ?_
  refine va_putF (D := E) (ci := 5) (v := .ref q62) (ty := .array .int) (C := RX5) (T := TX5) (N := 15) hx hb hts nw_in5 tyX5 tyX5_ok nmX5 hown hK hP hD hS 0 rfl rfl 9 (by decide) (hts _ nk_w471) (fun _ h9 => h9) rfl hin rfl (by decide +kernel) rfl rfl (Nat.le_of_ble_eq_true rfl) nk_dX5_64 (fun H locs hP hD hS => ?_)
  have hP : va_P E vwCl [(h0, .inr (5, [.int 0, .ref q6, .ref q14, .int 0, .ref q22, .ref q30, .ref q38, .ref q46, .ref q54, .ref q62, .null, .int 0, .null, .null, .int 0])), (q6, .inl (c6, 5, .inl (fun _ => 0))), (q14, .inl (c14, 30, .inl (fun _ => 0))), (q22, .inl (c22, 12, .inl (fun _ => 0))), (q30, .inl (c30, 12, .inl (fun _ => 0))), (q38, .inl (c38, 12, .inl (fun _ => 0))), (q46, .inl (c46, 12, .inl (fun _ => 0))), (q54, .inl (c54, 12, .inl (fun _ => 0))), (q62, .inl (c62, 12, .inl (fun _ => 0)))] H := hP
  have hD : va_D A [(h0, .inr (5, [.int 0, .ref q6, .ref q14, .int 0, .ref q22, .ref q30, .ref q38, .ref q46, .ref q54, .ref q62, .null, .int 0, .null, .null, .int 0])), (q6, .inl (c6, 5, .inl (fun _ => 0))), (q14, .inl (c14, 30, .inl (fun _ => 0))), (q22, .inl (c22, 12, .inl (fun _ => 0))), (q30, .inl (c30, 12, .inl (fun _ => 0))), (q38, .inl (c38, 12, .inl (fun _ => 0))), (q46, .inl (c46, 12, .inl (fun _ => 0))), (q54, .inl (c54, 12, .inl (fun _ => 0))), (q62, .inl (c62, 12, .inl (fun _ => 0)))] := hD
  refine lv_aload_n hx hb nk_dX5_67 rfl (lv_at hl 0 rfl) ?_
  refine lv_sipush (v := 7776) hx hb nk_dX5_68 (by decide) ?_
  refine va_newa (atype := .int) (ty := .int) (n := 7776) (N' := 7776) (a0 := (7776, .inl (fun _ => 0))) hx hb (hts _ nk_w81) rfl hK hP hD hS hA (fun _ => rfl) (by decide) (by decide) (by decide) (Nat.le_of_ble_eq_true rfl) (Nat.le_of_ble_eq_true rfl) nk_dX5_71 (fun q71 c71 H hK hP hD hS => ?_)
  have hP : va_P E vwCl [(h0, .inr (5, [.int 0, .ref q6, .ref q14, .int 0, .ref q22, .ref q30, .ref q38, .ref q46, .ref q54, .ref q62, .null, .int 0, .null, .null, .int 0])), (q6, .inl (c6, 5, .inl (fun _ => 0))), (q14, .inl (c14, 30, .inl (fun _ => 0))), (q22, .inl (c22, 12, .inl (fun _ => 0))), (q30, .inl (c30, 12, .inl (fun _ => 0))), (q38, .inl (c38, 12, .inl (fun _ => 0))), (q46, .inl (c46, 12, .inl (fun _ => 0))), (q54, .inl (c54, 12, .inl (fun _ => 0))), (q62, .inl (c62, 12, .inl (fun _ => 0))), (q71, .inl (c71, 7776, .inl (fun _ => 0)))] H := hP
  have hD : va_D A [(h0, .inr (5, [.int 0, .ref q6, .ref q14, .int 0, .ref q22, .ref q30, .ref q38, .ref q46, .ref q54, .ref q62, .null, .int 0, .null, .null, .int 0])), (q6, .inl (c6, 5, .inl (fun _ => 0))), (q14, .inl (c14, 30, .inl (fun _ => 0))), (q22, .inl (c22, 12, .inl (fun _ => 0))), (q30, .inl (c30, 12, .inl (fun _ => 0))), (q38, .inl (c38, 12, .inl (fun _ => 0))), (q46, .inl (c46, 12, .inl (fun _ => 0))), (q54, .inl (c54, 12, .inl (fun _ => 0))), (q62, .inl (c62, 12, .inl (fun _ => 0))), (q71, .inl (c71, 7776, .inl (fun _ => 0)))] := hD
  have hK : va_K E vwCl [(c6, .int), (c14, .int), (c22, .int), (c30, .int), (c38, .int), (c46, .int), (c54, .int), (c62, .int), (c71, .int)] s := hK
  refine W.widen (k := 9) (n := 7883) (Nat.le_of_ble_eq_true rfl) (Nat.le_of_ble_eq_true rfl) ?_
  refine va_putF (D := E) (ci := 5) (v := .ref q71) (ty := .array .int) (C := RX5) (T := TX5) (N := 15) hx hb hts nw_in5 tyX5 tyX5_ok nmX5 hown hK hP hD hS 0 rfl rfl 10 (by decide) (hts _ nk_w472) (fun _ h9 => h9) rfl hin rfl (by decide +kernel) rfl rfl (Nat.le_of_ble_eq_true rfl) nk_dX5_73 (fun H locs hP hD hS => ?_)
  have hP : va_P E vwCl [(h0, .inr (5, [.int 0, .ref q6, .ref q14, .int 0, .ref q22, .ref q30, .ref q38, .ref q46, .ref q54, .ref q62, .ref q71, .int 0, .null, .null, .int 0])), (q6, .inl (c6, 5, .inl (fun _ => 0))), (q14, .inl (c14, 30, .inl (fun _ => 0))), (q22, .inl (c22, 12, .inl (fun _ => 0))), (q30, .inl (c30, 12, .inl (fun _ => 0))), (q38, .inl (c38, 12, .inl (fun _ => 0))), (q46, .inl (c46, 12, .inl (fun _ => 0))), (q54, .inl (c54, 12, .inl (fun _ => 0))), (q62, .inl (c62, 12, .inl (fun _ => 0))), (q71, .inl (c71, 7776, .inl (fun _ => 0)))] H := hP
  have hD : va_D A [(h0, .inr (5, [.int 0, .ref q6, .ref q14, .int 0, .ref q22, .ref q30, .ref q38, .ref q46, .ref q54, .ref q62, .ref q71, .int 0, .null, .null, .int 0])), (q6, .inl (c6, 5, .inl (fun _ => 0))), (q14, .inl (c14, 30, .inl (fun _ => 0))), (q22, .inl (c22, 12, .inl (fun _ => 0))), (q30, .inl (c30, 12, .inl (fun _ => 0))), (q38, .inl (c38, 12, .inl (fun _ => 0))), (q46, .inl (c46, 12, .inl (fun _ => 0))), (q54, .inl (c54, 12, .inl (fun _ => 0))), (q62, .inl (c62, 12, .inl (fun _ => 0))), (q71, .inl (c71, 7776, .inl (fun _ => 0)))] := hD
  refine lv_aload_n hx hb nk_dX5_76 rfl (lv_at hl 0 rfl) ?_
  refine lv_sipush (v := 4096) hx hb nk_dX5_77 (by decide) ?_
  refine va_newa (atype := .boolean) (ty := .boolean) (n := 4096) (N' := 4096) (a0 := (4096, .inl (fun _ => 0))) hx hb (hts _ nk_w161) rfl hK hP hD hS hA (fun _ => rfl) (by decide) (by decide) (by decide) (Nat.le_of_ble_eq_true rfl) (Nat.le_of_ble_eq_true rfl) nk_dX5_80 (fun q80 c80 H hK hP hD hS => ?_)
  have hP : va_P E vwCl [(h0, .inr (5, [.int 0, .ref q6, .ref q14, .int 0, .ref q22, .ref q30, .ref q38, .ref q46, .ref q54, .ref q62, .ref q71, .int 0, .null, .null, .int 0])), (q6, .inl (c6, 5, .inl (fun _ => 0))), (q14, .inl (c14, 30, .inl (fun _ => 0))), (q22, .inl (c22, 12, .inl (fun _ => 0))), (q30, .inl (c30, 12, .inl (fun _ => 0))), (q38, .inl (c38, 12, .inl (fun _ => 0))), (q46, .inl (c46, 12, .inl (fun _ => 0))), (q54, .inl (c54, 12, .inl (fun _ => 0))), (q62, .inl (c62, 12, .inl (fun _ => 0))), (q71, .inl (c71, 7776, .inl (fun _ => 0))), (q80, .inl (c80, 4096, .inl (fun _ => 0)))] H := hP
  have hD : va_D A [(h0, .inr (5, [.int 0, .ref q6, .ref q14, .int 0, .ref q22, .ref q30, .ref q38, .ref q46, .ref q54, .ref q62, .ref q71, .int 0, .null, .null, .int 0])), (q6, .inl (c6, 5, .inl (fun _ => 0))), (q14, .inl (c14, 30, .inl (fun _ => 0))), (q22, .inl (c22, 12, .inl (fun _ => 0))), (q30, .inl (c30, 12, .inl (fun _ => 0))), (q38, .inl (c38, 12, .inl (fun _ => 0))), (q46, .inl (c46, 12, .inl (fun _ => 0))), (q54, .inl (c54, 12, .inl (fun _ => 0))), (q62, .inl (c62, 12, .inl (fun _ => 0))), (q71, .inl (c71, 7776, .inl (fun _ => 0))), (q80, .inl (c80, 4096, .inl (fun _ => 0)))] := hD
  have hK : va_K E vwCl [(c6, .int), (c14, .int), (c22, .int), (c30, .int), (c38, .int), (c46, .int), (c54, .int), (c62, .int), (c71, .int), (c80, .boolean)] s := hK
  refine W.widen (k := 10) (n := 11979) (Nat.le_of_ble_eq_true rfl) (Nat.le_of_ble_eq_true rfl) ?_
  refine va_putF (D := E) (ci := 5) (v := .ref q80) (ty := .array .boolean) (C := RX5) (T := TX5) (N := 15) hx hb hts nw_in5 tyX5 tyX5_ok nmX5 hown hK hP hD hS 0 rfl rfl 12 (by decide) (hts _ nk_w474) (fun _ h9 => h9) rfl hin rfl (by decide +kernel) rfl rfl (Nat.le_of_ble_eq_true rfl) nk_dX5_82 (fun H locs hP hD hS => ?_)
  have hP : va_P E vwCl [(h0, .inr (5, [.int 0, .ref q6, .ref q14, .int 0, .ref q22, .ref q30, .ref q38, .ref q46, .ref q54, .ref q62, .ref q71, .int 0, .ref q80, .null, .int 0])), (q6, .inl (c6, 5, .inl (fun _ => 0))), (q14, .inl (c14, 30, .inl (fun _ => 0))), (q22, .inl (c22, 12, .inl (fun _ => 0))), (q30, .inl (c30, 12, .inl (fun _ => 0))), (q38, .inl (c38, 12, .inl (fun _ => 0))), (q46, .inl (c46, 12, .inl (fun _ => 0))), (q54, .inl (c54, 12, .inl (fun _ => 0))), (q62, .inl (c62, 12, .inl (fun _ => 0))), (q71, .inl (c71, 7776, .inl (fun _ => 0))), (q80, .inl (c80, 4096, .inl (fun _ => 0)))] H := hP
  have hD : va_D A [(h0, .inr (5, [.int 0, .ref q6, .ref q14, .int 0, .ref q22, .ref q30, .ref q38, .ref q46, .ref q54, .ref q62, .ref q71, .int 0, .ref q80, .null, .int 0])), (q6, .inl (c6, 5, .inl (fun _ => 0))), (q14, .inl (c14, 30, .inl (fun _ => 0))), (q22, .inl (c22, 12, .inl (fun _ => 0))), (q30, .inl (c30, 12, .inl (fun _ => 0))), (q38, .inl (c38, 12, .inl (fun _ => 0))), (q46, .inl (c46, 12, .inl (fun _ => 0))), (q54, .inl (c54, 12, .inl (fun _ => 0))), (q62, .inl (c62, 12, .inl (fun _ => 0))), (q71, .inl (c71, 7776, .inl (fun _ => 0))), (q80, .inl (c80, 4096, .inl (fun _ => 0)))] := hD
  refine lv_aload_n hx hb nk_dX5_85 rfl (lv_at hl 0 rfl) ?_
  refine lv_iconst (v := 5) hx hb nk_dX5_86 (by decide) ?_
  refine va_newa (atype := .int) (ty := .int) (n := 5) (N' := 5) (a0 := (5, .inl (fun _ => 0))) hx hb (hts _ nk_w81) rfl hK hP hD hS hA (fun _ => rfl) (by decide) (by decide) (by decide) (Nat.le_of_ble_eq_true rfl) (Nat.le_of_ble_eq_true rfl) nk_dX5_87 (fun q87 c87 H hK hP hD hS => ?_)
  have hP : va_P E vwCl [(h0, .inr (5, [.int 0, .ref q6, .ref q14, .int 0, .ref q22, .ref q30, .ref q38, .ref q46, .ref q54, .ref q62, .ref q71, .int 0, .ref q80, .null, .int 0])), (q6, .inl (c6, 5, .inl (fun _ => 0))), (q14, .inl (c14, 30, .inl (fun _ => 0))), (q22, .inl (c22, 12, .inl (fun _ => 0))), (q30, .inl (c30, 12, .inl (fun _ => 0))), (q38, .inl (c38, 12, .inl (fun _ => 0))), (q46, .inl (c46, 12, .inl (fun _ => 0))), (q54, .inl (c54, 12, .inl (fun _ => 0))), (q62, .inl (c62, 12, .inl (fun _ => 0))), (q71, .inl (c71, 7776, .inl (fun _ => 0))), (q80, .inl (c80, 4096, .inl (fun _ => 0))), (q87, .inl (c87, 5, .inl (fun _ => 0)))] H := hP
  have hD : va_D A [(h0, .inr (5, [.int 0, .ref q6, .ref q14, .int 0, .ref q22, .ref q30, .ref q38, .ref q46, .ref q54, .ref q62, .ref q71, .int 0, .ref q80, .null, .int 0])), (q6, .inl (c6, 5, .inl (fun _ => 0))), (q14, .inl (c14, 30, .inl (fun _ => 0))), (q22, .inl (c22, 12, .inl (fun _ => 0))), (q30, .inl (c30, 12, .inl (fun _ => 0))), (q38, .inl (c38, 12, .inl (fun _ => 0))), (q46, .inl (c46, 12, .inl (fun _ => 0))), (q54, .inl (c54, 12, .inl (fun _ => 0))), (q62, .inl (c62, 12, .inl (fun _ => 0))), (q71, .inl (c71, 7776, .inl (fun _ => 0))), (q80, .inl (c80, 4096, .inl (fun _ => 0))), (q87, .inl (c87, 5, .inl (fun _ => 0)))] := hD
  have hK : va_K E vwCl [(c6, .int), (c14, .int), (c22, .int), (c30, .int), (c38, .int), (c46, .int), (c54, .int), (c62, .int), (c71, .int), (c80, .boolean), (c87, .int)] s := hK
  refine W.widen (k := 11) (n := 11984) (Nat.le_of_ble_eq_true rfl) (Nat.le_of_ble_eq_true rfl) ?_
  refine va_putF (D := E) (ci := 5) (v := .ref q87) (ty := .array .int) (C := RX5) (T := TX5) (N := 15) hx hb hts nw_in5 tyX5 tyX5_ok nmX5 hown hK hP hD hS 0 rfl rfl 13 (by decide) (hts _ nk_w475) (fun _ h9 => h9) rfl hin rfl (by decide +kernel) rfl rfl (Nat.le_of_ble_eq_true rfl) nk_dX5_89 (fun H locs hP hD hS => ?_)
  have hP : va_P E vwCl [(h0, .inr (5, [.int 0, .ref q6, .ref q14, .int 0, .ref q22, .ref q30, .ref q38, .ref q46, .ref q54, .ref q62, .ref q71, .int 0, .ref q80, .ref q87, .int 0])), (q6, .inl (c6, 5, .inl (fun _ => 0))), (q14, .inl (c14, 30, .inl (fun _ => 0))), (q22, .inl (c22, 12, .inl (fun _ => 0))), (q30, .inl (c30, 12, .inl (fun _ => 0))), (q38, .inl (c38, 12, .inl (fun _ => 0))), (q46, .inl (c46, 12, .inl (fun _ => 0))), (q54, .inl (c54, 12, .inl (fun _ => 0))), (q62, .inl (c62, 12, .inl (fun _ => 0))), (q71, .inl (c71, 7776, .inl (fun _ => 0))), (q80, .inl (c80, 4096, .inl (fun _ => 0))), (q87, .inl (c87, 5, .inl (fun _ => 0)))] H := hP
  have hD : va_D A [(h0, .inr (5, [.int 0, .ref q6, .ref q14, .int 0, .ref q22, .ref q30, .ref q38, .ref q46, .ref q54, .ref q62, .ref q71, .int 0, .ref q80, .ref q87, .int 0])), (q6, .inl (c6, 5, .inl (fun _ => 0))), (q14, .inl (c14, 30, .inl (fun _ => 0))), (q22, .inl (c22, 12, .inl (fun _ => 0))), (q30, .inl (c30, 12, .inl (fun _ => 0))), (q38, .inl (c38, 12, .inl (fun _ => 0))), (q46, .inl (c46, 12, .inl (fun _ => 0))), (q54, .inl (c54, 12, .inl (fun _ => 0))), (q62, .inl (c62, 12, .inl (fun _ => 0))), (q71, .inl (c71, 7776, .inl (fun _ => 0))), (q80, .inl (c80, 4096, .inl (fun _ => 0))), (q87, .inl (c87, 5, .inl (fun _ => 0)))] := hD
  refine lv_aload_n hx hb nk_dX5_92 rfl (lv_at hl 0 rfl) ?_
  refine lv_iconst (v := 0) hx hb nk_dX5_93 (by decide) ?_
  refine va_put (D := E) (ci := 5) (v := .int 0) (ty := .boolean) (C := RX5) (T := TX5) (N := 15) hx hb hts nw_in5 tyX5 tyX5_ok nmX5 hown hK hP hD hS 0 rfl rfl 11 (by decide) (hts _ nk_w473) (fun _ h9 => h9) rfl (by decide +kernel) rfl rfl (Nat.le_of_ble_eq_true rfl) nk_dX5_94 (fun H locs hP hD hS => ?_)
  have hP : va_P E vwCl [(h0, .inr (5, [.int 0, .ref q6, .ref q14, .int 0, .ref q22, .ref q30, .ref q38, .ref q46, .ref q54, .ref q62, .ref q71, .int 0, .ref q80, .ref q87, .int 0])), (q6, .inl (c6, 5, .inl (fun _ => 0))), (q14, .inl (c14, 30, .inl (fun _ => 0))), (q22, .inl (c22, 12, .inl (fun _ => 0))), (q30, .inl (c30, 12, .inl (fun _ => 0))), (q38, .inl (c38, 12, .inl (fun _ => 0))), (q46, .inl (c46, 12, .inl (fun _ => 0))), (q54, .inl (c54, 12, .inl (fun _ => 0))), (q62, .inl (c62, 12, .inl (fun _ => 0))), (q71, .inl (c71, 7776, .inl (fun _ => 0))), (q80, .inl (c80, 4096, .inl (fun _ => 0))), (q87, .inl (c87, 5, .inl (fun _ => 0)))] H := hP
  have hD : va_D A [(h0, .inr (5, [.int 0, .ref q6, .ref q14, .int 0, .ref q22, .ref q30, .ref q38, .ref q46, .ref q54, .ref q62, .ref q71, .int 0, .ref q80, .ref q87, .int 0])), (q6, .inl (c6, 5, .inl (fun _ => 0))), (q14, .inl (c14, 30, .inl (fun _ => 0))), (q22, .inl (c22, 12, .inl (fun _ => 0))), (q30, .inl (c30, 12, .inl (fun _ => 0))), (q38, .inl (c38, 12, .inl (fun _ => 0))), (q46, .inl (c46, 12, .inl (fun _ => 0))), (q54, .inl (c54, 12, .inl (fun _ => 0))), (q62, .inl (c62, 12, .inl (fun _ => 0))), (q71, .inl (c71, 7776, .inl (fun _ => 0))), (q80, .inl (c80, 4096, .inl (fun _ => 0))), (q87, .inl (c87, 5, .inl (fun _ => 0)))] := hD
  exact W.vret hx hb hr (fun t ht hW => ⟨⟨(), rfl, trivial, q6, q14, q22, q30, q38, q46, q54, q62, q71, q80, q87, c6, c14, c22, c30, c38, c46, c54, c62, c71, c80, c87, by rw [ht]; exact hP, va_K.moved hW.alike hK, hD⟩, hS.F ht⟩) hS.2.2 nk_dX5_97
theorem nk_gX5 : GoodIn nw_tb nk_WX5 := nk_good nk_w460
