section NWR
variable {G : nw_G} {μ : Nat} {Ψ : Option Int → nw_S → Prop} {pc : Nat} {ls : nw_L} {st : List nw_v} {σ : nw_S}
variable {k : Nat → nw_L → List nw_v → nw_S → Prop}
theorem nw_sound {cd : List (List (Option Instr))} (hc : nw_codes[μ]? = some cd) {i : Instr} (hf : nw_fe cd pc = some i) (hk : ∀ a b c d, k a b c d → nw_V G μ Ψ a b c d) (h : nw_step G μ Ψ i pc ls st σ k) : nw_V G μ Ψ pc ls st σ := by
  have hck := nw_ckc_sp (nw_code_ok hc) hf
  unfold nw_ck at hck
  cases hdd : decode (nw_B μ) pc with
  | error x => rw [hdd] at hck; cases hck
  | ok y =>
    obtain ⟨i', n⟩ := y
    rw [hdd] at hck
    simp only [Bool.and_eq_true, Bool.or_eq_true, decide_eq_true_eq] at hck
    obtain ⟨⟨rfl, h1⟩, h2⟩ := hck
    by_cases hsw : nw_isw i' = true
    · cases i' <;> first
        | (exact absurd hsw Bool.false_ne_true)
        | skip
      rename_i d lo hi offs
      simp only [nw_jo, Bool.and_eq_true, decide_eq_true_eq, List.all_eq_true] at h2
      exact nw_s_tableswitch ⟨h2.1, fun o ho => h2.2 o ho⟩ hk hdd h
    · have h1 : n = nw_ln i' := by
        rcases h1 with h1 | h1
        · exact absurd h1 hsw
        · exact Nat.eq_of_beq_eq_true h1
      subst h1
      cases i' <;> first
        | (exact False.elim h)
        | (exact nw_s_iconst hk hdd h)
        | (exact nw_s_bipush hk hdd h)
        | (exact nw_s_sipush hk hdd h)
        | (exact nw_s_ldc hk hdd h)
        | (exact nw_s_ldc_w hk hdd h)
        | (exact nw_s_iload_n hk hdd h)
        | (exact nw_s_iload hk hdd h)
        | (exact nw_s_aload_n hk hdd h)
        | (exact nw_s_aload hk hdd h)
        | (exact nw_s_istore_n hk hdd h)
        | (exact nw_s_istore hk hdd h)
        | (exact nw_s_astore_n hk hdd h)
        | (exact nw_s_astore hk hdd h)
        | (exact nw_s_iinc hk hdd h)
        | (exact nw_s_iadd hk hdd h)
        | (exact nw_s_isub hk hdd h)
        | (exact nw_s_imul hk hdd h)
        | (exact nw_s_ineg hk hdd h)
        | (exact nw_s_idiv hk hdd h)
        | (exact nw_s_irem hk hdd h)
        | (exact nw_s_iand hk hdd h)
        | (exact nw_s_ior hk hdd h)
        | (exact nw_s_ixor hk hdd h)
        | (exact nw_s_ishl hk hdd h)
        | (exact nw_s_ishr hk hdd h)
        | (exact nw_s_iushr hk hdd h)
        | (exact nw_s_dup hk hdd h)
        | (exact nw_s_dup2 hk hdd h)
        | (exact nw_s_getfield hk hdd h)
        | (exact nw_s_putfield hk hdd h)
        | (exact nw_s_iaload hk hdd h)
        | (exact nw_s_baload hk hdd h)
        | (exact nw_s_iastore hk hdd h)
        | (exact nw_s_bastore hk hdd h)
        | (exact nw_s_arraylength hk hdd h)
        | (exact nw_s_invokevirtual hk hdd h)
        | (exact nw_s_invokestatic hk hdd h)
        | (exact nw_s_ireturn hdd h)
        | (exact nw_s_return hdd h)
        | (exact nw_s_goto (by simpa [nw_jo] using h2) hk hdd h)
        | (exact nw_s_ifCond (by simpa [nw_jo] using h2) hk hdd h)
        | (exact nw_s_if_icmp (by simpa [nw_jo] using h2) hk hdd h)
        | (exact absurd rfl hsw)
def nw_fg : Nat → nw_L → nw_L
  | _, [] => []
  | 0, _ :: l => none :: nw_fg 0 l
  | n + 1, a :: l => a :: nw_fg n l
theorem nw_fg_at : ∀ (n : Nat) (l : nw_L) (i : Nat) (v : nw_v), (nw_fg n l)[i]? = some (some v) → l[i]? = some (some v)
  | _, [], i, v, h => by simp [nw_fg] at h
  | 0, a :: l, 0, v, h => by simp [nw_fg] at h
  | 0, a :: l, i + 1, v, h => by
    simp only [nw_fg, List.getElem?_cons_succ] at h ⊢
    exact nw_fg_at 0 l i v h
  | n + 1, a :: l, 0, v, h => by simpa [nw_fg] using h
  | n + 1, a :: l, i + 1, v, h => by
    simp only [nw_fg, List.getElem?_cons_succ] at h ⊢
    exact nw_fg_at n l i v h
theorem nw_V.weak {n : Nat} (h : nw_V G μ Ψ pc (nw_fg n ls) st σ) : nw_V G μ Ψ pc ls st σ := by
  intro p e s m args below meth c cs ss Q R A hG H locs la hl hP hS
  exact h p e s m args below meth c cs ss Q R A hG H locs la ⟨hl.1, hl.2.1, fun i v hi => hl.2.2 i v (nw_fg_at n ls i v hi)⟩ hP hS
def nw_wp (G : nw_G) (μ : Nat) (Ψ : Option Int → nw_S → Prop) (cd : List (List (Option Instr))) (cuts : List (Nat × Nat)) : Nat → Nat → nw_L → List nw_v → nw_S → Prop
  | 0, pc, ls, st, σ => nw_V G μ Ψ pc ls st σ
  | n + 1, pc, ls, st, σ => nw_oS (nw_fe cd pc) fun i => nw_step G μ Ψ i pc ls st σ (fun pc ls st σ => match cuts.lookup pc with
    | some j => nw_V G μ Ψ pc (nw_fg j ls) st σ
    | none => nw_wp G μ Ψ cd cuts n pc ls st σ)
theorem nw_run {cd : List (List (Option Instr))} (hc : nw_codes[μ]? = some cd) (cuts : List (Nat × Nat)) (n : Nat) (h : nw_wp G μ Ψ cd cuts n pc ls st σ) : nw_V G μ Ψ pc ls st σ := by
  induction n generalizing pc ls st σ with
  | zero => exact h
  | succ n ih =>
    obtain ⟨i, h1, h2⟩ := nw_oS_el h
    refine nw_sound hc h1 (fun a b c d hq => ?_) h2
    cases hx : cuts.lookup a with
    | some j => rw [hx] at hq; exact nw_V.weak hq
    | none => rw [hx] at hq; exact ih hq
theorem nw_args_mem (vs : List nw_v) (i j : Nat) (v : nw_v) (h : vs[j]? = some v) : (i + j, nw_cv G v) ∈ lv_args i (vs.map (nw_cv G)) := by
  induction vs generalizing i j with
  | nil => simp at h
  | cons a r ih =>
    show _ ∈ (i, nw_cv G a) :: lv_args (if (nw_cv G a).category = 2 then i + 2 else i + 1) (r.map (nw_cv G))
    rw [nw_cat, if_neg (by decide)]
    cases j with
    | zero =>
      simp at h
      subst h
      exact List.mem_cons_self
    | succ j =>
      rw [show i + (j + 1) = i + 1 + j from by omega]
      exact List.mem_cons_of_mem _ (ih (i + 1) j (by simpa using h))
theorem nw_sl_len (vs : List nw_v) : (lg_sl (vs.map (nw_cv G))).length = vs.length := by
  induction vs with
  | nil => rfl
  | cons a r ih =>
    cases a <;> simp [lg_sl, nw_cv, Value.category] at ih ⊢ <;> omega
theorem nw_Tm_of {ν : Nat} (hν : ν < 116) {args : List nw_v} (hn : args.length ≤ nw_mL ν) (h : nw_V G ν Ψ 0 (args.map some ++ List.replicate (nw_mL ν - args.length) none) [] σ) : nw_Tm G ν args σ Ψ := by
  refine ⟨Ψ, fun _ _ q => q, Met.ofW (cc := nw_B ν) (maxL := nw_mL ν) (ret := nw_Rt ν) (List.all_eq_true.mp nw_plain ν (List.mem_range.mpr hν)) rfl ?_⟩
  intro p e s m args' below meth c s₁ B hml hv
  obtain ⟨rfl, hP, hK, hI⟩ := hv
  have hts := atoms_spec (ws := nw_W ν) B.pre
  have hown : s.vm.findClass (nw_Y ν).cls = some m.cls := findClass_of_methodNamed B.named
  have hm := nw_mo (μ := ν) (by omega)
  simp only [nw_mOK, Bool.and_eq_true, decide_eq_true_eq] at hm
  rw [hm.1.1.1] at hown
  have hlocks := B.notSynchronized
  have hl := lv_entry (args.map (nw_cv G)) (n := nw_mL ν) (by rw [nw_sl_len]; exact hn)
  rw [lg_entry_eq]
  refine h p e s m _ below meth c 0 0 _ _ (nw_A G) ⟨B.exec, B.bytes, hml, hown, fun w hw => hts w (List.mem_cons_of_mem _ hw), hK, hI, Nat.le_refl _, Nat.le_refl _, Nat.zero_le _, Nat.zero_le _, fun k hk => ⟨k, hk, rfl⟩, ?_, fun q => by omega⟩ s.heap [] _ ?_ hP va_S.rf
  · intro r u H locs pc la hrk hΨ hP1 hS1 hd
    have hr := B.returns
    rcases hR : nw_Rt ν with _ | ty
    · rw [hR] at hr hrk
      cases r with
      | some v => exact hrk.elim
      | none =>
        refine W.vret B.exec B.bytes hr (fun t ht hW => ?_) hS1.2.2 hd
        unfold nw_mQ
        rw [hR]
        exact ⟨⟨u, rfl, hΨ, by rw [ht]; exact hP1, nw_K.moved hW.alike hK⟩, hS1.F ht⟩
    · rw [hR] at hr hrk
      cases r with
      | none => cases ty <;> exact hrk.elim
      | some v =>
        have hnar : narrow ty (.int (Int32.ofInt v)) = .int (Int32.ofInt v) := by
          cases ty <;> first
            | exact vp_nar_int _
            | (rcases hrk with rfl | rfl <;> decide)
            | exact hrk.elim
        refine W.zret B.exec B.bytes hr hnar (fun t ht hW => ?_) hS1.2.2 hd
        unfold nw_mQ
        rw [hR]
        exact ⟨⟨Int32.ofInt v, (v, u), rfl, ⟨rfl, hΨ⟩, by rw [ht]; exact hP1, nw_K.moved hW.alike hK⟩, hS1.F ht⟩
  · refine ⟨hl.1, hl.2.1, fun i v hi => ?_⟩
    have hlt : i < args.length := by
      rcases Nat.lt_or_ge i args.length with q | q
      · exact q
      · rw [List.getElem?_append_right (by simpa using q)] at hi
        have := List.getElem?_replicate (a := (none : Option nw_v)) (n := nw_mL ν - args.length) (i := i - (args.map some).length)
        rw [this] at hi
        split at hi <;> simp at hi
    rw [List.getElem?_append_left (by simpa using hlt), List.getElem?_map] at hi
    have h3 : args[i]? = some v := by
      cases hq : args[i]? with
      | none => rw [hq] at hi; simp at hi
      | some w => rw [hq] at hi; simpa using hi
    have := hl.2.2 _ (nw_args_mem args 0 i v h3)
    simpa using this
theorem nw_TI_of {ν : Nat} {Φ : Int → nw_S → Prop} (hν : ν < 116) {args : List nw_v} (hn : args.length ≤ nw_mL ν) (h : nw_V G ν (nw_pi Φ) 0 (args.map some ++ List.replicate (nw_mL ν - args.length) none) [] σ) : nw_TI G ν args σ Φ := nw_Tm_of hν hn h
theorem nw_TV_of {ν : Nat} {Φ : nw_S → Prop} (hν : ν < 116) {args : List nw_v} (hn : args.length ≤ nw_mL ν) (h : nw_V G ν (nw_pv Φ) 0 (args.map some ++ List.replicate (nw_mL ν - args.length) none) [] σ) : nw_TV G ν args σ Φ := nw_Tm_of hν hn h
end NWR
