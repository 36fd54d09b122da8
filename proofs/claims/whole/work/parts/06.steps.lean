/-- what holds all through a run of method μ, from its start s on -/
def nw_Gd (G : nw_G) (μ : Nat) (Ψ : Option Int → nw_S → Prop) (p : Program) (e : Env) (s : State) (m : MethodId) (args : Array Value) (below : List Frame) (meth : Method) (c : Code) (cs ss : Nat) (Q : State → Prop) (R : Room) (A : Nat → Prop) : Prop :=
  p.tables.exec = Jvm.exec ∧ c.code = nw_B μ ∧ c.maxLocals = nw_mL μ ∧ s.vm.findClass (nw_own (nw_C μ)) = some m.cls ∧ (∀ w ∈ nw_tb, w.before args s = true) ∧ nw_K G s ∧ nw_I G ∧ nw_Lv μ ≤ R.frames ∧ 34 * nw_Lv μ ≤ R.locals ∧ cs ≤ R.cells ∧ ss ≤ R.slots ∧ (∀ k, k < 38 → A (nw_ad G k)) ∧
  (∀ (r : Option Int) (u : nw_S) (H : Heap) (locs : List Loc) (pc : Nat) (la : Array Slot), nw_rOK (nw_Rt μ) r → Ψ r u → nw_P G u H → va_S A s.heap H locs → decode (nw_B μ) pc = .ok (if r.isSome then .ireturn else .return_, 1) → W p G.1 e R s m args below meth c H locs cs ss Q (F0 m pc la (r.toList.map (fun v => Value.int (Int32.ofInt v))))) ∧
  (μ = 118 → va_X (nw_ad G 38) (nw_len G) (nw_xs G) s s.heap ∧ nw_ad G 38 < s.heap.size ∧ ¬ A (nw_ad G 38) ∧ nw_len G < 2147483648)
/-- from here on method μ comes to an end that is as Ψ says -/
def nw_V (G : nw_G) (μ : Nat) (Ψ : Option Int → nw_S → Prop) (pc : Nat) (ls : nw_L) (st : List nw_v) (σ : nw_S) : Prop :=
  ∀ (p : Program) (e : Env) (s : State) (m : MethodId) (args : Array Value) (below : List Frame) (meth : Method) (c : Code) (cs ss : Nat) (Q : State → Prop) (R : Room) (A : Nat → Prop), nw_Gd G μ Ψ p e s m args below meth c cs ss Q R A →
    ∀ (H : Heap) (locs : List Loc) (la : Array Slot), nw_lh G (nw_mL μ) la ls → nw_P G σ H → va_S A s.heap H locs → W p G.1 e R s m args below meth c H locs cs ss Q (F0 m pc la (st.map (nw_cv G)))
section NWS
variable {G : nw_G} {μ : Nat} {Ψ : Option Int → nw_S → Prop} {pc : Nat} {ls : nw_L} {st : List nw_v} {σ : nw_S}
variable {k : Nat → nw_L → List nw_v → nw_S → Prop}
theorem nw_tgt {o : Int} (h : 0 ≤ (pc : Int) + o) : (pc : Int) + o = (nw_tg pc o : Int) := by
  unfold nw_tg
  omega
theorem nw_ro_map (r : Option Int) (st : List nw_v) : (nw_ro r st).map (nw_cv G) = r.toList.map (fun v => Value.int (Int32.ofInt v)) ++ st.map (nw_cv G) := by
  cases r <;> rfl
theorem nw_room {st : List nw_v} (h : st.length ≤ 8) : ((st.map (nw_cv G)).map fun v => v.category).sum ≤ 8 := by
  have : ((st.map (nw_cv G)).map fun v => v.category).sum = st.length := by
    clear h
    induction st with
    | nil => rfl
    | cons a r ih =>
      simp only [List.map_cons, List.sum_cons, List.length_cons, nw_cat]
      omega
  omega

theorem nw_s_iconst {n : Int} (hk : ∀ a b c d, k a b c d → nw_V G μ Ψ a b c d) (hd : decode (nw_B μ) pc = .ok (.iconst n, 1)) (h : nw_step G μ Ψ (.iconst n) pc ls st σ k) : nw_V G μ Ψ pc ls st σ := by
  intro p e s m args below meth c cs ss Q R A hG H locs la hl hP hS
  obtain ⟨hx, hb, hml, hown, hts, hK, hI, hfr, hlo, hce, hsl, hA, hret, hlaw⟩ := id hG
  refine lv_iconst hx hb hd rfl ?_
  exact hk _ _ _ _ h p e s m args below meth c cs ss Q R A hG _ _ _ hl hP hS
theorem nw_s_bipush {n : Int} (hk : ∀ a b c d, k a b c d → nw_V G μ Ψ a b c d) (hd : decode (nw_B μ) pc = .ok (.bipush n, 2)) (h : nw_step G μ Ψ (.bipush n) pc ls st σ k) : nw_V G μ Ψ pc ls st σ := by
  intro p e s m args below meth c cs ss Q R A hG H locs la hl hP hS
  obtain ⟨hx, hb, hml, hown, hts, hK, hI, hfr, hlo, hce, hsl, hA, hret, hlaw⟩ := id hG
  obtain ⟨h12, h⟩ := nw_if_el h
  simp only [Bool.and_eq_true, decide_eq_true_eq] at h12
  obtain ⟨h1, h2⟩ := h12
  refine lv_bipush (v := Int32.ofInt n) hx hb hd ?_ ?_
  · rw [← Int32.toInt_inj, nw_toInt ⟨by omega, by omega⟩, Int8.toInt_toInt32, Int8.toInt_ofInt_of_le (by omega) (by omega)]
  exact hk _ _ _ _ h p e s m args below meth c cs ss Q R A hG _ _ _ hl hP hS
theorem nw_s_sipush {n : Int} (hk : ∀ a b c d, k a b c d → nw_V G μ Ψ a b c d) (hd : decode (nw_B μ) pc = .ok (.sipush n, 3)) (h : nw_step G μ Ψ (.sipush n) pc ls st σ k) : nw_V G μ Ψ pc ls st σ := by
  intro p e s m args below meth c cs ss Q R A hG H locs la hl hP hS
  obtain ⟨hx, hb, hml, hown, hts, hK, hI, hfr, hlo, hce, hsl, hA, hret, hlaw⟩ := id hG
  obtain ⟨h12, h⟩ := nw_if_el h
  simp only [Bool.and_eq_true, decide_eq_true_eq] at h12
  obtain ⟨h1, h2⟩ := h12
  refine lv_sipush (v := Int32.ofInt n) hx hb hd ?_ ?_
  · rw [← Int32.toInt_inj, nw_toInt ⟨by omega, by omega⟩, Int16.toInt_toInt32, Int16.toInt_ofInt_of_le (by omega) (by omega)]
  exact hk _ _ _ _ h p e s m args below meth c cs ss Q R A hG _ _ _ hl hP hS
theorem nw_s_ldc {idx : Nat} (hk : ∀ a b c d, k a b c d → nw_V G μ Ψ a b c d) (hd : decode (nw_B μ) pc = .ok (.ldc idx, 2)) (h : nw_step G μ Ψ (.ldc idx) pc ls st σ k) : nw_V G μ Ψ pc ls st σ := by
  intro p e s m args below meth c cs ss Q R A hG H locs la hl hP hS
  obtain ⟨hx, hb, hml, hown, hts, hK, hI, hfr, hlo, hce, hsl, hA, hret, hlaw⟩ := id hG
  obtain ⟨n, h1, h⟩ := nw_oS_el h
  refine lv_ldc (v := Int32.ofInt n) hx hb hown (hts _ (nw_k_ok _ _ (nw_look h1))) hd ?_
  exact hk _ _ _ _ h p e s m args below meth c cs ss Q R A hG _ _ _ hl hP hS
theorem nw_s_ldc_w {idx : Nat} (hk : ∀ a b c d, k a b c d → nw_V G μ Ψ a b c d) (hd : decode (nw_B μ) pc = .ok (.ldc_w idx, 3)) (h : nw_step G μ Ψ (.ldc_w idx) pc ls st σ k) : nw_V G μ Ψ pc ls st σ := by
  intro p e s m args below meth c cs ss Q R A hG H locs la hl hP hS
  obtain ⟨hx, hb, hml, hown, hts, hK, hI, hfr, hlo, hce, hsl, hA, hret, hlaw⟩ := id hG
  obtain ⟨n, h1, h⟩ := nw_oS_el h
  refine lv_ldcw (v := Int32.ofInt n) hx hb hown (hts _ (nw_k_ok _ _ (nw_look h1))) hd ?_
  exact hk _ _ _ _ h p e s m args below meth c cs ss Q R A hG _ _ _ hl hP hS
theorem nw_s_iload_n {j : Fin 4} (hk : ∀ a b c d, k a b c d → nw_V G μ Ψ a b c d) (hd : decode (nw_B μ) pc = .ok (.iload_n j, 1)) (h : nw_step G μ Ψ (.iload_n j) pc ls st σ k) : nw_V G μ Ψ pc ls st σ := by
  intro p e s m args below meth c cs ss Q R A hG H locs la hl hP hS
  obtain ⟨hx, hb, hml, hown, hts, hK, hI, hfr, hlo, hce, hsl, hA, hret, hlaw⟩ := id hG
  obtain ⟨a, h1, h⟩ := nw_lI_el h
  refine lv_iload_n hx hb hd rfl (hl.2.2 _ _ h1) ?_
  exact hk _ _ _ _ h p e s m args below meth c cs ss Q R A hG _ _ _ hl hP hS
theorem nw_s_iload {j : Nat} (hk : ∀ a b c d, k a b c d → nw_V G μ Ψ a b c d) (hd : decode (nw_B μ) pc = .ok (.iload j, 2)) (h : nw_step G μ Ψ (.iload j) pc ls st σ k) : nw_V G μ Ψ pc ls st σ := by
  intro p e s m args below meth c cs ss Q R A hG H locs la hl hP hS
  obtain ⟨hx, hb, hml, hown, hts, hK, hI, hfr, hlo, hce, hsl, hA, hret, hlaw⟩ := id hG
  obtain ⟨a, h1, h⟩ := nw_lI_el h
  refine lv_iload hx hb hd (hl.2.2 _ _ h1) ?_
  exact hk _ _ _ _ h p e s m args below meth c cs ss Q R A hG _ _ _ hl hP hS
theorem nw_s_aload_n {j : Fin 4} (hk : ∀ a b c d, k a b c d → nw_V G μ Ψ a b c d) (hd : decode (nw_B μ) pc = .ok (.aload_n j, 1)) (h : nw_step G μ Ψ (.aload_n j) pc ls st σ k) : nw_V G μ Ψ pc ls st σ := by
  intro p e s m args below meth c cs ss Q R A hG H locs la hl hP hS
  obtain ⟨hx, hb, hml, hown, hts, hK, hI, hfr, hlo, hce, hsl, hA, hret, hlaw⟩ := id hG
  obtain ⟨a, h1, h⟩ := nw_lR_el h
  refine lv_aload_n hx hb hd rfl (hl.2.2 _ _ h1) ?_
  exact hk _ _ _ _ h p e s m args below meth c cs ss Q R A hG _ _ _ hl hP hS
theorem nw_s_aload {j : Nat} (hk : ∀ a b c d, k a b c d → nw_V G μ Ψ a b c d) (hd : decode (nw_B μ) pc = .ok (.aload j, 2)) (h : nw_step G μ Ψ (.aload j) pc ls st σ k) : nw_V G μ Ψ pc ls st σ := by
  intro p e s m args below meth c cs ss Q R A hG H locs la hl hP hS
  obtain ⟨hx, hb, hml, hown, hts, hK, hI, hfr, hlo, hce, hsl, hA, hret, hlaw⟩ := id hG
  obtain ⟨a, h1, h⟩ := nw_lR_el h
  refine lv_aload hx hb hd (hl.2.2 _ _ h1) ?_
  exact hk _ _ _ _ h p e s m args below meth c cs ss Q R A hG _ _ _ hl hP hS
theorem nw_s_istore_n {j : Fin 4} (hk : ∀ a b c d, k a b c d → nw_V G μ Ψ a b c d) (hd : decode (nw_B μ) pc = .ok (.istore_n j, 1)) (h : nw_step G μ Ψ (.istore_n j) pc ls st σ k) : nw_V G μ Ψ pc ls st σ := by
  intro p e s m args below meth c cs ss Q R A hG H locs la hl hP hS
  obtain ⟨hx, hb, hml, hown, hts, hK, hI, hfr, hlo, hce, hsl, hA, hret, hlaw⟩ := id hG
  obtain ⟨h1, h⟩ := nw_if_el h
  obtain ⟨a, r, rfl, h⟩ := nw_pI_el h
  refine lv_istore_n hx hb hd rfl hl.has (Nat.le_of_ble_eq_true h1) rfl fun la' hl' => ?_
  exact hk _ _ _ _ h p e s m args below meth c cs ss Q R A hG _ _ _ (nw_lh.store (v := (.inr a)) hl') hP hS
theorem nw_s_istore {j : Nat} (hk : ∀ a b c d, k a b c d → nw_V G μ Ψ a b c d) (hd : decode (nw_B μ) pc = .ok (.istore j, 2)) (h : nw_step G μ Ψ (.istore j) pc ls st σ k) : nw_V G μ Ψ pc ls st σ := by
  intro p e s m args below meth c cs ss Q R A hG H locs la hl hP hS
  obtain ⟨hx, hb, hml, hown, hts, hK, hI, hfr, hlo, hce, hsl, hA, hret, hlaw⟩ := id hG
  obtain ⟨h1, h⟩ := nw_if_el h
  obtain ⟨a, r, rfl, h⟩ := nw_pI_el h
  refine lv_istore hx hb hd hl.has (Nat.le_of_ble_eq_true h1) rfl fun la' hl' => ?_
  exact hk _ _ _ _ h p e s m args below meth c cs ss Q R A hG _ _ _ (nw_lh.store (v := (.inr a)) hl') hP hS
theorem nw_s_astore_n {j : Fin 4} (hk : ∀ a b c d, k a b c d → nw_V G μ Ψ a b c d) (hd : decode (nw_B μ) pc = .ok (.astore_n j, 1)) (h : nw_step G μ Ψ (.astore_n j) pc ls st σ k) : nw_V G μ Ψ pc ls st σ := by
  intro p e s m args below meth c cs ss Q R A hG H locs la hl hP hS
  obtain ⟨hx, hb, hml, hown, hts, hK, hI, hfr, hlo, hce, hsl, hA, hret, hlaw⟩ := id hG
  obtain ⟨h1, h⟩ := nw_if_el h
  obtain ⟨a, r, rfl, h⟩ := nw_pR_el h
  refine lv_astore_n hx hb hd rfl hl.has (Nat.le_of_ble_eq_true h1) rfl fun la' hl' => ?_
  exact hk _ _ _ _ h p e s m args below meth c cs ss Q R A hG _ _ _ (nw_lh.store (v := (.inl a)) hl') hP hS
theorem nw_s_astore {j : Nat} (hk : ∀ a b c d, k a b c d → nw_V G μ Ψ a b c d) (hd : decode (nw_B μ) pc = .ok (.astore j, 2)) (h : nw_step G μ Ψ (.astore j) pc ls st σ k) : nw_V G μ Ψ pc ls st σ := by
  intro p e s m args below meth c cs ss Q R A hG H locs la hl hP hS
  obtain ⟨hx, hb, hml, hown, hts, hK, hI, hfr, hlo, hce, hsl, hA, hret, hlaw⟩ := id hG
  obtain ⟨h1, h⟩ := nw_if_el h
  obtain ⟨a, r, rfl, h⟩ := nw_pR_el h
  refine lv_astore hx hb hd hl.has (Nat.le_of_ble_eq_true h1) rfl fun la' hl' => ?_
  exact hk _ _ _ _ h p e s m args below meth c cs ss Q R A hG _ _ _ (nw_lh.store (v := (.inl a)) hl') hP hS
theorem nw_s_iinc {j : Nat} {n : Int} (hk : ∀ a b c d, k a b c d → nw_V G μ Ψ a b c d) (hd : decode (nw_B μ) pc = .ok (.iinc j n, 3)) (h : nw_step G μ Ψ (.iinc j n) pc ls st σ k) : nw_V G μ Ψ pc ls st σ := by
  intro p e s m args below meth c cs ss Q R A hG H locs la hl hP hS
  obtain ⟨hx, hb, hml, hown, hts, hK, hI, hfr, hlo, hce, hsl, hA, hret, hlaw⟩ := id hG
  obtain ⟨h1, h⟩ := nw_if_el h
  obtain ⟨a, h2, h⟩ := nw_lI_el h
  obtain ⟨kk, hkk⟩ := List.getElem?_of_mem (nw_lv_mem (G := G).mpr ⟨j, _, h2, rfl⟩)
  refine lv_iinc (v := Int32.ofInt (a + n)) hx hb hd hl.has (k := kk) hkk (Int32.ofInt_add a n).symm (Nat.le_of_ble_eq_true h1) rfl fun la' hl' => ?_
  exact hk _ _ _ _ h p e s m args below meth c cs ss Q R A hG _ _ _ (nw_lh.store (v := .inr (a + n)) hl') hP hS
theorem nw_s_iadd (hk : ∀ a b c d, k a b c d → nw_V G μ Ψ a b c d) (hd : decode (nw_B μ) pc = .ok (.iadd, 1)) (h : nw_step G μ Ψ (.iadd) pc ls st σ k) : nw_V G μ Ψ pc ls st σ := by
  intro p e s m args below meth c cs ss Q R A hG H locs la hl hP hS
  obtain ⟨hx, hb, hml, hown, hts, hK, hI, hfr, hlo, hce, hsl, hA, hret, hlaw⟩ := id hG
  obtain ⟨b, r, rfl, h⟩ := nw_pI_el h
  obtain ⟨a, r, rfl, h⟩ := nw_pI_el h
  refine lv_iadd hx hb hd ?_
  rw [← Int32.ofInt_add]
  exact hk _ _ _ _ h p e s m args below meth c cs ss Q R A hG _ _ _ hl hP hS
theorem nw_s_isub (hk : ∀ a b c d, k a b c d → nw_V G μ Ψ a b c d) (hd : decode (nw_B μ) pc = .ok (.isub, 1)) (h : nw_step G μ Ψ (.isub) pc ls st σ k) : nw_V G μ Ψ pc ls st σ := by
  intro p e s m args below meth c cs ss Q R A hG H locs la hl hP hS
  obtain ⟨hx, hb, hml, hown, hts, hK, hI, hfr, hlo, hce, hsl, hA, hret, hlaw⟩ := id hG
  obtain ⟨b, r, rfl, h⟩ := nw_pI_el h
  obtain ⟨a, r, rfl, h⟩ := nw_pI_el h
  refine lv_isub hx hb hd ?_
  rw [← Int32.ofInt_sub]
  exact hk _ _ _ _ h p e s m args below meth c cs ss Q R A hG _ _ _ hl hP hS
theorem nw_s_imul (hk : ∀ a b c d, k a b c d → nw_V G μ Ψ a b c d) (hd : decode (nw_B μ) pc = .ok (.imul, 1)) (h : nw_step G μ Ψ (.imul) pc ls st σ k) : nw_V G μ Ψ pc ls st σ := by
  intro p e s m args below meth c cs ss Q R A hG H locs la hl hP hS
  obtain ⟨hx, hb, hml, hown, hts, hK, hI, hfr, hlo, hce, hsl, hA, hret, hlaw⟩ := id hG
  obtain ⟨b, r, rfl, h⟩ := nw_pI_el h
  obtain ⟨a, r, rfl, h⟩ := nw_pI_el h
  refine lv_imul hx hb hd ?_
  rw [← Int32.ofInt_mul]
  exact hk _ _ _ _ h p e s m args below meth c cs ss Q R A hG _ _ _ hl hP hS
theorem nw_s_ineg (hk : ∀ a b c d, k a b c d → nw_V G μ Ψ a b c d) (hd : decode (nw_B μ) pc = .ok (.ineg, 1)) (h : nw_step G μ Ψ (.ineg) pc ls st σ k) : nw_V G μ Ψ pc ls st σ := by
  intro p e s m args below meth c cs ss Q R A hG H locs la hl hP hS
  obtain ⟨hx, hb, hml, hown, hts, hK, hI, hfr, hlo, hce, hsl, hA, hret, hlaw⟩ := id hG
  obtain ⟨a, r, rfl, h⟩ := nw_pI_el h
  refine lv_ineg hx hb hd ?_
  rw [← Int32.ofInt_neg]
  exact hk _ _ _ _ h p e s m args below meth c cs ss Q R A hG _ _ _ hl hP hS
theorem nw_s_idiv (hk : ∀ a b c d, k a b c d → nw_V G μ Ψ a b c d) (hd : decode (nw_B μ) pc = .ok (.idiv, 1)) (h : nw_step G μ Ψ (.idiv) pc ls st σ k) : nw_V G μ Ψ pc ls st σ := by
  intro p e s m args below meth c cs ss Q R A hG H locs la hl hP hS
  obtain ⟨hx, hb, hml, hown, hts, hK, hI, hfr, hlo, hce, hsl, hA, hret, hlaw⟩ := id hG
  obtain ⟨b, r, rfl, h⟩ := nw_pI_el h
  obtain ⟨a, r, rfl, hc, h⟩ := nw_pI_el h
  refine lv_idiv hx hb hd (nw_div hc).2 ?_
  rw [(nw_div hc).1]
  exact hk _ _ _ _ h p e s m args below meth c cs ss Q R A hG _ _ _ hl hP hS
theorem nw_s_irem (hk : ∀ a b c d, k a b c d → nw_V G μ Ψ a b c d) (hd : decode (nw_B μ) pc = .ok (.irem, 1)) (h : nw_step G μ Ψ (.irem) pc ls st σ k) : nw_V G μ Ψ pc ls st σ := by
  intro p e s m args below meth c cs ss Q R A hG H locs la hl hP hS
  obtain ⟨hx, hb, hml, hown, hts, hK, hI, hfr, hlo, hce, hsl, hA, hret, hlaw⟩ := id hG
  obtain ⟨b, r, rfl, h⟩ := nw_pI_el h
  obtain ⟨a, r, rfl, hc, h⟩ := nw_pI_el h
  refine lv_irem hx hb hd (nw_div hc).2 ?_
  rw [nw_rem hc]
  exact hk _ _ _ _ h p e s m args below meth c cs ss Q R A hG _ _ _ hl hP hS
theorem nw_s_iand (hk : ∀ a b c d, k a b c d → nw_V G μ Ψ a b c d) (hd : decode (nw_B μ) pc = .ok (.iand, 1)) (h : nw_step G μ Ψ (.iand) pc ls st σ k) : nw_V G μ Ψ pc ls st σ := by
  intro p e s m args below meth c cs ss Q R A hG H locs la hl hP hS
  obtain ⟨hx, hb, hml, hown, hts, hK, hI, hfr, hlo, hce, hsl, hA, hret, hlaw⟩ := id hG
  obtain ⟨b, r, rfl, h⟩ := nw_pI_el h
  obtain ⟨a, r, rfl, h⟩ := nw_pI_el h
  refine lv_iand hx hb hd ?_
  rw [← Int32.ofInt_toInt (Int32.ofInt a &&& Int32.ofInt b)]
  exact hk _ _ _ _ h p e s m args below meth c cs ss Q R A hG _ _ _ hl hP hS
theorem nw_s_ior (hk : ∀ a b c d, k a b c d → nw_V G μ Ψ a b c d) (hd : decode (nw_B μ) pc = .ok (.ior, 1)) (h : nw_step G μ Ψ (.ior) pc ls st σ k) : nw_V G μ Ψ pc ls st σ := by
  intro p e s m args below meth c cs ss Q R A hG H locs la hl hP hS
  obtain ⟨hx, hb, hml, hown, hts, hK, hI, hfr, hlo, hce, hsl, hA, hret, hlaw⟩ := id hG
  obtain ⟨b, r, rfl, h⟩ := nw_pI_el h
  obtain ⟨a, r, rfl, h⟩ := nw_pI_el h
  refine lv_ior hx hb hd ?_
  rw [← Int32.ofInt_toInt (Int32.ofInt a ||| Int32.ofInt b)]
  exact hk _ _ _ _ h p e s m args below meth c cs ss Q R A hG _ _ _ hl hP hS
theorem nw_s_ixor (hk : ∀ a b c d, k a b c d → nw_V G μ Ψ a b c d) (hd : decode (nw_B μ) pc = .ok (.ixor, 1)) (h : nw_step G μ Ψ (.ixor) pc ls st σ k) : nw_V G μ Ψ pc ls st σ := by
  intro p e s m args below meth c cs ss Q R A hG H locs la hl hP hS
  obtain ⟨hx, hb, hml, hown, hts, hK, hI, hfr, hlo, hce, hsl, hA, hret, hlaw⟩ := id hG
  obtain ⟨b, r, rfl, h⟩ := nw_pI_el h
  obtain ⟨a, r, rfl, h⟩ := nw_pI_el h
  refine lv_ixor hx hb hd ?_
  rw [← Int32.ofInt_toInt (Int32.ofInt a ^^^ Int32.ofInt b)]
  exact hk _ _ _ _ h p e s m args below meth c cs ss Q R A hG _ _ _ hl hP hS
theorem nw_s_ishl (hk : ∀ a b c d, k a b c d → nw_V G μ Ψ a b c d) (hd : decode (nw_B μ) pc = .ok (.ishl, 1)) (h : nw_step G μ Ψ (.ishl) pc ls st σ k) : nw_V G μ Ψ pc ls st σ := by
  intro p e s m args below meth c cs ss Q R A hG H locs la hl hP hS
  obtain ⟨hx, hb, hml, hown, hts, hK, hI, hfr, hlo, hce, hsl, hA, hret, hlaw⟩ := id hG
  obtain ⟨b, r, rfl, h⟩ := nw_pI_el h
  obtain ⟨a, r, rfl, h⟩ := nw_pI_el h
  refine lv_ishl hx hb hd ?_
  rw [← Int32.ofInt_toInt (Int32.ofInt a <<< (Int32.ofInt b &&& 31))]
  exact hk _ _ _ _ h p e s m args below meth c cs ss Q R A hG _ _ _ hl hP hS
theorem nw_s_ishr (hk : ∀ a b c d, k a b c d → nw_V G μ Ψ a b c d) (hd : decode (nw_B μ) pc = .ok (.ishr, 1)) (h : nw_step G μ Ψ (.ishr) pc ls st σ k) : nw_V G μ Ψ pc ls st σ := by
  intro p e s m args below meth c cs ss Q R A hG H locs la hl hP hS
  obtain ⟨hx, hb, hml, hown, hts, hK, hI, hfr, hlo, hce, hsl, hA, hret, hlaw⟩ := id hG
  obtain ⟨b, r, rfl, h⟩ := nw_pI_el h
  obtain ⟨a, r, rfl, h⟩ := nw_pI_el h
  refine lv_ishr hx hb hd ?_
  rw [← Int32.ofInt_toInt (Int32.ofInt a >>> (Int32.ofInt b &&& 31))]
  exact hk _ _ _ _ h p e s m args below meth c cs ss Q R A hG _ _ _ hl hP hS
theorem nw_s_iushr (hk : ∀ a b c d, k a b c d → nw_V G μ Ψ a b c d) (hd : decode (nw_B μ) pc = .ok (.iushr, 1)) (h : nw_step G μ Ψ (.iushr) pc ls st σ k) : nw_V G μ Ψ pc ls st σ := by
  intro p e s m args below meth c cs ss Q R A hG H locs la hl hP hS
  obtain ⟨hx, hb, hml, hown, hts, hK, hI, hfr, hlo, hce, hsl, hA, hret, hlaw⟩ := id hG
  obtain ⟨b, r, rfl, h⟩ := nw_pI_el h
  obtain ⟨a, r, rfl, h⟩ := nw_pI_el h
  refine lv_iushr (v := Int32.ofInt (nw_ushr a b)) hx hb hd ?_ ?_
  · unfold nw_ushr
    rw [Int32.ofInt_toInt]
  exact hk _ _ _ _ h p e s m args below meth c cs ss Q R A hG _ _ _ hl hP hS
theorem nw_s_dup (hk : ∀ a b c d, k a b c d → nw_V G μ Ψ a b c d) (hd : decode (nw_B μ) pc = .ok (.dup, 1)) (h : nw_step G μ Ψ (.dup) pc ls st σ k) : nw_V G μ Ψ pc ls st σ := by
  intro p e s m args below meth c cs ss Q R A hG H locs la hl hP hS
  obtain ⟨hx, hb, hml, hown, hts, hK, hI, hfr, hlo, hce, hsl, hA, hret, hlaw⟩ := id hG
  match st, h with
  | a :: r, h =>
    refine lv_dup hx hb hd (nw_cat G a) ?_
    exact hk _ _ _ _ h p e s m args below meth c cs ss Q R A hG _ _ _ hl hP hS
theorem nw_s_dup2 (hk : ∀ a b c d, k a b c d → nw_V G μ Ψ a b c d) (hd : decode (nw_B μ) pc = .ok (.dup2, 1)) (h : nw_step G μ Ψ (.dup2) pc ls st σ k) : nw_V G μ Ψ pc ls st σ := by
  intro p e s m args below meth c cs ss Q R A hG H locs la hl hP hS
  obtain ⟨hx, hb, hml, hown, hts, hK, hI, hfr, hlo, hce, hsl, hA, hret, hlaw⟩ := id hG
  match st, h with
  | a :: b :: r, h =>
    refine lv_dup2_11 hx hb hd (nw_cat G a) (nw_cat G b) ?_
    exact hk _ _ _ _ h p e s m args below meth c cs ss Q R A hG _ _ _ hl hP hS
theorem nw_s_goto {o : Int} (ho : 0 ≤ (pc : Int) + o) (hk : ∀ a b c d, k a b c d → nw_V G μ Ψ a b c d) (hd : decode (nw_B μ) pc = .ok (.goto o, 3)) (h : nw_step G μ Ψ (.goto o) pc ls st σ k) : nw_V G μ Ψ pc ls st σ := by
  intro p e s m args below meth c cs ss Q R A hG H locs la hl hP hS
  obtain ⟨hx, hb, hml, hown, hts, hK, hI, hfr, hlo, hce, hsl, hA, hret, hlaw⟩ := id hG
  refine lv_goto hx hb hd (nw_tgt ho) ?_
  exact hk _ _ _ _ h p e s m args below meth c cs ss Q R A hG _ _ _ hl hP hS
theorem nw_s_ifCond {o : Int} {cd : ClassFile.Cond} (ho : 0 ≤ (pc : Int) + o) (hk : ∀ a b c d, k a b c d → nw_V G μ Ψ a b c d) (hd : decode (nw_B μ) pc = .ok (.ifCond cd o, 3)) (h : nw_step G μ Ψ (.ifCond cd o) pc ls st σ k) : nw_V G μ Ψ pc ls st σ := by
  intro p e s m args below meth c cs ss Q R A hG H locs la hl hP hS
  obtain ⟨hx, hb, hml, hown, hts, hK, hI, hfr, hlo, hce, hsl, hA, hret, hlaw⟩ := id hG
  obtain ⟨a, r, rfl, ha, h⟩ := nw_pI_el h
  have hb2 : nw_r 0 := ⟨by decide, by decide⟩
  have el := nw_of_lt ha hb2
  have el' := nw_of_lt hb2 ha
  have ee := nw_of_eq ha hb2
  have ef := nw_of_le ha hb2
  have ef' := nw_of_le hb2 ha
  rw [show Int32.ofInt 0 = 0 from rfl] at el el' ee ef ef'
  cases cd with
  | eq =>
    refine lv_if_eq hx hb hd (nw_tgt ho) (fun q => ?_) (fun q => ?_)
    · exact hk _ _ _ _ (h.1 (by first | exact ee.mp q | exact (fun z => q (ee.mpr z)) | exact el.mp q | exact el'.mp q | exact ef.mp q | exact ef'.mp q)) p e s m args below meth c cs ss Q R A hG _ _ _ hl hP hS
    · exact hk _ _ _ _ (h.2 (by first | exact ee.mp q | exact ee.mp (Classical.not_not.mp q) | exact (fun z => q (ee.mpr z)) | exact Int.not_lt.mp (fun z => q (el.mpr z)) | exact Int.not_lt.mp (fun z => q (el'.mpr z)) | exact Int.not_le.mp (fun z => q (ef.mpr z)) | exact Int.not_le.mp (fun z => q (ef'.mpr z)))) p e s m args below meth c cs ss Q R A hG _ _ _ hl hP hS
  | ne =>
    refine lv_if_ne hx hb hd (nw_tgt ho) (fun q => ?_) (fun q => ?_)
    · exact hk _ _ _ _ (h.1 (by first | exact ee.mp q | exact (fun z => q (ee.mpr z)) | exact el.mp q | exact el'.mp q | exact ef.mp q | exact ef'.mp q)) p e s m args below meth c cs ss Q R A hG _ _ _ hl hP hS
    · exact hk _ _ _ _ (h.2 (by first | exact ee.mp q | exact ee.mp (Classical.not_not.mp q) | exact (fun z => q (ee.mpr z)) | exact Int.not_lt.mp (fun z => q (el.mpr z)) | exact Int.not_lt.mp (fun z => q (el'.mpr z)) | exact Int.not_le.mp (fun z => q (ef.mpr z)) | exact Int.not_le.mp (fun z => q (ef'.mpr z)))) p e s m args below meth c cs ss Q R A hG _ _ _ hl hP hS
  | lt =>
    refine lv_if_lt hx hb hd (nw_tgt ho) (fun q => ?_) (fun q => ?_)
    · exact hk _ _ _ _ (h.1 (by first | exact ee.mp q | exact (fun z => q (ee.mpr z)) | exact el.mp q | exact el'.mp q | exact ef.mp q | exact ef'.mp q)) p e s m args below meth c cs ss Q R A hG _ _ _ hl hP hS
    · exact hk _ _ _ _ (h.2 (by first | exact ee.mp q | exact ee.mp (Classical.not_not.mp q) | exact (fun z => q (ee.mpr z)) | exact Int.not_lt.mp (fun z => q (el.mpr z)) | exact Int.not_lt.mp (fun z => q (el'.mpr z)) | exact Int.not_le.mp (fun z => q (ef.mpr z)) | exact Int.not_le.mp (fun z => q (ef'.mpr z)))) p e s m args below meth c cs ss Q R A hG _ _ _ hl hP hS
  | ge =>
    refine lv_if_ge hx hb hd (nw_tgt ho) (fun q => ?_) (fun q => ?_)
    · exact hk _ _ _ _ (h.1 (by first | exact ee.mp q | exact (fun z => q (ee.mpr z)) | exact el.mp q | exact el'.mp q | exact ef.mp q | exact ef'.mp q)) p e s m args below meth c cs ss Q R A hG _ _ _ hl hP hS
    · exact hk _ _ _ _ (h.2 (by first | exact ee.mp q | exact ee.mp (Classical.not_not.mp q) | exact (fun z => q (ee.mpr z)) | exact Int.not_lt.mp (fun z => q (el.mpr z)) | exact Int.not_lt.mp (fun z => q (el'.mpr z)) | exact Int.not_le.mp (fun z => q (ef.mpr z)) | exact Int.not_le.mp (fun z => q (ef'.mpr z)))) p e s m args below meth c cs ss Q R A hG _ _ _ hl hP hS
  | gt =>
    refine lv_if_gt hx hb hd (nw_tgt ho) (fun q => ?_) (fun q => ?_)
    · exact hk _ _ _ _ (h.1 (by first | exact ee.mp q | exact (fun z => q (ee.mpr z)) | exact el.mp q | exact el'.mp q | exact ef.mp q | exact ef'.mp q)) p e s m args below meth c cs ss Q R A hG _ _ _ hl hP hS
    · exact hk _ _ _ _ (h.2 (by first | exact ee.mp q | exact ee.mp (Classical.not_not.mp q) | exact (fun z => q (ee.mpr z)) | exact Int.not_lt.mp (fun z => q (el.mpr z)) | exact Int.not_lt.mp (fun z => q (el'.mpr z)) | exact Int.not_le.mp (fun z => q (ef.mpr z)) | exact Int.not_le.mp (fun z => q (ef'.mpr z)))) p e s m args below meth c cs ss Q R A hG _ _ _ hl hP hS
  | le =>
    refine lv_if_le hx hb hd (nw_tgt ho) (fun q => ?_) (fun q => ?_)
    · exact hk _ _ _ _ (h.1 (by first | exact ee.mp q | exact (fun z => q (ee.mpr z)) | exact el.mp q | exact el'.mp q | exact ef.mp q | exact ef'.mp q)) p e s m args below meth c cs ss Q R A hG _ _ _ hl hP hS
    · exact hk _ _ _ _ (h.2 (by first | exact ee.mp q | exact ee.mp (Classical.not_not.mp q) | exact (fun z => q (ee.mpr z)) | exact Int.not_lt.mp (fun z => q (el.mpr z)) | exact Int.not_lt.mp (fun z => q (el'.mpr z)) | exact Int.not_le.mp (fun z => q (ef.mpr z)) | exact Int.not_le.mp (fun z => q (ef'.mpr z)))) p e s m args below meth c cs ss Q R A hG _ _ _ hl hP hS
theorem nw_s_if_icmp {o : Int} {cd : ClassFile.Cond} (ho : 0 ≤ (pc : Int) + o) (hk : ∀ a b c d, k a b c d → nw_V G μ Ψ a b c d) (hd : decode (nw_B μ) pc = .ok (.if_icmp cd o, 3)) (h : nw_step G μ Ψ (.if_icmp cd o) pc ls st σ k) : nw_V G μ Ψ pc ls st σ := by
  intro p e s m args below meth c cs ss Q R A hG H locs la hl hP hS
  obtain ⟨hx, hb, hml, hown, hts, hK, hI, hfr, hlo, hce, hsl, hA, hret, hlaw⟩ := id hG
  obtain ⟨b, r, rfl, h⟩ := nw_pI_el h
  obtain ⟨a, r, rfl, ha, hb2, h⟩ := nw_pI_el h
  have el := nw_of_lt ha hb2
  have el' := nw_of_lt hb2 ha
  have ee := nw_of_eq ha hb2
  have ef := nw_of_le ha hb2
  have ef' := nw_of_le hb2 ha
  cases cd with
  | eq =>
    refine lv_icmp_eq hx hb hd (nw_tgt ho) (fun q => ?_) (fun q => ?_)
    · exact hk _ _ _ _ (h.1 (by first | exact ee.mp q | exact (fun z => q (ee.mpr z)) | exact el.mp q | exact el'.mp q | exact ef.mp q | exact ef'.mp q)) p e s m args below meth c cs ss Q R A hG _ _ _ hl hP hS
    · exact hk _ _ _ _ (h.2 (by first | exact ee.mp q | exact ee.mp (Classical.not_not.mp q) | exact (fun z => q (ee.mpr z)) | exact Int.not_lt.mp (fun z => q (el.mpr z)) | exact Int.not_lt.mp (fun z => q (el'.mpr z)) | exact Int.not_le.mp (fun z => q (ef.mpr z)) | exact Int.not_le.mp (fun z => q (ef'.mpr z)))) p e s m args below meth c cs ss Q R A hG _ _ _ hl hP hS
  | ne =>
    refine lv_icmp_ne hx hb hd (nw_tgt ho) (fun q => ?_) (fun q => ?_)
    · exact hk _ _ _ _ (h.1 (by first | exact ee.mp q | exact (fun z => q (ee.mpr z)) | exact el.mp q | exact el'.mp q | exact ef.mp q | exact ef'.mp q)) p e s m args below meth c cs ss Q R A hG _ _ _ hl hP hS
    · exact hk _ _ _ _ (h.2 (by first | exact ee.mp q | exact ee.mp (Classical.not_not.mp q) | exact (fun z => q (ee.mpr z)) | exact Int.not_lt.mp (fun z => q (el.mpr z)) | exact Int.not_lt.mp (fun z => q (el'.mpr z)) | exact Int.not_le.mp (fun z => q (ef.mpr z)) | exact Int.not_le.mp (fun z => q (ef'.mpr z)))) p e s m args below meth c cs ss Q R A hG _ _ _ hl hP hS
  | lt =>
    refine lv_icmp_lt hx hb hd (nw_tgt ho) (fun q => ?_) (fun q => ?_)
    · exact hk _ _ _ _ (h.1 (by first | exact ee.mp q | exact (fun z => q (ee.mpr z)) | exact el.mp q | exact el'.mp q | exact ef.mp q | exact ef'.mp q)) p e s m args below meth c cs ss Q R A hG _ _ _ hl hP hS
    · exact hk _ _ _ _ (h.2 (by first | exact ee.mp q | exact ee.mp (Classical.not_not.mp q) | exact (fun z => q (ee.mpr z)) | exact Int.not_lt.mp (fun z => q (el.mpr z)) | exact Int.not_lt.mp (fun z => q (el'.mpr z)) | exact Int.not_le.mp (fun z => q (ef.mpr z)) | exact Int.not_le.mp (fun z => q (ef'.mpr z)))) p e s m args below meth c cs ss Q R A hG _ _ _ hl hP hS
  | ge =>
    refine lv_icmp_ge hx hb hd (nw_tgt ho) (fun q => ?_) (fun q => ?_)
    · exact hk _ _ _ _ (h.1 (by first | exact ee.mp q | exact (fun z => q (ee.mpr z)) | exact el.mp q | exact el'.mp q | exact ef.mp q | exact ef'.mp q)) p e s m args below meth c cs ss Q R A hG _ _ _ hl hP hS
    · exact hk _ _ _ _ (h.2 (by first | exact ee.mp q | exact ee.mp (Classical.not_not.mp q) | exact (fun z => q (ee.mpr z)) | exact Int.not_lt.mp (fun z => q (el.mpr z)) | exact Int.not_lt.mp (fun z => q (el'.mpr z)) | exact Int.not_le.mp (fun z => q (ef.mpr z)) | exact Int.not_le.mp (fun z => q (ef'.mpr z)))) p e s m args below meth c cs ss Q R A hG _ _ _ hl hP hS
  | gt =>
    refine lv_icmp_gt hx hb hd (nw_tgt ho) (fun q => ?_) (fun q => ?_)
    · exact hk _ _ _ _ (h.1 (by first | exact ee.mp q | exact (fun z => q (ee.mpr z)) | exact el.mp q | exact el'.mp q | exact ef.mp q | exact ef'.mp q)) p e s m args below meth c cs ss Q R A hG _ _ _ hl hP hS
    · exact hk _ _ _ _ (h.2 (by first | exact ee.mp q | exact ee.mp (Classical.not_not.mp q) | exact (fun z => q (ee.mpr z)) | exact Int.not_lt.mp (fun z => q (el.mpr z)) | exact Int.not_lt.mp (fun z => q (el'.mpr z)) | exact Int.not_le.mp (fun z => q (ef.mpr z)) | exact Int.not_le.mp (fun z => q (ef'.mpr z)))) p e s m args below meth c cs ss Q R A hG _ _ _ hl hP hS
  | le =>
    refine lv_icmp_le hx hb hd (nw_tgt ho) (fun q => ?_) (fun q => ?_)
    · exact hk _ _ _ _ (h.1 (by first | exact ee.mp q | exact (fun z => q (ee.mpr z)) | exact el.mp q | exact el'.mp q | exact ef.mp q | exact ef'.mp q)) p e s m args below meth c cs ss Q R A hG _ _ _ hl hP hS
    · exact hk _ _ _ _ (h.2 (by first | exact ee.mp q | exact ee.mp (Classical.not_not.mp q) | exact (fun z => q (ee.mpr z)) | exact Int.not_lt.mp (fun z => q (el.mpr z)) | exact Int.not_lt.mp (fun z => q (el'.mpr z)) | exact Int.not_le.mp (fun z => q (ef.mpr z)) | exact Int.not_le.mp (fun z => q (ef'.mpr z)))) p e s m args below meth c cs ss Q R A hG _ _ _ hl hP hS
theorem nw_sw_at {a : Int} {kk : Nat → Prop} {lo : Int} {offs : List Int} (h : nw_sw a kk pc lo offs) {j : Nat} {o : Int} (hj : offs[j]? = some o) (ha : a = lo + j) : kk (nw_tg pc o) := by
  induction offs generalizing lo j with
  | nil => simp at hj
  | cons x r ih =>
    cases j with
    | zero =>
      simp at hj
      subst hj
      exact h.1 (by omega)
    | succ j =>
      simp at hj
      exact ih h.2 hj (by omega)
theorem nw_s_tableswitch {d lo hi : Int} {offs : Array Int} {len : Nat} (hj : 0 ≤ (pc : Int) + d ∧ ∀ o ∈ offs.toList, 0 ≤ (pc : Int) + o) (hk : ∀ a b c d, k a b c d → nw_V G μ Ψ a b c d) (hd : decode (nw_B μ) pc = .ok (.tableswitch d lo hi offs, len)) (h : nw_step G μ Ψ (.tableswitch d lo hi offs) pc ls st σ k) : nw_V G μ Ψ pc ls st σ := by
  intro p e s m args below meth c cs ss Q R A hG H locs la hl hP hS
  obtain ⟨hx, hb, hml, hown, hts, hK, hI, hfr, hlo, hce, hsl, hA, hret, hlaw⟩ := id hG
  obtain ⟨a, r, rfl, h⟩ := nw_pI_el h
  obtain ⟨h0, ha, h1, h2⟩ := nw_if_el h
  have h0 : hi = lo + (offs.toList.length : Int) - 1 := by simpa using h0
  have hai := nw_toInt ha
  by_cases hq : a < lo ∨ hi < a
  · refine lv_tableOut hx hb hd (by rw [hai]; exact hq) (nw_tgt hj.1) ?_
    have h := h1 hq
    exact hk _ _ _ _ h p e s m args below meth c cs ss Q R A hG _ _ _ hl hP hS
  · have hlt : (a - lo).toNat < offs.toList.length := by omega
    have hget : offs.toList[(a - lo).toNat]? = some offs.toList[(a - lo).toNat] := List.getElem?_eq_getElem hlt
    have hget2 : offs[(a - lo).toNat]? = some offs.toList[(a - lo).toNat] := by rw [← Array.getElem?_toList]; exact hget
    refine lv_tableIn hx hb hd (by rw [hai]; omega) (by rw [hai]; omega) (by rw [hai]; exact hget2) (nw_tgt (hj.2 _ (List.getElem_mem hlt))) ?_
    have h := nw_sw_at h2 hget (by omega)
    exact hk _ _ _ _ h p e s m args below meth c cs ss Q R A hG _ _ _ hl hP hS
end NWS
