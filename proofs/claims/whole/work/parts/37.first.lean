/-! the law from its entry -/
/-! THE CLAIM OUT OF ONE WALK OF THE LAW'S BODY. Your part is whole_start (and what it stands on); all else here is the same for every law, but numbers. -/
def R_law : String := "WhyNotsLaw"
def lw_P (b : Addr) (xs : List Int32) (args : Array Value) (s : State) : Prop := args = #[.ref b] ∧ s.IntsAt b xs ∧ xs.length ≤ 384 ∧ (Jvm.Cond.and given_1 narrow_1).before args s = true
def lw_Q (_ : Array Value) (s : State) (o : Outcome) (t : State) : Prop := o = .returned (some (.int 1)) ∧ Framed s o t [] 38 39600
def lw_Z (below : List Frame) (a : Array Value) (s : State) : State → Prop := fun t => ∃ o, t.status = .running ∧ Ended t below o ∧ lw_Q a s o t
/-- the law's own end, with 1 on the stack, nothing written that was there before, its room as the claim has it -/
theorem lw_ret {p : Program} {l : Launch} {e : Env} {s : State} {m : MethodId} {below : List Frame} {meth : Method} {c : Code} {b : Nat} (hx : p.tables.exec = Jvm.exec) (hb : c.code = code) (hr : meth.sig.returnType = ret) (hlocks : meth.locks = false) {pc : Nat} {H : Heap} {ls : Array Slot} (hdg : decode code pc = .ok (.ireturn, 1)) : W p l e room_1 s m #[Value.ref b] below meth c H [] 38 39600 (lw_Z below #[Value.ref b] s) (F0 m pc ls [.int 1]) := by
  intro T hT X
  obtain ⟨fs, hret, hrun, hended, hW, hframe⟩ := X.leave (v := some (.int 1)) (hlocks := hlocks) (fun h => by rw [hr] at h; cases h)
  have hmeth' : T.vm.method? m = some meth := X.method'
  refine ⟨T.setFrames fs, ?_, .returned (some (.int 1)), hrun, hended, rfl, ⟨_, rfl⟩, hW, hframe⟩
  jvm_step X.here [X.here.top, hx, hb, hdg, hmeth', hr, ret, narrow_b1]
  (try refine ⟨rfl, ?_⟩); (try refine ⟨rfl, ?_⟩)
  first | (intro acts; rw [hret _ acts rfl rfl rfl]) | rw [hret _ _ rfl rfl rfl]
  exact Steps.refl _
/-- what holds at the law's entry: the machine, the code, the tables' words (any of lw_tbl by 'hts w (by decide +kernel)'), the script of L ints xs at the cell b, what the Statement gives of the start (any of its parts by flat_of_before) -/
def lw_At (p : Program) (s : State) (m : MethodId) (meth : Method) (c : Code) (b L : Nat) (xs : Nat → Int32) : Prop :=
  p.tables.exec = Jvm.exec ∧ c.code = code ∧ meth.sig.returnType = ret ∧ c.maxLocals = 4 ∧ s.vm.findClass R_law = some m.cls ∧ (∀ w ∈ lw_tbl, w.before #[Value.ref b] s = true) ∧ va_X b L xs s s.heap ∧ b < s.heap.size ∧ meth.locks = false ∧ (Jvm.Cond.and given_1 narrow_1).before #[Value.ref b] s = true
theorem nk_w37 : Cond.initialized "WhyNots" ∈ nw_tb := nw_ok_of 37 (by decide +kernel) (by decide +kernel)
theorem nk_w42 : Cond.initialized "WhyNotsModel" ∈ nw_tb := nw_ok_of 42 (by decide +kernel) (by decide +kernel)
theorem nk_w45 : Cond.classLink "WhyNotsLaw" 7 "WhyNots" ∈ nw_tb := nw_ok_of 45 (by decide +kernel) (by decide +kernel)
theorem nk_w46 : Cond.instantiable "WhyNots" 12 ∈ nw_tb := nw_ok_of 46 (by decide +kernel) (by decide +kernel)
theorem nk_w47 : Cond.methodLink "WhyNotsLaw" 9 ⟨"WhyNots", "<init>", "()V"⟩ ∈ nw_tb := nw_ok_of 47 (by decide +kernel) (by decide +kernel)
theorem nk_w48 : Cond.instanceMethod ⟨"WhyNots", "<init>", "()V"⟩ ∈ nw_tb := nw_ok_of 48 (by decide +kernel) (by decide +kernel)
theorem nk_w456 : Cond.classLink "WhyNotsLaw" 10 "WhyNotsModel" ∈ nw_tb := nw_ok_of 456 (by decide +kernel) (by decide +kernel)
theorem nk_w457 : Cond.instantiable "WhyNotsModel" 15 ∈ nw_tb := nw_ok_of 457 (by decide +kernel) (by decide +kernel)
theorem nk_w458 : Cond.methodLink "WhyNotsLaw" 12 ⟨"WhyNotsModel", "<init>", "()V"⟩ ∈ nw_tb := nw_ok_of 458 (by decide +kernel) (by decide +kernel)
theorem nk_w459 : Cond.instanceMethod ⟨"WhyNotsModel", "<init>", "()V"⟩ ∈ nw_tb := nw_ok_of 459 (by decide +kernel) (by decide +kernel)
theorem nk_dL_0 : decode code 0 = .ok (.new 7, 3) := by decide +kernel
theorem nk_dL_3 : decode code 3 = .ok (.dup, 1) := by decide +kernel
theorem nk_dL_4 : decode code 4 = .ok (.invokespecial 9, 3) := by decide +kernel
theorem nk_dL_7 : decode code 7 = .ok (.astore_n 1, 1) := by decide +kernel
theorem nk_dL_8 : decode code 8 = .ok (.new 10, 3) := by decide +kernel
theorem nk_dL_11 : decode code 11 = .ok (.dup, 1) := by decide +kernel
theorem nk_dL_12 : decode code 12 = .ok (.invokespecial 12, 3) := by decide +kernel
theorem nk_dL_15 : decode code 15 = .ok (.astore_n 2, 1) := by decide +kernel
theorem nk_dL_16 : decode code 16 = .ok (.iconst 0, 1) := by decide +kernel
theorem nk_dL_17 : decode code 17 = .ok (.istore_n 3, 1) := by decide +kernel
def nl_s0 : nw_S := fun k j => if k = 0 then (if j = 5 then 1 else if j = 11 then 1 else 0) else if k = 1 then (if j = 1 then 1 else 0) else 0
def nl_D0 : nd_D := (0, fun _ => 0, fun _ => 0, 0, fun _ _ => 0)
theorem nl_wf0 : nd_wf nl_D0 := ⟨by decide, fun c hc => absurd hc (Nat.not_lt_zero _), fun i => ⟨show (-1000 : Int) ≤ 0 by decide, show (0 : Int) ≤ 1000 by decide⟩, fun i _ => rfl, by decide, fun r hr => absurd hr (Nat.not_lt_zero _)⟩
theorem nl_one {p : Nat} (h : p < nd_P nl_D0) : p = 0 := by
  have : nd_P nl_D0 = 1 := rfl
  omega
theorem nl_cs0 : nc_st nl_D0 nl_s0 := by
  refine ⟨⟨⟨rfl, rfl, fun c hc => absurd hc (Nat.not_lt_zero _), fun c hc => absurd hc (Nat.not_lt_zero _), fun i _ => rfl⟩, ⟨rfl, fun i r _ hr => absurd hr (Nat.not_lt_zero _)⟩, ?_, ?_, ?_⟩, Or.inl rfl, Or.inl rfl⟩
  · intro p hp; rw [nl_one hp]; rfl
  · intro s _; rfl
  · intro p hp; rw [nl_one hp]; rfl
theorem nl_ms0 : nm_st nl_D0 nl_s0 := ⟨⟨rfl, rfl, fun c hc => absurd hc (Nat.not_lt_zero _), fun i _ => rfl, fun i r _ hr => absurd hr (Nat.not_lt_zero _)⟩, Or.inl rfl⟩
theorem nl_begin {G : nw_G} (hL : nw_len G ≤ 384) : nw_V G 118 (nw_pi (fun v _ => v = 1)) 18 [some (.inl 38), some (.inl 0), some (.inl 26), some (.inr 0)] [] nl_s0 := nl_loop hL (fun _ => rfl) 400 nl_D0 nl_s0 0 nl_wf0 nl_cs0 nl_ms0 (by omega) (by omega) (by omega)
theorem nl_I {G : nw_G} {σ : nw_S} {A : Nat → Prop} (h : va_D A (nw_w G σ)) : nw_I G ∧ ∀ k, k < 38 → A (nw_ad G k) := by
  have key : ∀ k, k < 38 → ∃ e, (nw_w G σ)[k]? = some (nw_ad G k, e) := fun k hk => ⟨_, nw_w_at (List.getElem?_eq_getElem (by rw [nw_shp_len]; exact hk))⟩
  refine ⟨fun i j hi hj hij => ?_, fun k hk => ?_⟩
  · obtain ⟨a, ha⟩ := key i hi
    obtain ⟨b, hb⟩ := key j hj
    exact h.1 i j _ _ ha hb hij
  · obtain ⟨a, ha⟩ := key k hk
    exact h.2 k _ ha
theorem nl_ar {G : nw_G} {k n : Nat} {z : Bool} (h : 2 ≤ k) : nw_e G nl_s0 k (.inl (n, z)) = .inl (nw_ta G k, n, .inl (fun _ => 0)) := by
  show (Sum.inl (nw_ta G k, n, Sum.inl (fun j => Int32.ofInt (nl_s0 k j))) : va_E) = _
  have : (fun j => Int32.ofInt (nl_s0 k j)) = (fun _ => 0) := by
    funext j
    unfold nl_s0
    rw [if_neg (by omega), if_neg (by omega)]
    rfl
  rw [this]
theorem nl_by {G : nw_G} {WS : va_W} (h : ∀ (k : Nat) (sh : nw_sh), nw_shp[k]? = some sh → WS[k]? = some (nw_ad G k, nw_e G nl_s0 k sh)) (k : Nat) (q : Nat × va_E) (hk : (nw_w G nl_s0)[k]? = some q) : WS[k]? = some q := by
  have hlt : k < 38 := by rw [← nw_w_len (G := G) (σ := nl_s0)]; exact (List.getElem?_eq_some_iff.mp hk).1
  have h2 : nw_shp[k]? = some nw_shp[k] := List.getElem?_eq_getElem (by rw [nw_shp_len]; exact hlt)
  rw [nw_w_at h2] at hk
  rw [← hk]
  exact h k _ h2
