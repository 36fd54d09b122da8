section NWH
variable {G : nw_G} {μ : Nat} {Ψ : Option Int → nw_S → Prop} {pc : Nat} {ls : nw_L} {st : List nw_v} {σ : nw_S}
variable {k : Nat → nw_L → List nw_v → nw_S → Prop}
theorem nw_mo {μ : Nat} (h : μ < 119) : nw_mOK μ = true := List.all_eq_true.mp nw_m_ok μ (List.mem_range.mpr h)
theorem nw_shp_n {q n : Nat} {z : Bool} (h : nw_shp[q]? = some (.inl (n, z))) : n < 2147483648 := by
  have h0 : nw_shp.all (fun x => match x with
    | .inl (n, _) => Nat.blt n 2147483648
    | _ => true) = true := by decide +kernel
  have h1 := List.all_eq_true.mp h0 _ (List.mem_of_getElem? h)
  exact Nat.le_of_ble_eq_true h1
theorem nw_fld {q ci j f : Nat} {fs : List Nat} (h1 : fs[j]? = some f) : (fs.mapIdx (fun j f => if f < 2 then Value.int (Int32.ofInt (σ q j)) else .ref (nw_ad G (f - 2))))[j]? = some (if f < 2 then Value.int (Int32.ofInt (σ q j)) else .ref (nw_ad G (f - 2))) := by
  simp [List.getElem?_mapIdx, h1]
theorem nw_s_getfield {idx : Nat} (hk : ∀ a b c d, k a b c d → nw_V G μ Ψ a b c d) (hd : decode (nw_B μ) pc = .ok (.getfield idx, 3)) (h__0 : nw_step G μ Ψ (.getfield idx) pc ls st σ k) : nw_V G μ Ψ pc ls st σ := by
  intro p e s m args below meth c cs ss Q R A hG H locs la hl hP hS
  obtain ⟨hx, hb, hml, hown, hts, hK, hI, hfr, hlo, hce, hsl, hA, hret, hlaw⟩ := id hG
  obtain ⟨q, r, rfl, h__1⟩ := nw_pR_el h__0
  obtain ⟨⟨ci0, j, t⟩, h1, h__2⟩ := nw_oS_el h__1
  obtain ⟨ci, fs, h2, h__3⟩ := nw_sO_el h__2
  obtain ⟨h3, h__4⟩ := nw_if_el h__3
  obtain ⟨f, h4, h__5⟩ := nw_oS_el h__4
  have h3 : ci = ci0 := Nat.eq_of_beq_eq_true h3
  subst h3
  obtain ⟨C, T, N, g1, g2, g3, -, -⟩ := nw_f_ok _ _ (nw_look h1)
  dsimp only at g1 g2 g3 h4 h__5
  have hv := nw_fld (G := G) (σ := σ) (q := q) (ci := ci) h4
  refine va_get (D := G.2.1) (ci := ci) (C := C) (T := T) (N := N) hx hb hts (nw_kinds g1).1 hown hK.1 hP q (nw_w_at h2) g1 j g2 (hts _ g3) (fun _ h9 => h9) hv hd ?_
  match f, h__5 with
  | 0, h__5 => exact hk _ _ _ _ h__5 p e s m args below meth c cs ss Q R A hG _ _ _ hl hP hS
  | 1, h__5 => exact hk _ _ _ _ h__5 p e s m args below meth c cs ss Q R A hG _ _ _ hl hP hS
  | t + 2, h__5 => exact hk _ _ _ _ h__5 p e s m args below meth c cs ss Q R A hG _ _ _ hl hP hS
theorem nw_s_putfield {idx : Nat} (hk : ∀ a b c d, k a b c d → nw_V G μ Ψ a b c d) (hd : decode (nw_B μ) pc = .ok (.putfield idx, 3)) (h__0 : nw_step G μ Ψ (.putfield idx) pc ls st σ k) : nw_V G μ Ψ pc ls st σ := by
  intro p e s m args below meth c cs ss Q R A hG H locs la hl hP hS
  obtain ⟨hx, hb, hml, hown, hts, hK, hI, hfr, hlo, hce, hsl, hA, hret, hlaw⟩ := id hG
  obtain ⟨v, r, rfl, h__1⟩ := nw_pI_el h__0
  obtain ⟨q, r, rfl, h__2⟩ := nw_pR_el h__1
  obtain ⟨⟨ci0, j, t⟩, h1, h__3⟩ := nw_oS_el h__2
  obtain ⟨ci, fs, h2, h__4⟩ := nw_sO_el h__3
  obtain ⟨h3, h__5⟩ := nw_if_el h__4
  obtain ⟨f, h4, h__6⟩ := nw_oS_el h__5
  obtain ⟨h5, h__7⟩ := nw_if_el h__6
  have e3 : ci = ci0 := Nat.eq_of_beq_eq_true h3
  have e5 : f = t := Nat.eq_of_beq_eq_true h5
  subst e3
  subst e5
  obtain ⟨C, T, N, g1, g2, g3, g4, g5⟩ := nw_f_ok _ _ (nw_look h1)
  dsimp only at g1 g2 g3 g4 g5 h4 h__7
  obtain ⟨k1, ⟨ty0, k2⟩, k3⟩ := nw_kinds g1
  have hlen : j < (fs.mapIdx (fun j f => if f < 2 then Value.int (Int32.ofInt (σ q j)) else .ref (nw_ad G (f - 2)))).length := by simpa using (List.getElem?_eq_some_iff.mp h4).1
  match f, h__7, h4, g4, g5 with
  | 0, h__7, h4, g4, _ =>
    obtain ⟨d1, d2⟩ := g4 rfl
    refine va_put (D := G.2.1) (ci := ci) (C := C) (T := T) (N := N) (ty := .int) (v := Value.int (Int32.ofInt v)) hx hb hts k1 ty0 k2 k3 hown hK.1 hP (nw_w_D hI hA) hS q (nw_w_at h2) g1 j g2 (hts _ g3) (fun _ h9 => h9) d2 (by rw [d1]; decide) (vp_nar_int _) rfl hlen hd (fun H1 locs1 hP1 _ hS1 => ?_)
    rw [← nw_e_fld h4 (by decide), ← nw_w_set h2] at hP1
    exact hk _ _ _ _ h__7 p e s m args below meth c cs ss Q R A hG _ _ _ hl hP1 hS1
  | 1, h__7, h4, _, g5 =>
    obtain ⟨d1, d2⟩ := g5 rfl
    obtain ⟨hv, h__8⟩ := h__7
    refine va_put (D := G.2.1) (ci := ci) (C := C) (T := T) (N := N) (ty := .boolean) (v := Value.int (Int32.ofInt v)) hx hb hts k1 ty0 k2 k3 hown hK.1 hP (nw_w_D hI hA) hS q (nw_w_at h2) g1 j g2 (hts _ g3) (fun _ h9 => h9) d2 (by rw [d1]; decide) (by rcases hv with rfl | rfl <;> decide) (by rcases hv with rfl | rfl <;> decide) hlen hd (fun H1 locs1 hP1 _ hS1 => ?_)
    rw [← nw_e_fld h4 (by decide), ← nw_w_set h2] at hP1
    exact hk _ _ _ _ h__8 p e s m args below meth c cs ss Q R A hG _ _ _ hl hP1 hS1
  | t + 2, h__8, _, _, _ => exact h__8.elim
theorem nw_s_iaload (hk : ∀ a b c d, k a b c d → nw_V G μ Ψ a b c d) (hd : decode (nw_B μ) pc = .ok (.iaload, 1)) (h__0 : nw_step G μ Ψ (.iaload) pc ls st σ k) : nw_V G μ Ψ pc ls st σ := by
  intro p e s m args below meth c cs ss Q R A hG H locs la hl hP hS
  obtain ⟨hx, hb, hml, hown, hts, hK, hI, hfr, hlo, hce, hsl, hA, hret, hlaw⟩ := id hG
  obtain ⟨j, r, rfl, h__1⟩ := nw_pI_el h__0
  obtain ⟨q, r, rfl, h__2⟩ := nw_pR_el h__1
  cases hq : Nat.beq q 38 with
  | true =>
    rw [hq] at h__2
    obtain ⟨h1, hj, h__3⟩ := nw_if_el h__2
    have hq2 : q = 38 := Nat.eq_of_beq_eq_true hq
    have e0 : μ = 118 := Nat.eq_of_beq_eq_true h1
    subst hq2
    obtain ⟨hX, hXl, hXA, hXn⟩ := hlaw e0
    obtain ⟨e1, e2⟩ := nw_vpin hj hXn
    refine va_sld hx hb hX hXl hXA hS e1 hd ?_
    rw [e2, ← Int32.ofInt_toInt (nw_xs G j.toNat)]
    exact hk _ _ _ _ h__3 p e s m args below meth c cs ss Q R A hG _ _ _ hl hP hS
  | false =>
    rw [hq] at h__2
    obtain ⟨n, z, h1, hh⟩ := nw_sA_el h__2
    obtain ⟨h2, hj, hhh⟩ := nw_if_el hh
    have e3 : z = false := by simpa using h2
    subst e3
    obtain ⟨e1, e2⟩ := nw_vpin hj (nw_shp_n h1)
    refine va_iald hx hb (hK.arr h1) hP q 0 (nw_w_at h1) rfl e1 hd ?_
    rw [e2]
    exact hk _ _ _ _ hhh p e s m args below meth c cs ss Q R A hG _ _ _ hl hP hS
theorem nw_s_baload (hk : ∀ a b c d, k a b c d → nw_V G μ Ψ a b c d) (hd : decode (nw_B μ) pc = .ok (.baload, 1)) (h__0 : nw_step G μ Ψ (.baload) pc ls st σ k) : nw_V G μ Ψ pc ls st σ := by
  intro p e s m args below meth c cs ss Q R A hG H locs la hl hP hS
  obtain ⟨hx, hb, hml, hown, hts, hK, hI, hfr, hlo, hce, hsl, hA, hret, hlaw⟩ := id hG
  obtain ⟨j, r, rfl, h__1⟩ := nw_pI_el h__0
  obtain ⟨q, r, rfl, h__2⟩ := nw_pR_el h__1
  obtain ⟨n, z, h1, h__3⟩ := nw_sA_el h__2
  obtain ⟨h2, hj, h__4⟩ := nw_if_el h__3
  subst h2
  obtain ⟨e1, e2⟩ := nw_vpin hj (nw_shp_n h1)
  refine va_zald hx hb (hK.arr h1) hP q 0 (nw_w_at h1) rfl e1 hd ?_
  rw [e2]
  exact hk _ _ _ _ h__4 p e s m args below meth c cs ss Q R A hG _ _ _ hl hP hS
theorem nw_s_iastore (hk : ∀ a b c d, k a b c d → nw_V G μ Ψ a b c d) (hd : decode (nw_B μ) pc = .ok (.iastore, 1)) (h__0 : nw_step G μ Ψ (.iastore) pc ls st σ k) : nw_V G μ Ψ pc ls st σ := by
  intro p e s m args below meth c cs ss Q R A hG H locs la hl hP hS
  obtain ⟨hx, hb, hml, hown, hts, hK, hI, hfr, hlo, hce, hsl, hA, hret, hlaw⟩ := id hG
  obtain ⟨v, r, rfl, h__1⟩ := nw_pI_el h__0
  obtain ⟨j, r, rfl, h__2⟩ := nw_pI_el h__1
  obtain ⟨q, r, rfl, h__3⟩ := nw_pR_el h__2
  obtain ⟨n, z, h1, h__4⟩ := nw_sA_el h__3
  obtain ⟨h2, hj, h__5⟩ := nw_if_el h__4
  have e3 : z = false := by simpa using h2
  subst e3
  obtain ⟨e1, e2⟩ := nw_vpin hj (nw_shp_n h1)
  refine va_iast hx hb (hK.arr h1) hP (nw_w_D hI hA) hS q 0 (nw_w_at h1) rfl e1 hd (fun H1 locs1 hP1 _ hS1 => ?_)
  rw [e2, ← nw_e_arr (z := false), ← nw_w_set h1] at hP1
  exact hk _ _ _ _ h__5 p e s m args below meth c cs ss Q R A hG _ _ _ hl hP1 hS1
theorem nw_s_bastore (hk : ∀ a b c d, k a b c d → nw_V G μ Ψ a b c d) (hd : decode (nw_B μ) pc = .ok (.bastore, 1)) (h__0 : nw_step G μ Ψ (.bastore) pc ls st σ k) : nw_V G μ Ψ pc ls st σ := by
  intro p e s m args below meth c cs ss Q R A hG H locs la hl hP hS
  obtain ⟨hx, hb, hml, hown, hts, hK, hI, hfr, hlo, hce, hsl, hA, hret, hlaw⟩ := id hG
  obtain ⟨v, r, rfl, h__1⟩ := nw_pI_el h__0
  obtain ⟨j, r, rfl, h__2⟩ := nw_pI_el h__1
  obtain ⟨q, r, rfl, h__3⟩ := nw_pR_el h__2
  obtain ⟨n, z, h1, h__4⟩ := nw_sA_el h__3
  obtain ⟨h2, hj, hv, h__5⟩ := nw_if_el h__4
  subst h2
  obtain ⟨e1, e2⟩ := nw_vpin hj (nw_shp_n h1)
  refine va_zast hx hb (hK.arr h1) hP (nw_w_D hI hA) hS q 0 (nw_w_at h1) rfl e1 hd (fun H1 locs1 hP1 _ hS1 => ?_)
  rw [e2, show vp_nar .boolean (Int32.ofInt v) = Int32.ofInt v from by rcases hv with rfl | rfl <;> decide, ← nw_e_arr (z := true), ← nw_w_set h1] at hP1
  exact hk _ _ _ _ h__5 p e s m args below meth c cs ss Q R A hG _ _ _ hl hP1 hS1
theorem nw_s_arraylength (hk : ∀ a b c d, k a b c d → nw_V G μ Ψ a b c d) (hd : decode (nw_B μ) pc = .ok (.arraylength, 1)) (h__0 : nw_step G μ Ψ (.arraylength) pc ls st σ k) : nw_V G μ Ψ pc ls st σ := by
  intro p e s m args below meth c cs ss Q R A hG H locs la hl hP hS
  obtain ⟨hx, hb, hml, hown, hts, hK, hI, hfr, hlo, hce, hsl, hA, hret, hlaw⟩ := id hG
  obtain ⟨q, r, rfl, h__1⟩ := nw_pR_el h__0
  obtain ⟨h1, h__2⟩ := nw_if_el h__1
  simp only [Bool.and_eq_true] at h1
  have hq : q = 38 := Nat.eq_of_beq_eq_true h1.1
  have e1 : μ = 118 := Nat.eq_of_beq_eq_true h1.2
  subst hq
  obtain ⟨hX, hXl, hXA, hXn⟩ := hlaw e1
  refine va_slen hx hb hX hXl hXA hS hd ?_
  rw [← Int32.ofInt_eq_ofNat]
  exact hk _ _ _ _ h__2 p e s m args below meth c cs ss Q R A hG _ _ _ hl hP hS
theorem nw_s_ireturn (hd : decode (nw_B μ) pc = .ok (.ireturn, 1)) (h : nw_step G μ Ψ .ireturn pc ls st σ k) : nw_V G μ Ψ pc ls st σ := by
  intro p e s m args below meth c cs ss Q R A hG H locs la hl hP hS
  obtain ⟨hx, hb, hml, hown, hts, hK, hI, hfr, hlo, hce, hsl, hA, hret, hlaw⟩ := id hG
  match st, h with
  | [.inr v], h =>
    have h : (match nw_Rt μ with
      | some .int => Ψ (some v) σ
      | some .boolean => (v = 0 ∨ v = 1) ∧ Ψ (some v) σ
      | _ => False) := h
    refine hret (some v) σ H locs pc la ?_ ?_ hP hS hd
    · split at h
      · rename_i hR; rw [hR]; trivial
      · rename_i hR; rw [hR]; exact h.1
      · exact h.elim
    · split at h
      · exact h
      · exact h.2
      · exact h.elim
theorem nw_s_return (hd : decode (nw_B μ) pc = .ok (.return_, 1)) (h : nw_step G μ Ψ .return_ pc ls st σ k) : nw_V G μ Ψ pc ls st σ := by
  intro p e s m args below meth c cs ss Q R A hG H locs la hl hP hS
  obtain ⟨hx, hb, hml, hown, hts, hK, hI, hfr, hlo, hce, hsl, hA, hret, hlaw⟩ := id hG
  match st, h with
  | [], h =>
    have h : (match nw_Rt μ with
      | none => Ψ none σ
      | some _ => False) := h
    refine hret none σ H locs pc la ?_ ?_ hP hS hd
    · split at h
      · rename_i hR; rw [hR]; trivial
      · exact h.elim
    · split at h
      · exact h
      · exact h.elim
theorem nw_blind {args : List nw_v} {σ : nw_S} : FrameBlind (va_Pc (args.map (nw_cv G)) (fun U => nw_P G σ U.heap ∧ nw_K G U ∧ nw_I G)) := by
  intro a U g mk q
  obtain ⟨q1, q2, q3, q4⟩ := q
  exact ⟨q1, q2, nw_K.moved (u := U) (U := U.calling g mk a) (Vm.Alike.refl U.vm) q3, q4⟩
theorem nw_ca_el {n : Nat} {f : List nw_v → List nw_v → Prop} (h : nw_ca st n f) : ∃ as r, st = as.reverse ++ r ∧ as.length = n ∧ r.length ≤ 8 ∧ f as r := by
  obtain ⟨h1, h⟩ := nw_if_el h
  simp only [Bool.and_eq_true] at h1
  have h2 := Nat.le_of_ble_eq_true h1.1
  exact ⟨(st.take n).reverse, st.drop n, by simp, by simp [h2], Nat.le_of_ble_eq_true h1.2, h⟩
/-- behind a call, by the answer's kind -/
theorem nw_after {p : Program} {e : Env} {R : Room} {s : State} {m : MethodId} {args : Array Value} {below : List Frame} {meth : Method} {c : Code} {H : Heap} {locs : List Loc} {cs ss : Nat} {Q : State → Prop} {la : Array Slot} {st0 : List Value} {A : Nat → Prop} {ν : Nat} {Φ : Option Int → nw_S → Prop} {a : Array Value} {r : List nw_v}
    (hr : va_Run p G.1 e R s m args below meth c H locs cs ss 0 0 (F0 m pc la st0) (r.map (nw_cv G)) (nw_mQ G ν Φ a) (nw_A G)) (hS : va_S A s.heap H locs) (hA : ∀ k, k < 38 → A (nw_ad G k))
    (kk : ∀ (o : Option Int) (u : nw_S) (H1 : Heap) (locs1 : List Loc), Φ o u → nw_P G u H1 → va_S A s.heap H1 locs1 → W p G.1 e R s m args below meth c H1 locs1 cs ss Q (F0 m (pc + 3) la ((nw_ro o r).map (nw_cv G)))) : W p G.1 e R s m args below meth c H locs cs ss Q (F0 m pc la st0) := by
  have hA1 : ∀ q, nw_A G q → A q := by
    rintro q ⟨k, hk, rfl⟩
    exact hA k hk
  unfold nw_mQ at hr
  rcases Option.eq_none_or_eq_some (nw_Rt ν) with hR | ⟨ty, hR⟩
  · rw [hR] at hr
    refine va_callv hr hS (fun q _ h => hA1 q h) hA1 (fun u t H1 locs1 ht hvm hp hB hz hk hS1 => ?_)
    obtain ⟨hB1, -⟩ := hB
    rw [ht] at hB1
    exact kk none u H1 locs1 hp hB1 hS1
  · rw [hR] at hr
    refine va_calli hr hS (fun q _ h => hA1 q h) hA1 (fun v u t H1 locs1 ht hvm hp hB hz hk hS1 => ?_)
    obtain ⟨hB1, -⟩ := hB
    obtain ⟨rfl, hp⟩ := hp
    rw [ht] at hB1
    exact kk (some u.1) u.2 H1 locs1 hp hB1 hS1
theorem nw_cb {R : Room} {s : State} {args : Array Value} {i idx ν : Nat} (hts : ∀ w ∈ nw_tb, w.before args s = true) (hc : nw_cOK i (idx, ν)) (hlv : nw_Lv ν + 1 ≤ R.frames) (hlo : 34 * (nw_Lv ν + 1) ≤ R.locals) : CallB R s args (nw_own i) idx (nw_Y ν) (nw_B ν) (nw_mL ν) (nw_Rt ν) (nw_W ν) (nw_rm ν) 0 0 (nw_N ν) := by
  obtain ⟨h1, h2, h3, h4, -, -⟩ := hc
  have hm := nw_mo (μ := ν) (Nat.lt_succ_of_lt h1)
  simp only [nw_mOK, Bool.and_eq_true, decide_eq_true_eq] at hm
  obtain ⟨⟨⟨-, m2⟩, m3⟩, m4⟩ := hm
  have m2 := Nat.le_of_ble_eq_true m2
  refine callB_of (Ts := nw_tb) (ws' := nw_tb) (nw_N ν) hts ?_ rfl rfl rfl (hts _ h4) (hts _ h2) ⟨m3.1, m3.2, m4⟩ ⟨hlv, ?_⟩
  · intro w hw
    have hw2 : w ∈ nw_tb := by
      rcases List.mem_cons.mp hw with rfl | hw
      · exact h3
      · exact hw
    exact ⟨hw2, good_of_word (List.mem_filter.mp hw2).2⟩
  · show 8 + (nw_mL ν + 11) + 34 * nw_Lv ν ≤ R.locals
    omega
theorem nw_s_invokevirtual {idx : Nat} (hk : ∀ a b c d, k a b c d → nw_V G μ Ψ a b c d) (hd : decode (nw_B μ) pc = .ok (.invokevirtual idx, 3)) (h__0 : nw_step G μ Ψ (.invokevirtual idx) pc ls st σ k) : nw_V G μ Ψ pc ls st σ := by
  intro p e s m args below meth c cs ss Q R A hG H locs la hl hP hS
  obtain ⟨hx, hb, hml, hown, hts, hK, hI, hfr, hlo, hce, hsl, hA, hret, hlaw⟩ := id hG
  obtain ⟨ν, h1, h__1⟩ := nw_oS_el h__0
  obtain ⟨h2, h__2⟩ := nw_if_el h__1
  obtain ⟨as, r, rfl, h3, h4, h__3⟩ := nw_ca_el h__2
  obtain ⟨q, as, rfl, h__4⟩ := nw_pR_el h__3
  obtain ⟨ci, fs, h5, h__5⟩ := nw_sO_el h__4
  obtain ⟨h6, h__6⟩ := nw_if_el h__5
  obtain ⟨Φ, hΦ, hM⟩ := nw_Tr_el h__6
  have h6 : ci = nw_C ν := Nat.eq_of_beq_eq_true h6
  simp only [Bool.and_eq_true, Bool.not_eq_true'] at h2
  have hlv := Nat.le_of_ble_eq_true h2.2
  have hc := nw_c_ok _ _ (nw_look h1)
  have hcb := nw_cb (R := R) hts hc (by omega) (by omega)
  obtain ⟨g1, g2, g3, g4, -, g5⟩ := hc
  obtain ⟨g6, g7, T, N, g8⟩ := g5 h2.1
  dsimp only at g8 g6 g7
  subst h6
  have hrv := va_recv (q0 := q) hK.1 hP g8 (nw_w_at h5)
  refine nw_after (r := r) (Φ := Φ) (va_runV (As := as.map (nw_cv G)) (rest := r.map (nw_cv G)) (C := (nw_Y ν).cls) (b := nw_ad G q) ⟨hx, hb, hml, hown, hts⟩ hM ⟨hcb, hts _ g6, hts _ g7⟩ ⟨nw_blind, hrv, fun U hU hW => ⟨rfl, by rw [hU]; exact hP, nw_K.moved hW.alike hK, hI⟩⟩ rfl ?_ hl.1 ?_ (lv_room (nw_room h4)) hd ⟨by omega, by omega⟩) hS hA (fun o u H1 locs1 hp hP1 hS1 => ?_)
  · simpa using h3
  · simp [nw_cv]
  · exact hk _ _ _ _ (hΦ _ _ hp) p e s m args below meth c cs ss Q R A hG _ _ _ hl hP1 hS1
theorem nw_s_invokestatic {idx : Nat} (hk : ∀ a b c d, k a b c d → nw_V G μ Ψ a b c d) (hd : decode (nw_B μ) pc = .ok (.invokestatic idx, 3)) (h__0 : nw_step G μ Ψ (.invokestatic idx) pc ls st σ k) : nw_V G μ Ψ pc ls st σ := by
  intro p e s m args below meth c cs ss Q R A hG H locs la hl hP hS
  obtain ⟨hx, hb, hml, hown, hts, hK, hI, hfr, hlo, hce, hsl, hA, hret, hlaw⟩ := id hG
  obtain ⟨ν, h1, h__1⟩ := nw_oS_el h__0
  have hc := nw_c_ok _ _ (nw_look h1)
  split at h__1
  · rename_i _ _ e1
    have e2 : ν = 116 := Nat.eq_of_beq_eq_true (by assumption)
    subst e2
    obtain ⟨a, r, rfl, h__2⟩ := nw_pI_el h__1
    obtain ⟨h2, ha, h__3⟩ := nw_if_el h__2
    simp only [Bool.and_eq_true] at h2
    have h3 := Nat.le_of_ble_eq_true h2.1
    have h4 := nw_room (G := G) (Nat.le_of_ble_eq_true h2.2)
    obtain ⟨-, g2, g3, g4, g5, -⟩ := hc
    refine va_mabs hx hb (hml.trans hl.1.symm) hown (hts _ g2) (hts _ (g5 rfl)) (hts _ g4) (hts _ g3) (by omega) (by omega) hce hsl hd ?_
    rw [show (if 0 ≤ Int32.ofInt a then Int32.ofInt a else 0 - Int32.ofInt a) = Int32.ofInt (if 0 ≤ a then a else 0 - a) from ?_]
    · exact hk _ _ _ _ h__3 p e s m args below meth c cs ss Q R A hG _ _ _ hl hP hS
    · have hz := nw_of_le (a := 0) (b := a) ⟨by decide, by decide⟩ ha
      rw [show Int32.ofInt 0 = 0 from rfl] at hz
      by_cases q : 0 ≤ a
      · rw [if_pos (hz.mpr q), if_pos q]
      · rw [if_neg (fun z => q (hz.mp z)), if_neg q, Int32.ofInt_sub]
        rfl
  · have e2 : ν = 117 := Nat.eq_of_beq_eq_true (by assumption)
    subst e2
    obtain ⟨b, r, rfl, h__2⟩ := nw_pI_el h__1
    obtain ⟨a, r, rfl, h__3⟩ := nw_pI_el h__2
    obtain ⟨h2, ha, hb2, h__4⟩ := nw_if_el h__3
    simp only [Bool.and_eq_true] at h2
    have h3 := Nat.le_of_ble_eq_true h2.1
    have h4 := nw_room (G := G) (Nat.le_of_ble_eq_true h2.2)
    obtain ⟨-, g2, g3, g4, g5, -⟩ := hc
    refine va_mmax hx hb (hml.trans hl.1.symm) hown (hts _ g2) (hts _ (g5 rfl)) (hts _ g4) (hts _ g3) (by omega) (by omega) hce hsl hd ?_
    rw [show (if Int32.ofInt a < Int32.ofInt b then Int32.ofInt b else Int32.ofInt a) = Int32.ofInt (if a < b then b else a) from ?_]
    · exact hk _ _ _ _ h__4 p e s m args below meth c cs ss Q R A hG _ _ _ hl hP hS
    · have hz := nw_of_lt ha hb2
      by_cases q : a < b
      · rw [if_pos (hz.mpr q), if_pos q]
      · rw [if_neg (fun z => q (hz.mp z)), if_neg q]
  · obtain ⟨h2, h__2⟩ := nw_if_el h__1
    obtain ⟨as, r, rfl, h3, h4, h__3⟩ := nw_ca_el h__2
    obtain ⟨Φ, hΦ, hM⟩ := nw_Tr_el h__3
    simp only [Bool.and_eq_true] at h2
    have hlv := Nat.le_of_ble_eq_true h2.2
    have hcb := nw_cb (R := R) hts hc (by omega) (by omega)
    obtain ⟨-, -, -, -, g5, -⟩ := hc
    refine nw_after (r := r) (Φ := Φ) (va_runS (As := as.map (nw_cv G)) (rest := r.map (nw_cv G)) ⟨hx, hb, hml, hown, hts⟩ hM ⟨hcb, hts _ (g5 h2.1)⟩ ⟨nw_blind, fun U hU hW => ⟨rfl, by rw [hU]; exact hP, nw_K.moved hW.alike hK, hI⟩⟩ rfl ?_ hl.1 ?_ (lv_room (nw_room h4)) hd ⟨by omega, by omega⟩) hS hA (fun o u H1 locs1 hp hP1 hS1 => ?_)
    · simpa using h3
    · simp
    · exact hk _ _ _ _ (hΦ _ _ hp) p e s m args below meth c cs ss Q R A hG _ _ _ hl hP1 hS1
end NWH
