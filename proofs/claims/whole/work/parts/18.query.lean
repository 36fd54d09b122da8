section NC6
variable {G : nw_G} {σ : nw_S} {D : nd_D}
/-! sets of rules -/
def nd_kt (D : nd_D) (p : Nat) : Nat := nd_M D 1 &&& (4095 ^^^ nd_B D p)
/-- some plan keeps all of s -/
def nd_can (D : nd_D) (s : Nat) : Prop := ∃ p, p < nd_P D ∧ s &&& nd_kt D p = s
def nd_cl (D : nd_D) (s : Nat) : Prop := s &&& nd_M D 1 = s ∧ ¬ nd_can D s ∧ ∀ r, r < 12 → s.testBit r = true → nd_can D (s ^^^ 2 ^ r)
def nd_rx (D : nd_D) (s : Nat) : Prop := s &&& nd_M D 1 = s ∧ nd_can D (nd_M D 1 &&& (4095 ^^^ s)) ∧ ∀ r, r < 12 → s.testBit r = true → ¬ nd_can D ((nd_M D 1 &&& (4095 ^^^ s)) ||| 2 ^ r)
def nd_bc (s : Nat) : Nat → Int
  | 0 => 0
  | r + 1 => nd_bc s r + (if s.testBit r then 1 else 0)
def nd_lt (key : Nat → Int) (a b : Nat) : Prop := key a < key b ∨ (key a = key b ∧ a < b)
noncomputable def nd_cv (V : Nat → Prop) : Nat → Int
  | 0 => 0
  | N + 1 => nd_cv V N + @ite Int (V N) (Classical.propDecidable _) 1 0
/-- a listing at cell k holds the sets below N that V says, in their order -/
def nc_L (V : Nat → Prop) (key : Nat → Int) (N k : Nat) (σ : nw_S) : Prop := ∃ n : Nat, σ k 0 = n ∧ n ≤ 924 ∧ (n : Int) = nd_cv V N ∧ (∀ i, i < n → ∃ s : Nat, σ (k + 1) i = s ∧ s < N ∧ V s ∧ σ (k + 2) i = key s) ∧ (∀ i j, i < j → j < n → nd_lt key (σ (k + 1) i).toNat (σ (k + 1) j).toNat) ∧ ∀ s, s < N → V s → ∃ i, i < n ∧ σ (k + 1) i = s
def nc_po (D : nd_D) (σ : nw_S) : Prop := ∀ s, s < 2 ^ nd_r D → (σ 19 s = 1 ∧ nd_can D s) ∨ (σ 19 s = 0 ∧ ¬ nd_can D s)
def nc_li (D : nd_D) (σ : nw_S) : Prop := nc_po D σ ∧ nc_L (nd_cl D) (fun s => nd_bc s 12) (2 ^ nd_r D) 20 σ ∧ nc_L (nd_rx D) (nd_C D) (2 ^ nd_r D) 23 σ
def nc_ls (D : nd_D) (σ : nw_S) : Prop := σ 0 11 = 1 ∨ (σ 0 11 = 0 ∧ nc_li D σ)
def nc_st (D : nd_D) (σ : nw_S) : Prop := nc_al D σ ∧ nc_wh D σ ∧ nc_ls D σ
theorem nc_L.to {V : Nat → Prop} {key : Nat → Int} {N k : Nat} {u : nw_S} (h : nc_L V key N k σ) (e0 : u k = σ k) (e1 : u (k + 1) = σ (k + 1)) (e2 : u (k + 2) = σ (k + 2)) : nc_L V key N k u := by
  unfold nc_L
  rw [e0, e1, e2]
  exact h
theorem nc_li.to {u : nw_S} (h : nc_li D σ) (e : ∀ k, 19 ≤ k → k < 26 → u k = σ k) : nc_li D u := by
  obtain ⟨h1, h2, h3⟩ := h
  refine ⟨fun s hs => ?_, h2.to (e _ (by omega) (by omega)) (e _ (by omega) (by omega)) (e _ (by omega) (by omega)), h3.to (e _ (by omega) (by omega)) (e _ (by omega) (by omega)) (e _ (by omega) (by omega))⟩
  rw [e 19 (by omega) (by omega)]
  exact h1 s hs
theorem nc_ls.to {u : nw_S} (h : nc_ls D σ) (e0 : u 0 11 = σ 0 11) (e : ∀ k, 19 ≤ k → k < 26 → u k = σ k) : nc_ls D u := by
  rcases h with h | h
  · exact Or.inl (by rw [e0]; exact h)
  · exact Or.inr ⟨by rw [e0]; exact h.1, h.2.to e⟩
/-! the answers -/
noncomputable def nd_it (P : Prop) (a b : Int) : Int := @ite Int P (Classical.propDecidable P) a b
theorem nd_it_t {P : Prop} {a b : Int} (h : P) : nd_it P a b = a := if_pos h
theorem nd_it_f {P : Prop} {a b : Int} (h : ¬ P) : nd_it P a b = b := if_neg h
def nd_isC (D : nd_D) (a : Int) : Prop := 0 ≤ a ∧ a < nd_n D
def nd_isK (D : nd_D) (a k : Int) : Prop := nd_isC D a ∧ 0 ≤ k ∧ k < nd_m D a.toNat
def nd_isR (D : nd_D) (a : Int) : Prop := 0 ≤ a ∧ a < nd_r D
def nd_tc (D : nd_D) (a k : Int) (how : Nat) : nd_T := nd_tq D (nd_M D 1) (nd_M D 2) a.toNat k.toNat how
noncomputable def nq_best (D : nd_D) : Int := nd_it ((nd_tw D).1 = 0) (-1000004) (nd_tw D).2.1
noncomputable def nq_pick (D : nd_D) (a : Int) : Int := nd_it (nd_isC D a) (nd_it ((nd_tw D).1 = 0) (-1000004) (nd_x D (nd_tw D).2.2.1.toNat a.toNat)) (-1000001)
def nd_fx (D : nd_D) (a : Int) : Prop := ∃ q : Nat, (nd_tw D).2.2.1 < q ∧ q < nd_P D ∧ nd_Se D (nd_M D 1) 0 0 0 q = true ∧ nd_sc D (nd_M D 2) q = (nd_tw D).2.1 ∧ nd_x D q a.toNat ≠ nd_x D (nd_tw D).2.2.1.toNat a.toNat
noncomputable def nq_fixed (D : nd_D) (a : Int) : Int := nd_it (nd_isC D a) (nd_it ((nd_tw D).1 = 0) (-1000004) (nd_it (nd_fx D a) (-1) (nd_x D (nd_tw D).2.2.1.toNat a.toNat))) (-1000001)
noncomputable def nq_force (D : nd_D) (a k : Int) (how : Nat) : Int := nd_it (nd_isK D a k) (nd_it ((nd_tc D a k how).1 = 0) (-1000004) (nd_tc D a k how).2.1) (-1000001)
noncomputable def nq_forced (D : nd_D) (a k o : Int) : Int := nd_it (nd_isK D a k ∧ nd_isC D o) (nd_it ((nd_tc D a k 1).1 = 0) (-1000004) (nd_x D (nd_tc D a k 1).2.2.1.toNat o.toNat)) (-1000001)
/-- by how much the best of t must grow to be the best of both -/
noncomputable def nd_lack (t o : nd_T) : Int := nd_it (o.1 = 0) 0 (nd_it (t.2.2.1 < o.2.2.1) (if o.2.1 - t.2.1 < 0 then 0 else o.2.1 - t.2.1) (if o.2.1 - t.2.1 + 1 < 0 then 0 else o.2.1 - t.2.1 + 1))
noncomputable def nq_raise (D : nd_D) (a k : Int) (i j : Nat) : Int := nd_it (nd_isK D a k) (nd_it ((nd_tc D a k i).1 = 0) (-1000004) (nd_lack (nd_tc D a k i) (nd_tc D a k j))) (-1000001)
def nd_off (D : nd_D) (r : Nat) : Nat := 4095 ^^^ 2 ^ r
noncomputable def nq_price (D : nd_D) (a : Int) : Int := nd_it (nd_isR D a) (nd_it ((nd_tw D).1 = 0) (-1000004) ((nd_tq D (nd_M D 1 &&& nd_off D a.toNat) (nd_M D 2 &&& nd_off D a.toNat) 0 0 0).2.1 - (nd_tw D).2.1)) (-1000001)
/-! the class's answers -/
theorem nc_st.whole (hC : nc_st D σ) {u : nw_S} (e : ∀ j, j ≠ 0 → j ≠ 16 → u j = σ j) (e0 : ∀ j, j ≠ 5 → u 0 j = σ 0 j) (e5 : u 0 5 = 0) (ht : nc_tp 16 u (nd_tw D)) : nc_st D u := ⟨hC.1.to (fun k _ _ => e k (by omega) (by omega)), Or.inr ⟨e5, ht⟩, hC.2.2.to (e0 11 (by decide)) (fun k _ _ => e k (by omega) (by omega))⟩
theorem nc_st.parts (hC : nc_st D σ) {u : nw_S} (e : ∀ j, j ≠ 15 → j ≠ 17 → j ≠ 18 → j < 26 → u j = σ j) : nc_st D u := by
  refine ⟨hC.1.to (fun k _ _ => e k (by omega) (by omega) (by omega) (by omega)), ?_, hC.2.2.to (by rw [e 0 (by omega) (by omega) (by omega) (by omega)]) (fun k _ _ => e k (by omega) (by omega) (by omega) (by omega))⟩
  rcases hC.2.1 with h | h
  · exact Or.inl (by rw [e 0 (by omega) (by omega) (by omega) (by omega)]; exact h)
  · exact Or.inr ⟨by rw [e 0 (by omega) (by omega) (by omega) (by omega)]; exact h.1, h.2.to (e 16 (by omega) (by omega) (by omega) (by omega))⟩
theorem c1' {Φ : Int → nw_S → Prop} (hw : nd_wf D) (hC : nc_ch D σ) {x1 : Int} (hr : nw_r x1) (ht : nd_isC D x1 → Φ 1 σ) (hf : ¬ nd_isC D x1 → Φ 0 σ) : nw_TI G 1 [.inl 1, .inr x1] σ Φ := by
  have e := hC.1
  have hn := hw.1
  exact c1 hr (by omega) (fun a b => ht ⟨a, by omega⟩) (fun a => hf (fun z => by have := z.1; have := z.2; omega))
theorem c2' {Φ : Int → nw_S → Prop} (hw : nd_wf D) (hC : nc_ch D σ) {x1 x2 : Int} (h1 : nw_r x1) (h2 : nw_r x2) (ht : nd_isK D x1 x2 → Φ 1 σ) (hf : ¬ nd_isK D x1 x2 → Φ 0 σ) : nw_TI G 2 [.inl 1, .inr x1, .inr x2] σ Φ := by
  refine c2 hw hC h1 h2 (fun c k hc hk a b => ht ?_) (fun q => hf (fun z => ?_))
  · subst hc
    subst hk
    refine ⟨⟨by omega, by omega⟩, by omega, ?_⟩
    rw [Int.toNat_natCast]
    omega
  · obtain ⟨⟨z1, z2⟩, z3, z4⟩ := z
    exact q x1.toNat x2.toNat (by omega) (by omega) (by omega) (by omega)
theorem c34 {Φ : Int → nw_S → Prop} (hw : nd_wf D) (hC : nc_st D σ) (h : ∀ u : nw_S, nc_st D u → (∀ k, 26 ≤ k → u k = σ k) → Φ (nq_best D) u) : nw_TI G 34 [.inl 0] σ Φ := by
  refine nw_TI_of (by decide) (Nat.le_of_ble_eq_true rfl) (bk34_0 (c58 hw hC.1 hC.2.1 (fun u e e0 e5 ht => ?_)))
  have hb := nd_tq_in hw (nd_M D 1) (nd_M D 2) 0 0 0
  have hu := hC.whole e e0 e5 ht
  have hf : ∀ k, 26 ≤ k → u k = σ k := fun k q => e k (by omega) (by omega)
  obtain ⟨t0, t1, -, -⟩ := ht
  rw [t0, t1]
  refine ⟨by unfold nd_tw; omega, fun q => ?_, fun q => ?_⟩
  · have := h u hu hf
    rw [nq_best, nd_it_f q] at this
    exact this
  · have := h u hu hf
    rw [nq_best, nd_it_t q] at this
    exact this
theorem c35 {Φ : Int → nw_S → Prop} (hw : nd_wf D) (hC : nc_st D σ) {x1 : Int} (h1 : nw_r x1) (h : ∀ u : nw_S, nc_st D u → (∀ k, 26 ≤ k → u k = σ k) → Φ (nq_pick D x1) u) : nw_TI G 35 [.inl 0, .inr x1] σ Φ := by
  have hP := nd_P_le hw
  have hb := nd_tq_in hw (nd_M D 1) (nd_M D 2) 0 0 0
  refine nw_TI_of (by decide) (Nat.le_of_ble_eq_true rfl) (bk35_0 (c1' hw hC.1.1 h1 (fun z => ?_) (fun z => ?_)))
  · have h := fun u => h u
    rw [nq_pick, nd_it_t z] at h
    refine ⟨by decide, fun _ => c58 hw hC.1 hC.2.1 (fun u e e0 e5 ht => ?_), fun q => absurd q (by decide)⟩
    have hu := hC.whole e e0 e5 ht
    have hf : ∀ k, 26 ≤ k → u k = σ k := fun k q => e k (by omega) (by omega)
    obtain ⟨t0, t1, t2, -⟩ := ht
    rw [t0, t2]
    obtain ⟨z1, z2⟩ := z
    refine ⟨by unfold nd_tw; omega, fun q => ?_, fun q => ?_⟩
    · rw [nd_it_f q] at h
      have hlt := hb.2.2.1.2.1 q
      exact c5 hw hu.1.1 (p := (nd_tw D).2.2.1.toNat) (c := x1.toNat) (by unfold nd_tw; omega) (by omega) (by unfold nd_tw; omega) (by omega) (h u hu hf)
    · rw [nd_it_t q] at h
      exact h u hu hf
  · rw [nq_pick, nd_it_f z] at h
    exact ⟨by decide, fun q => absurd rfl q, fun _ => h σ hC (fun _ _ => rfl)⟩
theorem c36 {Φ : Int → nw_S → Prop} (hw : nd_wf D) (hC : nc_st D σ) {x1 : Int} (h1 : nw_r x1) (h : ∀ u : nw_S, nc_st D u → (∀ k, 26 ≤ k → u k = σ k) → Φ (nq_fixed D x1) u) : nw_TI G 36 [.inl 0, .inr x1] σ Φ := by
  have hP := nd_P_le hw
  have hb := nd_tq_in hw (nd_M D 1) (nd_M D 2) 0 0 0
  have hh := (nd_M_lt hw 1).2
  have hs := (nd_M_lt hw 2).2
  refine nw_TI_of (by decide) (Nat.le_of_ble_eq_true rfl) (bk36_0 (c1' hw hC.1.1 h1 (fun z => ?_) (fun z => ?_)))
  · rw [nq_fixed, nd_it_t z] at h
    refine ⟨by decide, fun _ => c58 hw hC.1 hC.2.1 (fun u e e0 e5 ht => ?_), fun q => absurd q (by decide)⟩
    have hu := hC.whole e e0 e5 ht
    have hf : ∀ k, 26 ≤ k → u k = σ k := fun k q => e k (by omega) (by omega)
    obtain ⟨t0, t1, t2, -⟩ := ht
    rw [t0]
    obtain ⟨z1, z2⟩ := z
    refine ⟨by unfold nd_tw; omega, fun q => ?_, fun q => ?_⟩
    · rw [nd_it_f q] at h
      have hlt := hb.2.2.1.2.1 q
      have hlt : (nd_tw D).2.2.1 < nd_P D := hlt
      have hge : 0 ≤ (nd_tw D).2.2.1 := hb.2.2.1.1
      have hgr : -17000 ≤ (nd_tw D).2.1 ∧ (nd_tw D).2.1 ≤ 5000 := hb.2.1
      have hxf := nd_x_lt hw (p := (nd_tw D).2.2.1.toNat) (c := x1.toNat) (by omega)
      have key : ∀ (w i : Nat) (x5 : Int), i + w = nd_P D → x5 = i → (nd_tw D).2.2.1 < i → (¬ ∃ q : Nat, (nd_tw D).2.2.1 < q ∧ q < i ∧ nd_Se D (nd_M D 1) 0 0 0 q = true ∧ nd_sc D (nd_M D 2) q = (nd_tw D).2.1 ∧ nd_x D q x1.toNat ≠ nd_x D (nd_tw D).2.2.1.toNat x1.toNat) → nw_V G 36 (nw_pi Φ) 77 [some (.inl 0), some (.inr x1), some (.inr (nd_M D 1 : Int)), some (.inr (nd_M D 2 : Int)), some (.inr (nd_x D (nd_tw D).2.2.1.toNat x1.toNat : Int)), some (.inr x5)] [] u := by
        intro w
        induction w with
        | zero =>
          intro i x5 hi h5 hfi hno
          subst h5
          have hi : i = nd_P D := by omega
          subst hi
          have e : u 1 1 = nd_P D := hu.1.1.2.1
          rw [nd_it_f (show ¬ nd_fx D x1 from hno)] at h
          exact bk36_77 ⟨by omega, by omega, fun _ => h u hu hf, fun q => by omega⟩
        | succ w ih =>
          intro i x5 hi h5 hfi hno
          subst h5
          have e : u 1 1 = nd_P D := hu.1.1.2.1
          have eB := hu.1.2.2.2.2 i (by omega)
          have hB := nd_B_lt hw i
          have hsc := nd_sc_le hw (nd_M D 2) i
          have hx := nd_x_lt hw (p := i) (c := x1.toNat) (by omega)
          have more : (nd_Se D (nd_M D 1) 0 0 0 i = true → nd_sc D (nd_M D 2) i = (nd_tw D).2.1 → nd_x D i x1.toNat = nd_x D (nd_tw D).2.2.1.toNat x1.toNat) → ¬ ∃ q : Nat, (nd_tw D).2.2.1 < q ∧ q < i + 1 ∧ nd_Se D (nd_M D 1) 0 0 0 q = true ∧ nd_sc D (nd_M D 2) q = (nd_tw D).2.1 ∧ nd_x D q x1.toNat ≠ nd_x D (nd_tw D).2.2.1.toNat x1.toNat := by
            rintro hm ⟨q, a1, a2, a3, a4, a5⟩
            by_cases hq : q = i
            · subst hq
              exact a5 (hm a3 a4)
            · exact hno ⟨q, a1, by omega, a3, a4, a5⟩
          refine bk36_77 ⟨by omega, by omega, fun q => by omega, fun _ => ⟨by omega, nb_rand _ _, ?_⟩⟩
          simp only [Int.toNat_natCast]
          rw [eB, nb_and (by omega) (by omega)]
          refine ⟨fun q => ih (i + 1) _ (by omega) (by omega) (by omega) (more (fun a => ?_)), fun q => c56 hw hu.1 rfl rfl (by omega) hs ⟨by omega, by rw [t1]; omega, fun q2 => ih (i + 1) _ (by omega) (by omega) (by omega) (more (fun _ a => ?_)), fun q2 => c5 hw hu.1.1 rfl (c := x1.toNat) (by omega) (by omega) (by omega) ⟨by omega, by omega, fun q3 => ih (i + 1) _ (by omega) (by omega) (by omega) (more (fun _ _ => by omega)), fun q3 => ?_⟩⟩⟩
          · simp [nd_Se] at a
            omega
          · rw [t1] at q2
            exact absurd a q2
          · rw [t1] at q2
            rw [nd_it_t (show nd_fx D x1 from ⟨i, hfi, by omega, by simp [nd_Se]; omega, q2, fun z => q3 (by rw [z])⟩)] at h
            exact h u hu hf
      have e5 := hu.1.1
      refine c17 hw hu.1.2.1 (by decide) (c17 hw hu.1.2.1 (by decide) (c5 hw hu.1.1 (p := (nd_tw D).2.2.1.toNat) (c := x1.toNat) (by omega) (by omega) (by omega) (by omega) ?_))
      rw [t2]
      exact key (nd_P D - ((nd_tw D).2.2.1.toNat + 1)) ((nd_tw D).2.2.1.toNat + 1) _ (by omega) (by omega) (by omega) (fun ⟨q, a1, a2, _⟩ => by omega)
    · rw [nd_it_t q] at h
      exact h u hu hf
  · rw [nq_fixed, nd_it_f z] at h
    exact ⟨by decide, fun q => absurd rfl q, fun _ => h σ hC (fun _ _ => rfl)⟩
end NC6
