section NC9
variable {G : nw_G} {σ : nw_S} {D : nd_D}
theorem m100 {Φ : Int → nw_S → Prop} (hw : nd_wf D) (hC : nm_st D σ) {x1 : Int} (h1 : nw_r x1) (h : ∀ u : nw_S, nm_st D u → (∀ k, k < 26 → u k = σ k) → Φ (nq_fixed D x1) u) : nw_TI G 100 [.inl 26, .inr x1] σ Φ := by
  have hP := nd_P_le hw
  have hb := nd_tq_in hw (nd_M D 1) (nd_M D 2) 0 0 0
  have hi := nd_bp_iff (t := nd_tw D) hb.2.2.1.1
  have hh := (nd_M_lt hw 1).2
  have hs := (nd_M_lt hw 2).2
  refine nw_TI_of (by decide) (Nat.le_of_ble_eq_true rfl) (bk100_0 (c67' hw hC.1 h1 (fun z => ?_) (fun z => ?_)))
  · rw [nq_fixed, nd_it_t z] at h
    obtain ⟨z1, z2⟩ := z
    refine ⟨by decide, fun _ => c88 hw hC (fun u hM hF hj hg => ⟨nd_bp_r ⟨hb.2.2.1.1, hb.2.2.1.2.2⟩, fun q => ?_, fun q => ?_⟩), fun q => absurd q (by decide)⟩
    · have q0 : (nd_tw D).1 ≠ 0 := fun z => q (hi.mpr z)
      rw [nd_it_f q0] at h
      rw [nd_bp_ne q0]
      have hg := hg q0
      have hlt := hb.2.2.1.2.1 q0
      have hlt : (nd_tw D).2.2.1 < nd_P D := hlt
      have hge : 0 ≤ (nd_tw D).2.2.1 := hb.2.2.1.1
      have hgr : -17000 ≤ (nd_tw D).2.1 ∧ (nd_tw D).2.1 ≤ 5000 := hb.2.1
      have hxf := nd_x_lt hw (p := (nd_tw D).2.2.1.toNat) (c := x1.toNat) (by omega)
      have key : ∀ (w i : Nat) (τ : nw_S) (x7 : Int), i + w = nd_P D → x7 = i → (nd_tw D).2.2.1 ≤ i → nm_st D τ → nm_fr D τ → (∀ k, k < 26 → τ k = σ k) → τ 26 14 = (nd_tw D).2.1 → (¬ ∃ q : Nat, (nd_tw D).2.2.1 < q ∧ q < i ∧ nd_Se D (nd_M D 1) 0 0 0 q = true ∧ nd_sc D (nd_M D 2) q = (nd_tw D).2.1 ∧ nd_x D q x1.toNat ≠ nd_x D (nd_tw D).2.2.1.toNat x1.toNat) → nw_V G 100 (nw_pi Φ) 54 [some (.inl 26), some (.inr x1), some (.inr (nd_tw D).2.2.1), some (.inr (nd_M D 1 : Int)), some (.inr (nd_M D 2 : Int)), some (.inr (nd_x D (nd_tw D).2.2.1.toNat x1.toNat : Int)), some (.inr (nd_P D : Int)), some (.inr x7)] [] τ := by
        intro w
        induction w with
        | zero =>
          intro i τ x7 hi h7 hfi hT hF hj hg hno
          subst h7
          have hi : i = nd_P D := by omega
          subst hi
          rw [nd_it_f (show ¬ nd_fx D x1 from hno)] at h
          exact bk100_54 ⟨by omega, by omega, fun _ => h τ hT hj, fun q => by omega⟩
        | succ w ih =>
          intro i τ x7 hi h7 hfi hT hF hj hg hno
          subst h7
          have eB := hF.2 i (by omega)
          have hB := nd_B_lt hw i
          have hsc := nd_sc_le hw (nd_M D 2) i
          have hx := nd_x_lt hw (p := i) (c := x1.toNat) (by omega)
          have more : (nd_Se D (nd_M D 1) 0 0 0 i = true → nd_sc D (nd_M D 2) i = (nd_tw D).2.1 → nd_x D i x1.toNat = nd_x D (nd_tw D).2.2.1.toNat x1.toNat) → ¬ ∃ q : Nat, (nd_tw D).2.2.1 < q ∧ q < i + 1 ∧ nd_Se D (nd_M D 1) 0 0 0 q = true ∧ nd_sc D (nd_M D 2) q = (nd_tw D).2.1 ∧ nd_x D q x1.toNat ≠ nd_x D (nd_tw D).2.2.1.toNat x1.toNat := by
            rintro hm ⟨q, a1, a2, a3, a4, a5⟩
            by_cases hq : q = i
            · subst hq
              exact a5 (hm a3 a4)
            · exact hno ⟨q, a1, by omega, a3, a4, a5⟩
          refine bk100_54 ⟨by omega, by omega, fun q => by omega, fun _ => ⟨by omega, nb_rand _ _, ?_⟩⟩
          simp only [Int.toNat_natCast]
          rw [eB, nb_and (by omega) (by omega)]
          refine ⟨fun q => ih (i + 1) _ _ (by omega) (by omega) (by omega) hT hF hj hg (more (fun a => ?_)), fun q => c86 hw hT.1 hF rfl rfl (by omega) hs (fun u1 hu1 => ?_)⟩
          · simp [nd_Se] at a
            omega
          · have e1 := hu1 26 (by decide)
            have hT1 := hT.x hu1
            have hF1 : nm_fr D u1 := ⟨by rw [e1]; exact hF.1, by rw [hu1 35 (by decide)]; exact hF.2⟩
            have hj1 : ∀ k, k < 26 → u1 k = σ k := fun k q => by rw [hu1 k (by omega)]; exact hj k q
            have hg1 : u1 26 14 = (nd_tw D).2.1 := by rw [e1]; exact hg
            rw [hg1]
            refine ⟨by omega, by omega, fun q2 => ih (i + 1) _ _ (by omega) (by omega) (by omega) hT1 hF1 hj1 hg1 (more (fun _ a => absurd a q2)), fun q2 => c84 hw hT1.1 rfl (c := x1.toNat) (by omega) (by omega) (by omega) (fun u2 hu2 => ?_)⟩
            have e2 := hu2 26 (by decide)
            have hT2 := hT1.x hu2
            have hF2 : nm_fr D u2 := ⟨by rw [e2]; exact hF1.1, by rw [hu2 35 (by decide)]; exact hF1.2⟩
            have hj2 : ∀ k, k < 26 → u2 k = σ k := fun k q => by rw [hu2 k (by omega)]; exact hj1 k q
            have hg2 : u2 26 14 = (nd_tw D).2.1 := by rw [e2]; exact hg1
            refine ⟨by omega, by omega, fun q3 => ih (i + 1) _ _ (by omega) (by omega) (by omega) hT2 hF2 hj2 hg2 (more (fun _ _ => by omega)), fun q3 => ?_⟩
            have hfi' : (nd_tw D).2.2.1 < i := by
              rcases Int.lt_or_le (nd_tw D).2.2.1 i with y | y
              · exact y
              · exfalso
                apply q3
                rw [show (nd_tw D).2.2.1.toNat = i from by omega]
            rw [nd_it_t (show nd_fx D x1 from ⟨i, hfi', by omega, by simp [nd_Se]; omega, q2, fun z => q3 (by rw [z])⟩)] at h
            exact h u2 hT2 hj2
      refine c82 hw hM (by decide) (c82 hw hM (by decide) (c84 hw hM (p := (nd_tw D).2.2.1.toNat) (c := x1.toNat) (by omega) (by omega) (by omega) (by omega) (fun u2 hu2 => ?_)))
      have hT2 := nm_st.x ⟨hM, Or.inr hF⟩ hu2
      have e2 := hu2 26 (by decide)
      exact c77 hw hT2.1 (key (nd_P D - (nd_tw D).2.2.1.toNat) (nd_tw D).2.2.1.toNat u2 _ (by omega) (by omega) (by omega) hT2 ⟨by rw [e2]; exact hF.1, by rw [hu2 35 (by decide)]; exact hF.2⟩ (fun k q => by rw [hu2 k (by omega)]; exact hj k q) (by rw [e2]; exact hg) (fun ⟨q, a1, a2, _⟩ => by omega))
    · rw [nd_it_t (hi.mp q)] at h
      exact h u ⟨hM, Or.inr hF⟩ hj
  · rw [nq_fixed, nd_it_f z] at h
    exact ⟨by decide, fun q => absurd rfl q, fun _ => h σ hC (fun _ _ => rfl)⟩
/-! a rule that is off -/
theorem nd_kp_cg {n : Nat} {x : Nat → Nat} {g g' : Nat → Int} (h : ∀ i, i < 4 → g i = g' i) : nd_kp n x g = nd_kp n x g' := by
  unfold nd_kp
  rw [h 0 (by omega), h 1 (by omega), h 2 (by omega), h 3 (by omega)]
theorem nd_bs_cg {n : Nat} {x : Nat → Nat} {f f' : Nat → Nat → Int} : ∀ R : Nat, (∀ i r, i < 4 → r < R → f i r = f' i r) → nd_bs n x f R = nd_bs n x f' R
  | 0, _ => rfl
  | R + 1, h => by
    unfold nd_bs
    rw [nd_bs_cg R (fun i r a b => h i r a (by omega)), nd_kp_cg (g := fun i => f i R) (g' := fun i => f' i R) (fun i a => h i R a (by omega))]
theorem nd_co_cg {s : Nat} {f f' : Nat → Nat → Int} : ∀ R : Nat, (∀ r, r < R → f 4 r = f' 4 r) → nd_co f s R = nd_co f' s R
  | 0, _ => rfl
  | R + 1, h => by
    unfold nd_co
    rw [nd_co_cg R (fun r b => h r (by omega)), h R (by omega)]
theorem nd_md_bit (f : Nat → Nat → Int) (k : Int) : ∀ (R i : Nat), (nd_md f k R).testBit i = (decide (i < R) && decide (f 5 i = k))
  | 0, i => by simp [nd_md]
  | R + 1, i => by
    have ih := nd_md_bit f k R i
    have hlt := nd_md_lt f k R
    unfold nd_md
    by_cases hk : f 5 R = k
    · rw [if_pos hk, Nat.add_comm]
      rcases Nat.lt_trichotomy i R with q | q | q
      · rw [Nat.testBit_two_pow_add_gt q, ih]
        simp [q, show i < R + 1 by omega]
      · subst q
        rw [Nat.testBit_two_pow_add_eq, Nat.testBit_lt_two_pow hlt]
        simp [hk]
      · rw [Nat.testBit_lt_two_pow (Nat.lt_of_lt_of_le (show 2 ^ R + nd_md f k R < 2 ^ (R + 1) by rw [Nat.pow_succ]; omega) (Nat.pow_le_pow_right (by decide) q))]
        simp [show ¬ i < R + 1 by omega]
    · rw [if_neg hk, Nat.add_zero, ih]
      by_cases q : i = R
      · subst q
        simp [hk]
      · have : (i < R + 1) ↔ (i < R) := by omega
        simp [this]
def nd_o0 (D : nd_D) (r : Nat) : nd_D := (nd_n D, nd_m D, nd_w D, nd_r D, fun i q => if i = 5 ∧ q = r then 0 else nd_f D i q)
theorem nd_o0_f (r i q : Nat) : nd_f (nd_o0 D r) i q = if i = 5 ∧ q = r then 0 else nd_f D i q := rfl
theorem nd_o0_wf (hw : nd_wf D) (r : Nat) : nd_wf (nd_o0 D r) := by
  refine ⟨hw.1, hw.2.1, hw.2.2.1, hw.2.2.2.1, hw.2.2.2.2.1, fun q hq => ?_⟩
  have hok := hw.2.2.2.2.2 q hq
  dsimp only [nd_ok] at hok ⊢
  obtain ⟨k1, k2, k3, k4, k5, k6, k7, k8, k9⟩ := hok
  simp only [nd_o0_f]
  refine ⟨fun i hi => ?_, by simpa using k2, by simpa [show nd_n (nd_o0 D r) = nd_n D from rfl] using k3, by simpa [show nd_n (nd_o0 D r) = nd_n D from rfl] using k4, by simpa using k5, by simpa using k6, by simpa using k7, by simpa using k8, ?_⟩
  · split
    · decide
    · exact k1 i hi
  · split
    · decide
    · exact k9
theorem nd_o0_B (r p : Nat) : nd_B (nd_o0 D r) p = nd_B D p := by
  unfold nd_B
  exact nd_bs_cg (nd_r D) (fun i q hi _ => by rw [nd_o0_f, if_neg (by omega)])
theorem nd_o0_C (r s : Nat) : nd_C (nd_o0 D r) s = nd_C D s := by
  unfold nd_C
  exact nd_co_cg (nd_r D) (fun q _ => by rw [nd_o0_f, if_neg (by omega)])
theorem nd_o0_M {r : Nat} (hw : nd_wf D) (hr : r < nd_r D) {k : Int} (hk : k ≠ 0) : nd_M (nd_o0 D r) k = nd_M D k &&& nd_off D r := by
  apply Nat.eq_of_testBit_eq
  intro i
  unfold nd_M nd_off
  rw [nd_md_bit, Nat.testBit_and, nd_md_bit, Nat.testBit_xor, Nat.testBit_two_pow, show (4095 : Nat) = 2 ^ 12 - 1 from rfl, Nat.testBit_two_pow_sub_one, nd_o0_f]
  have hR := hw.2.2.2.2.1
  show (decide (i < nd_r D) && _) = _
  by_cases q : i = r
  · subst q
    simp [hk.symm, show i < 12 by omega]
  · by_cases q2 : i < nd_r D
    · simp [q, Ne.symm q, show i < 12 by omega]
    · simp [q2]
theorem nd_o0_tq (r h s : Nat) : nd_tq (nd_o0 D r) h s 0 0 0 = nd_tq D h s 0 0 0 := by
  unfold nd_tq
  have e1 : nd_Se (nd_o0 D r) h 0 0 0 = nd_Se D h 0 0 0 := by
    funext p
    unfold nd_Se
    rw [nd_o0_B]
    rfl
  have e2 : nd_sc (nd_o0 D r) s = nd_sc D s := by
    funext p
    unfold nd_sc
    rw [nd_o0_B, nd_o0_C]
    rfl
  rw [e1, e2]
  rfl
theorem m111 {Φ : Int → nw_S → Prop} (hw : nd_wf D) (hC : nm_st D σ) {x1 : Int} (h1 : nw_r x1) (h : ∀ u : nw_S, nm_st D u → (∀ k, k < 26 → u k = σ k) → Φ (nq_price D x1) u) : nw_TI G 111 [.inl 26, .inr x1] σ Φ := by
  have hR := hw.2.2.2.2.1
  have hb := nd_tq_in hw (nd_M D 1) (nd_M D 2) 0 0 0
  have hi := nd_bp_iff (t := nd_tw D) hb.2.2.1.1
  refine nw_TI_of (by decide) (Nat.le_of_ble_eq_true rfl) (bk111_0 (c69' hw hC.1 h1 (fun z => ?_) (fun z => ?_)))
  · rw [nq_price, nd_it_t z] at h
    obtain ⟨z1, z2⟩ := z
    obtain ⟨r, hr⟩ : ∃ r : Nat, x1 = r := ⟨x1.toNat, by omega⟩
    subst hr
    have hrr : r < nd_r D := by omega
    refine ⟨by decide, fun _ => c88 hw hC (fun u hM hF hj hg => ⟨nd_bp_r ⟨hb.2.2.1.1, hb.2.2.1.2.2⟩, fun q => ⟨by omega, ?_⟩, fun q => ?_⟩), fun q => absurd q (by decide)⟩
    · have q0 : (nd_tw D).1 ≠ 0 := fun z => q (hi.mpr z)
      rw [nd_it_f q0] at h
      rw [Int.toNat_natCast] at h ⊢
      have hg := hg q0
      have hw' := nd_o0_wf hw r
      have etw : nd_tw (nd_o0 D r) = nd_tq D (nd_M D 1 &&& nd_off D r) (nd_M D 2 &&& nd_off D r) 0 0 0 := by
        unfold nd_tw
        rw [nd_o0_tq, nd_o0_M hw hrr (by decide), nd_o0_M hw hrr (by decide)]
      -- what stood stands
      have hst : (nd_tw (nd_o0 D r)).1 ≠ 0 := by
        obtain ⟨p, e1, e2, e3⟩ := nd_tp_first _ q0
        rw [etw]
        refine nd_tp_pos (nd_sc_le hw _) _ p e2 ?_
        simp [nd_Se] at e3 ⊢
        rw [← Nat.and_assoc, e3, Nat.zero_and]
      have hM' : nc_mo (nd_o0 D r) (nw_up u 34 r 0) := by
        obtain ⟨a1, a2, a3, a4, a5⟩ := hM
        refine ⟨a1, a2, a3, a4, fun i q hi hq => ?_⟩
        rw [nd_o0_f]
        by_cases y : i = 5 ∧ q = r
        · obtain ⟨y1, y2⟩ := y
          subst y1
          subst y2
          rw [if_pos ⟨rfl, rfl⟩]
          exact nu_at
        · rw [if_neg y]
          rw [← a5 i q hi hq]
          unfold nw_up
          rw [if_neg (by omega)]
      have hF' : nm_fr (nd_o0 D r) (nw_up u 34 r 0) := by
        refine ⟨by rw [nu_ne (by decide)]; exact hF.1, fun p hp => ?_⟩
        rw [nu_ne (by decide), nd_o0_B]
        exact hF.2 p hp
      have hb' := nd_tq_in hw' (nd_M (nd_o0 D r) 1) (nd_M (nd_o0 D r) 2) 0 0 0
      have hi' := nd_bp_iff (t := nd_tw (nd_o0 D r)) hb'.2.2.1.1
      refine c88 hw' ⟨hM', Or.inr hF'⟩ (fun u3 hM3 hF3 hj3 hg3 => ⟨nd_bp_r ⟨hb'.2.2.1.1, hb'.2.2.1.2.2⟩, fun q3 => ?_, fun q3 => absurd (hi'.mp q3) hst⟩)
      rw [hg3 hst, hg, etw]
      refine h _ ⟨?_, Or.inr ?_⟩ (fun k q => ?_)
      · obtain ⟨a1, a2, a3, a4, a5⟩ := hM3
        refine ⟨a1, a2, a3, a4, fun i q hi hq => ?_⟩
        by_cases y : i = 5 ∧ q = r
        · obtain ⟨y1, y2⟩ := y
          subst y1
          subst y2
          rw [nu_at]
          exact hM.2.2.2.2 5 q (by decide) hq
        · have := a5 i q hi hq
          rw [nd_o0_f, if_neg y] at this
          rw [← this]
          unfold nw_up
          rw [if_neg (by omega)]
      · refine ⟨by rw [nu_ne (by decide)]; exact hF3.1, fun p hp => ?_⟩
        have := hF3.2 p hp
        rw [nd_o0_B] at this
        rw [nu_ne (by decide)]
        exact this
      · rw [nu_ne (by omega), hj3 k q, nu_ne (by omega)]
        exact hj k q
    · rw [nd_it_t (hi.mp q)] at h
      exact h u ⟨hM, Or.inr hF⟩ hj
  · rw [nq_price, nd_it_f z] at h
    exact ⟨by decide, fun q => absurd rfl q, fun _ => h σ hC (fun _ _ => rfl)⟩
end NC9
