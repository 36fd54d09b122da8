section NC7
variable {G : nw_G} {σ : nw_S} {D : nd_D}
theorem nd_tc_in (hw : nd_wf D) (a k : Int) (how : Nat) : (0 ≤ (nd_tc D a k how).1 ∧ (nd_tc D a k how).1 ≤ 7776) ∧ (-17000 ≤ (nd_tc D a k how).2.1 ∧ (nd_tc D a k how).2.1 ≤ 5000) ∧ (0 ≤ (nd_tc D a k how).2.2.1 ∧ ((nd_tc D a k how).1 ≠ 0 → (nd_tc D a k how).2.2.1 < nd_P D) ∧ (nd_tc D a k how).2.2.1 ≤ 7776) ∧ (0 ≤ (nd_tc D a k how).2.2.2 ∧ (nd_tc D a k how).2.2.2 ≤ 7776) := nd_tq_in hw _ _ _ _ _
theorem c59' {Φ : nw_S → Prop} (hw : nd_wf D) (hC : nc_st D σ) {x1 x2 : Int} (z : nd_isK D x1 x2) (h : ∀ u : nw_S, nc_st D u → (∀ k, 26 ≤ k → u k = σ k) → nc_tp 17 u (nd_tc D x1 x2 1) → nc_tp 18 u (nd_tc D x1 x2 2) → Φ u) : nw_TV G 59 [.inl 0, .inr x1, .inr x2] σ Φ := by
  obtain ⟨⟨z1, z2⟩, z3, z4⟩ := z
  exact c59 hw hC.1 (c := x1.toNat) (k := x2.toNat) (by omega) (by omega) (by omega) (by omega) (fun u e t1 t2 => h u (hC.parts (fun j _ a b _ => e j a b)) (fun k q => e k (by omega) (by omega)) t1 t2)
theorem c37 {Φ : Int → nw_S → Prop} (hw : nd_wf D) (hC : nc_st D σ) {x1 x2 : Int} (h1 : nw_r x1) (h2 : nw_r x2) (h : ∀ u : nw_S, nc_st D u → (∀ k, 26 ≤ k → u k = σ k) → Φ (nq_force D x1 x2 1) u) : nw_TI G 37 [.inl 0, .inr x1, .inr x2] σ Φ := by
  refine nw_TI_of (by decide) (Nat.le_of_ble_eq_true rfl) (bk37_0 (c2' hw hC.1.1 h1 h2 (fun z => ?_) (fun z => ?_)))
  · rw [nq_force, nd_it_t z] at h
    refine ⟨by decide, fun _ => c59' hw hC z (fun u hu hf t1 t2 => ?_), fun q => absurd q (by decide)⟩
    have hb := nd_tc_in hw x1 x2 1
    obtain ⟨s0, s1, -, -⟩ := t1
    rw [s0, s1]
    refine ⟨by omega, fun q => ?_, fun q => ?_⟩
    · rw [nd_it_f q] at h; exact h u hu hf
    · rw [nd_it_t q] at h; exact h u hu hf
  · rw [nq_force, nd_it_f z] at h
    exact ⟨by decide, fun q => absurd rfl q, fun _ => h σ hC (fun _ _ => rfl)⟩
theorem c39 {Φ : Int → nw_S → Prop} (hw : nd_wf D) (hC : nc_st D σ) {x1 x2 : Int} (h1 : nw_r x1) (h2 : nw_r x2) (h : ∀ u : nw_S, nc_st D u → (∀ k, 26 ≤ k → u k = σ k) → Φ (nq_force D x1 x2 2) u) : nw_TI G 39 [.inl 0, .inr x1, .inr x2] σ Φ := by
  refine nw_TI_of (by decide) (Nat.le_of_ble_eq_true rfl) (bk39_0 (c2' hw hC.1.1 h1 h2 (fun z => ?_) (fun z => ?_)))
  · rw [nq_force, nd_it_t z] at h
    refine ⟨by decide, fun _ => c59' hw hC z (fun u hu hf t1 t2 => ?_), fun q => absurd q (by decide)⟩
    have hb := nd_tc_in hw x1 x2 2
    obtain ⟨s0, s1, -, -⟩ := t2
    rw [s0, s1]
    refine ⟨by omega, fun q => ?_, fun q => ?_⟩
    · rw [nd_it_f q] at h; exact h u hu hf
    · rw [nd_it_t q] at h; exact h u hu hf
  · rw [nq_force, nd_it_f z] at h
    exact ⟨by decide, fun q => absurd rfl q, fun _ => h σ hC (fun _ _ => rfl)⟩
theorem c38 {Φ : Int → nw_S → Prop} (hw : nd_wf D) (hC : nc_st D σ) {x1 x2 x3 : Int} (h1 : nw_r x1) (h2 : nw_r x2) (h3 : nw_r x3) (h : ∀ u : nw_S, nc_st D u → (∀ k, 26 ≤ k → u k = σ k) → Φ (nq_forced D x1 x2 x3) u) : nw_TI G 38 [.inl 0, .inr x1, .inr x2, .inr x3] σ Φ := by
  have hP := nd_P_le hw
  refine nw_TI_of (by decide) (Nat.le_of_ble_eq_true rfl) (bk38_0 (c2' hw hC.1.1 h1 h2 (fun z => ?_) (fun z => ?_)))
  · refine ⟨by decide, fun q => absurd q (by decide), fun _ => c1' hw hC.1.1 h3 (fun z3 => ?_) (fun z3 => ?_)⟩
    · rw [nq_forced, nd_it_t ⟨z, z3⟩] at h
      refine ⟨by decide, fun _ => c59' hw hC z (fun u hu hf t1 t2 => ?_), fun q => absurd q (by decide)⟩
      have hb := nd_tc_in hw x1 x2 1
      obtain ⟨s0, s1, s2, -⟩ := t1
      rw [s0, s2]
      obtain ⟨z31, z32⟩ := z3
      refine ⟨by omega, fun q => ?_, fun q => ?_⟩
      · rw [nd_it_f q] at h
        have hlt := hb.2.2.1.2.1 q
        exact c5 hw hu.1.1 (p := (nd_tc D x1 x2 1).2.2.1.toNat) (c := x3.toNat) (by omega) (by omega) (by omega) (by omega) (h u hu hf)
      · rw [nd_it_t q] at h; exact h u hu hf
    · rw [nq_forced, nd_it_f (fun y => z3 y.2)] at h
      exact ⟨by decide, fun q => absurd rfl q, fun _ => h σ hC (fun _ _ => rfl)⟩
  · rw [nq_forced, nd_it_f (fun y => z y.1)] at h
    exact ⟨by decide, fun _ => h σ hC (fun _ _ => rfl), fun q => absurd rfl q⟩
theorem c25a {Φ : Int → nw_S → Prop} {t o : nd_T} (ht : nc_tp 17 σ t) (ho : nc_tp 18 σ o) (r0 : 0 ≤ o.1 ∧ o.1 ≤ 7776) (rt : -17000 ≤ t.2.1 ∧ t.2.1 ≤ 5000) (ro : -17000 ≤ o.2.1 ∧ o.2.1 ≤ 5000) (rt2 : 0 ≤ t.2.2.1 ∧ t.2.2.1 ≤ 7776) (ro2 : 0 ≤ o.2.2.1 ∧ o.2.2.1 ≤ 7776) (h : Φ (nd_lack t o) σ) : nw_TI G 25 [.inl 17, .inl 18] σ Φ := by
  obtain ⟨t0, t1, t2, t3⟩ := ht
  obtain ⟨o0, o1, o2, o3⟩ := ho
  refine nw_TI_of (by decide) (Nat.le_of_ble_eq_true rfl) (bk25_0a ?_)
  rw [t1, t2, o0, o1, o2]
  refine ⟨by omega, fun q => ⟨by omega, by omega, fun q2 => ⟨by omega, ?_⟩, fun q2 => ⟨by omega, ?_⟩⟩, fun q => ?_⟩
  · rw [nd_lack, nd_it_f q, nd_it_f (by omega)] at h; exact h
  · rw [nd_lack, nd_it_f q, nd_it_t q2] at h; rw [Int.add_zero]; exact h
  · rw [nd_lack, nd_it_t q] at h; exact h
theorem c25b {Φ : Int → nw_S → Prop} {t o : nd_T} (ht : nc_tp 18 σ t) (ho : nc_tp 17 σ o) (r0 : 0 ≤ o.1 ∧ o.1 ≤ 7776) (rt : -17000 ≤ t.2.1 ∧ t.2.1 ≤ 5000) (ro : -17000 ≤ o.2.1 ∧ o.2.1 ≤ 5000) (rt2 : 0 ≤ t.2.2.1 ∧ t.2.2.1 ≤ 7776) (ro2 : 0 ≤ o.2.2.1 ∧ o.2.2.1 ≤ 7776) (h : Φ (nd_lack t o) σ) : nw_TI G 25 [.inl 18, .inl 17] σ Φ := by
  obtain ⟨t0, t1, t2, t3⟩ := ht
  obtain ⟨o0, o1, o2, o3⟩ := ho
  refine nw_TI_of (by decide) (Nat.le_of_ble_eq_true rfl) (bk25_0b ?_)
  rw [t1, t2, o0, o1, o2]
  refine ⟨by omega, fun q => ⟨by omega, by omega, fun q2 => ⟨by omega, ?_⟩, fun q2 => ⟨by omega, ?_⟩⟩, fun q => ?_⟩
  · rw [nd_lack, nd_it_f q, nd_it_f (by omega)] at h; exact h
  · rw [nd_lack, nd_it_f q, nd_it_t q2] at h; rw [Int.add_zero]; exact h
  · rw [nd_lack, nd_it_t q] at h; exact h
theorem c40 {Φ : Int → nw_S → Prop} (hw : nd_wf D) (hC : nc_st D σ) {x1 x2 : Int} (h1 : nw_r x1) (h2 : nw_r x2) (h : ∀ u : nw_S, nc_st D u → (∀ k, 26 ≤ k → u k = σ k) → Φ (nq_raise D x1 x2 1 2) u) : nw_TI G 40 [.inl 0, .inr x1, .inr x2] σ Φ := by
  refine nw_TI_of (by decide) (Nat.le_of_ble_eq_true rfl) (bk40_0 (c2' hw hC.1.1 h1 h2 (fun z => ?_) (fun z => ?_)))
  · rw [nq_raise, nd_it_t z] at h
    refine ⟨by decide, fun _ => c59' hw hC z (fun u hu hf t1 t2 => ?_), fun q => absurd q (by decide)⟩
    have hb := nd_tc_in hw x1 x2 1
    have hb2 := nd_tc_in hw x1 x2 2
    rw [t1.1]
    refine ⟨by omega, fun q => c25a t1 t2 hb2.1 hb.2.1 hb2.2.1 ⟨hb.2.2.1.1, hb.2.2.1.2.2⟩ ⟨hb2.2.2.1.1, hb2.2.2.1.2.2⟩ ?_, fun q => ?_⟩
    · rw [nd_it_f q] at h; exact h u hu hf
    · rw [nd_it_t q] at h; exact h u hu hf
  · rw [nq_raise, nd_it_f z] at h
    exact ⟨by decide, fun q => absurd rfl q, fun _ => h σ hC (fun _ _ => rfl)⟩
theorem c41 {Φ : Int → nw_S → Prop} (hw : nd_wf D) (hC : nc_st D σ) {x1 x2 : Int} (h1 : nw_r x1) (h2 : nw_r x2) (h : ∀ u : nw_S, nc_st D u → (∀ k, 26 ≤ k → u k = σ k) → Φ (nq_raise D x1 x2 2 1) u) : nw_TI G 41 [.inl 0, .inr x1, .inr x2] σ Φ := by
  refine nw_TI_of (by decide) (Nat.le_of_ble_eq_true rfl) (bk41_0 (c2' hw hC.1.1 h1 h2 (fun z => ?_) (fun z => ?_)))
  · rw [nq_raise, nd_it_t z] at h
    refine ⟨by decide, fun _ => c59' hw hC z (fun u hu hf t1 t2 => ?_), fun q => absurd q (by decide)⟩
    have hb := nd_tc_in hw x1 x2 2
    have hb2 := nd_tc_in hw x1 x2 1
    rw [t2.1]
    refine ⟨by omega, fun q => c25b t2 t1 hb2.1 hb.2.1 hb2.2.1 ⟨hb.2.2.1.1, hb.2.2.1.2.2⟩ ⟨hb2.2.2.1.1, hb2.2.2.1.2.2⟩ ?_, fun q => ?_⟩
    · rw [nd_it_f q] at h; exact h u hu hf
    · rw [nd_it_t q] at h; exact h u hu hf
  · rw [nq_raise, nd_it_f z] at h
    exact ⟨by decide, fun q => absurd rfl q, fun _ => h σ hC (fun _ _ => rfl)⟩
theorem c13' {Φ : Int → nw_S → Prop} (hw : nd_wf D) (hC : nc_ru D σ) {x1 : Int} (hr : nw_r x1) (ht : nd_isR D x1 → Φ 1 σ) (hf : ¬ nd_isR D x1 → Φ 0 σ) : nw_TI G 13 [.inl 6, .inr x1] σ Φ := by
  have e := hC.1
  have hn := hw.2.2.2.2.1
  exact c13 hr (by omega) (fun a b => ht ⟨a, by omega⟩) (fun a => hf (fun z => by have := z.1; have := z.2; omega))
theorem nd_bit {r : Nat} (h : r < 12) : 2 ^ r < 4096 := Nat.pow_lt_pow_right (by decide) (show r < 12 from h)
theorem c47 {Φ : Int → nw_S → Prop} (hw : nd_wf D) (hC : nc_st D σ) {x1 : Int} (h1 : nw_r x1) (h : ∀ u : nw_S, nc_st D u → (∀ k, 26 ≤ k → u k = σ k) → Φ (nq_price D x1) u) : nw_TI G 47 [.inl 0, .inr x1] σ Φ := by
  have hR := hw.2.2.2.2.1
  have hb := nd_tq_in hw (nd_M D 1) (nd_M D 2) 0 0 0
  refine nw_TI_of (by decide) (Nat.le_of_ble_eq_true rfl) (bk47_0 (c13' hw hC.1.2.1 h1 (fun z => ?_) (fun z => ?_)))
  · rw [nq_price, nd_it_t z] at h
    obtain ⟨z1, z2⟩ := z
    refine ⟨by decide, fun _ => c58 hw hC.1 hC.2.1 (fun u e e0 e5 ht => ?_), fun q => absurd q (by decide)⟩
    have hu := hC.whole e e0 e5 ht
    have hf : ∀ k, 26 ≤ k → u k = σ k := fun k q => e k (by omega) (by omega)
    obtain ⟨t0, t1, t2, t3⟩ := ht
    rw [t0]
    refine ⟨by unfold nd_tw; omega, fun q => c17 hw hu.1.2.1 (by decide) (c17 hw hu.1.2.1 (by decide) ?_), fun q => ?_⟩
    · rw [nd_it_f q] at h
      obtain ⟨r, hr⟩ : ∃ r : Nat, x1 = r := ⟨x1.toNat, by omega⟩
      subst hr
      have hr12 : r < 12 := by omega
      have h2r := nd_bit hr12
      have hM1 := (nd_M_lt hw 1).2
      have hM2 := (nd_M_lt hw 2).2
      rw [nb_shl (by omega), nb_dif hM1 h2r, nb_dif hM2 h2r]
      refine c57b hw hu.1 rfl rfl (Nat.lt_of_le_of_lt Nat.and_le_left hM1) (Nat.lt_of_le_of_lt Nat.and_le_left hM2) (fun u2 e2 ht2 => ?_)
      rw [ht2.2.1, e2 16 (by decide), t1]
      rw [Int.toNat_natCast] at h
      exact h u2 (hu.parts (fun j _ _ q _ => e2 j q)) (fun k q => by rw [e2 k (by omega)]; exact hf k q)
    · rw [nd_it_t q] at h; exact h u hu hf
  · rw [nq_price, nd_it_f z] at h
    exact ⟨by decide, fun q => absurd rfl q, fun _ => h σ hC (fun _ _ => rfl)⟩
end NC7
