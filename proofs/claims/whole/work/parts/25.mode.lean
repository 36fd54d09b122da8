section NC13
variable {G : nw_G} {σ : nw_S} {D : nd_D}
theorem m73 {Φ : Int → nw_S → Prop} (hw : nd_wf D) (hC : nm_st D σ) {x1 x2 x3 x4 x5 : Int} (h1 : nw_r x1) (h2 : nw_r x2) (h3 : nw_r x3) (h4 : nw_r x4) (h5 : nw_r x5) (h : ∀ u : nw_S, nm_st (nu_rule D x1 x2 x3 x4 x5) u → (∀ k, k < 26 → u k = σ k) → Φ (nq_rule D x1 x2 x3 x4 x5) u) : nw_TI G 73 [.inl 26, .inr x1, .inr x2, .inr x3, .inr x4, .inr x5] σ Φ := by
  have hR := hw.2.2.2.2.1
  have e := hC.1.2.1
  have tail : ¬ nd_nm D x1 x2 x3 → nw_TI G 72 [.inr x1, .inr x2, .inr x3, .inr x4] σ (fun v3 u3 => (nw_r v3) ∧ ((v3 = 0 → Φ (-1000002) u3) ∧ (v3 ≠ 0 → nw_TI G 66 [.inr x5, .inr 1, .inr 1000] u3 (fun v4 u4 => (nw_r v4) ∧ ((v4 ≠ 0 → (nw_r (u4 26 3)) ∧ (((u4 26 3) ≠ 12 → (0 ≤ (u4 26 3) ∧ (u4 26 3) < 12) ∧ (Φ (((u4 26 3) + 1) - 1) (nw_up (nw_up (nw_up (nw_up (nw_up (nw_up (nw_up (nw_up u4 29 ((u4 26 3).toNat) x1) 30 ((u4 26 3).toNat) x2) 31 ((u4 26 3).toNat) x3) 32 ((u4 26 3).toNat) x4) 33 ((u4 26 3).toNat) x5) 34 ((u4 26 3).toNat) 1) 26 3 ((u4 26 3) + 1)) 26 11 0))) ∧ ((u4 26 3) = 12 → Φ (-1000003) u4))) ∧ (v4 = 0 → Φ (-1000002) u4)))))) := by
    intro z
    rw [nq_rule, nd_it_f z] at h
    refine c72 h1 h2 h3 h4 (fun z2 => ?_) (fun z2 => ?_)
    · refine ⟨by decide, fun y => absurd y (by decide), fun _ => c66 h5 (by decide) (by decide) (fun a b => ?_) (fun a => ?_)⟩
      · rw [nd_it_t ⟨z2, a, b⟩] at h
        rw [e]
        refine ⟨by decide, fun _ => ⟨by omega, fun q => ⟨by omega, ?_⟩, fun q => ?_⟩, fun y => absurd y (by decide)⟩
        · have hR12 : nd_r D < 12 := by omega
          rw [if_pos hR12, nu_rule, nd_iD_t ⟨z, ⟨z2, a, b⟩, hR12⟩] at h
          rw [show ((nd_r D : Int) + 1 - 1) = nd_r D from by omega, Int.toNat_natCast]
          obtain ⟨a1, a2, a3, a4, a5⟩ := hC.1
          refine h _ ⟨⟨?_, ?_, fun c hc => ?_, fun i hi => ?_, fun i r hi hr => ?_⟩, Or.inl nu_at⟩ (fun k q => ?_)
          · rw [nu_nj (by decide), nu_nj (by decide), nu_ne (by decide), nu_ne (by decide), nu_ne (by decide), nu_ne (by decide), nu_ne (by decide), nu_ne (by decide)]; exact a1
          · rw [nu_nj (by decide), nu_at]
            show _ = ((nd_r D + 1 : Nat) : Int)
            push_cast
            rfl
          · rw [nu_ne (by decide), nu_ne (by decide), nu_ne (by decide), nu_ne (by decide), nu_ne (by decide), nu_ne (by decide), nu_ne (by decide), nu_ne (by decide)]; exact a3 c hc
          · rw [nu_ne (by decide), nu_ne (by decide), nu_ne (by decide), nu_ne (by decide), nu_ne (by decide), nu_ne (by decide), nu_ne (by decide), nu_ne (by decide)]; exact a4 i hi
          · have hr : r < nd_r D + 1 := hr
            rw [nu_ne (by omega), nu_ne (by omega)]
            by_cases y : r = nd_r D
            · subst y
              rw [nd_aR_fn]
              match i, hi with
              | 0, _ => rw [nu_ne (by decide), nu_ne (by decide), nu_ne (by decide), nu_ne (by decide), nu_ne (by decide), nu_at]; rfl
              | 1, _ => rw [nu_ne (by decide), nu_ne (by decide), nu_ne (by decide), nu_ne (by decide), nu_at]; rfl
              | 2, _ => rw [nu_ne (by decide), nu_ne (by decide), nu_ne (by decide), nu_at]; rfl
              | 3, _ => rw [nu_ne (by decide), nu_ne (by decide), nu_at]; rfl
              | 4, _ => rw [nu_ne (by decide), nu_at]; rfl
              | 5, _ => rw [nu_at]; rfl
              | i + 6, hi => omega
            · rw [nd_aR_f (by omega), ← a5 i r hi (by omega)]
              simp [nw_up, y]
          · rw [nu_ne (by omega), nu_ne (by omega), nu_ne (by omega), nu_ne (by omega), nu_ne (by omega), nu_ne (by omega), nu_ne (by omega), nu_ne (by omega)]
        · rw [if_neg (by omega), nu_rule, nd_iD_f (fun y => by omega)] at h
          exact h σ hC (fun _ _ => rfl)
      · rw [nd_it_f (fun y => by omega), nu_rule, nd_iD_f (fun y => by omega)] at h
        exact ⟨by decide, fun y => absurd rfl y, fun _ => h σ hC (fun _ _ => rfl)⟩
    · rw [nd_it_f (fun y => z2 y.1), nu_rule, nd_iD_f (fun y => z2 y.2.1.1)] at h
      exact ⟨by decide, fun _ => h σ hC (fun _ _ => rfl), fun y => absurd rfl y⟩
  have bad : nd_nm D x1 x2 x3 → Φ (-1000001) σ := by
    intro z
    rw [nq_rule, nd_it_t z, nu_rule, nd_iD_f (fun y => y.1 z)] at h
    exact h σ hC (fun _ _ => rfl)
  refine nw_TI_of (by decide) (Nat.le_of_ble_eq_true rfl) (bk73_0 (c66 h1 (by decide) (by decide) (fun a b => c66 h1 (by decide) (by decide) (fun a2 b2 => ?_) (fun a2 => ?_)) (fun a => c66 h1 (by decide) (by decide) (fun a2 b2 => by omega) (fun a2 => ?_))))
  · refine ⟨by decide, fun y => absurd y (by decide), fun _ => c67' hw hC.1 h2 (fun z => ?_) (fun z => ?_)⟩
    · refine ⟨by decide, fun y => absurd y (by decide), fun _ => ⟨by decide, fun y => absurd y (by decide), fun _ => c67' hw hC.1 h3 (fun z3 => ?_) (fun z3 => ?_)⟩⟩
      · refine ⟨by decide, fun _ => tail ?_, fun y => absurd y (by decide)⟩
        rintro (⟨_, _, y⟩ | ⟨_, _, y⟩)
        · exact y z
        · exact y z3
      · exact ⟨by decide, fun y => absurd rfl y, fun _ => bad (Or.inr ⟨a2, b2, z3⟩)⟩
    · exact ⟨by decide, fun _ => bad (Or.inl ⟨a, b, z⟩), fun y => absurd rfl y⟩
  · refine ⟨by decide, fun y => absurd y (by decide), fun _ => c67' hw hC.1 h2 (fun z => ?_) (fun z => ?_)⟩
    · refine ⟨by decide, fun y => absurd y (by decide), fun _ => ⟨by decide, fun _ => tail ?_, fun y => absurd rfl y⟩⟩
      rintro (⟨_, _, y⟩ | ⟨_, _, y⟩)
      · exact y z
      · omega
    · exact ⟨by decide, fun _ => bad (Or.inl ⟨a, b, z⟩), fun y => absurd rfl y⟩
  · refine ⟨by decide, fun _ => ⟨by decide, fun _ => tail ?_, fun y => absurd rfl y⟩, fun y => absurd rfl y⟩
    rintro (⟨_, _, y⟩ | ⟨_, _, y⟩) <;> omega
/-! one field of one rule: its mode, its weight -/
def nd_sF (D : nd_D) (i r : Nat) (v : Int) : nd_D := (nd_n D, nd_m D, nd_w D, nd_r D, fun j q => if j = i ∧ q = r then v else nd_f D j q)
theorem nd_sF_f {i r j q : Nat} {v : Int} : nd_f (nd_sF D i r v) j q = if j = i ∧ q = r then v else nd_f D j q := rfl
theorem nd_sF_B {i r : Nat} {v : Int} (hi : 4 ≤ i) (p : Nat) : nd_B (nd_sF D i r v) p = nd_B D p := by
  unfold nd_B
  exact nd_bs_cg (nd_r D) (fun j q hj _ => by rw [nd_sF_f, if_neg (by omega)])
theorem nd_sF_wf (hw : nd_wf D) {i r : Nat} {v : Int} (h : (i = 4 ∧ 1 ≤ v ∧ v ≤ 1000) ∨ (i = 5 ∧ 0 ≤ v ∧ v ≤ 2)) : nd_wf (nd_sF D i r v) := by
  refine ⟨hw.1, hw.2.1, hw.2.2.1, hw.2.2.2.1, hw.2.2.2.2.1, fun q hq => ?_⟩
  have hok := hw.2.2.2.2.2 q hq
  dsimp only [nd_ok] at hok ⊢
  obtain ⟨k1, k2, k3, k4, k5, k6, k7, k8, k9⟩ := hok
  have e : ∀ j, j < 4 → nd_f (nd_sF D i r v) j q = nd_f D j q := fun j hj => by rw [nd_sF_f, if_neg (by omega)]
  rw [e 0 (by omega), e 1 (by omega), e 2 (by omega), e 3 (by omega)]
  refine ⟨fun j hj => ?_, k2, k3, k4, k5, k6, k7, ?_, ?_⟩
  · rw [nd_sF_f]
    split
    · omega
    · exact k1 j hj
  · rw [nd_sF_f]
    split
    · omega
    · exact k8
  · rw [nd_sF_f]
    split
    · omega
    · exact k9
theorem nd_sF_C5 {r : Nat} {v : Int} (s : Nat) : nd_C (nd_sF D 5 r v) s = nd_C D s := by
  unfold nd_C
  exact nd_co_cg (nd_r D) (fun q _ => by rw [nd_sF_f, if_neg (by omega)])
theorem nd_sF_C4 {r : Nat} {v : Int} (hr : r < nd_r D) (s : Nat) : nd_C (nd_sF D 4 r v) s = nd_C D s + (if s.testBit r then v - nd_f D 4 r else 0) := by
  have : ∀ R, nd_co (nd_f (nd_sF D 4 r v)) s R = nd_co (nd_f D) s R + (if r < R ∧ s.testBit r = true then v - nd_f D 4 r else 0) := by
    intro R
    induction R with
    | zero => simp [nd_co]
    | succ R ih =>
      unfold nd_co
      rw [ih, nd_sF_f]
      by_cases q : R = r
      · subst q
        by_cases y : s.testBit R = true
        · simp [y]
          omega
        · simp [y]
      · have : (r < R + 1) ↔ (r < R) := by omega
        simp only [this, q, and_false, if_false]
        omega
  have h := this (nd_r D)
  simp only [hr, true_and] at h
  exact h
theorem nc_ru.sF (hC : nc_ru D σ) {i r : Nat} {v : Int} (hi : i < 6) : nc_ru (nd_sF D i r v) (nw_up σ (7 + i) r v) := by
  refine ⟨by rw [nu_ne (by omega)]; exact hC.1, fun j q hj hq => ?_⟩
  rw [nd_sF_f]
  by_cases y : j = i ∧ q = r
  · obtain ⟨rfl, rfl⟩ := y
    rw [if_pos ⟨rfl, rfl⟩, nu_at]
  · rw [if_neg y, ← hC.2 j q hj hq]
    unfold nw_up
    rw [if_neg (by omega)]
theorem nm_st.sF (hC : nm_st D σ) {i r : Nat} {v : Int} (hi : i < 6) (h4 : 4 ≤ i) : nm_st (nd_sF D i r v) (nw_up σ (29 + i) r v) := by
  obtain ⟨a1, a2, a3, a4, a5⟩ := hC.1
  refine ⟨⟨by rw [nu_ne (by omega)]; exact a1, by rw [nu_ne (by omega)]; exact a2, by rw [nu_ne (by omega)]; exact a3, by rw [nu_ne (by omega)]; exact a4, fun j q hj hq => ?_⟩, ?_⟩
  · rw [nd_sF_f]
    by_cases y : j = i ∧ q = r
    · obtain ⟨rfl, rfl⟩ := y
      rw [if_pos ⟨rfl, rfl⟩, nu_at]
    · rw [if_neg y, ← a5 j q hj hq]
      unfold nw_up
      rw [if_neg (by omega)]
  · rcases hC.2 with y | y
    · exact Or.inl (by rw [nu_ne (by omega)]; exact y)
    · refine Or.inr ⟨by rw [nu_ne (by omega)]; exact y.1, fun p hp => ?_⟩
      rw [nu_ne (by omega), nd_sF_B h4]
      exact y.2 p hp
noncomputable def nq_mode (D : nd_D) (a v : Int) : Int := nd_it (nd_isR D a) (if 0 ≤ v ∧ v ≤ 2 then nd_f D 5 a.toNat else -1000002) (-1000001)
noncomputable def nu_mode (D : nd_D) (a v : Int) : nd_D := nd_iD (nd_isR D a ∧ 0 ≤ v ∧ v ≤ 2) (nd_sF D 5 a.toNat v) D
noncomputable def nq_weigh (D : nd_D) (a v : Int) : Int := nd_it (nd_isR D a) (if 1 ≤ v ∧ v ≤ 1000 then nd_f D 4 a.toNat else -1000002) (-1000001)
noncomputable def nu_weigh (D : nd_D) (a v : Int) : nd_D := nd_iD (nd_isR D a ∧ 1 ≤ v ∧ v ≤ 1000) (nd_sF D 4 a.toNat v) D
theorem nu_mode_wf (hw : nd_wf D) (a v : Int) : nd_wf (nu_mode D a v) := by
  unfold nu_mode
  by_cases q : nd_isR D a ∧ 0 ≤ v ∧ v ≤ 2
  · rw [nd_iD_t q]; exact nd_sF_wf hw (Or.inr ⟨rfl, q.2⟩)
  · rw [nd_iD_f q]; exact hw
theorem nu_weigh_wf (hw : nd_wf D) (a v : Int) : nd_wf (nu_weigh D a v) := by
  unfold nu_weigh
  by_cases q : nd_isR D a ∧ 1 ≤ v ∧ v ≤ 1000
  · rw [nd_iD_t q]; exact nd_sF_wf hw (Or.inl ⟨rfl, q.2⟩)
  · rw [nd_iD_f q]; exact hw
theorem c30 {Φ : Int → nw_S → Prop} (hw : nd_wf D) (hC : nc_st D σ) {x1 x2 : Int} (h1 : nw_r x1) (h2 : nw_r x2) (h : ∀ u : nw_S, nc_st (nu_mode D x1 x2) u → (∀ k, 26 ≤ k → u k = σ k) → Φ (nq_mode D x1 x2) u) : nw_TI G 30 [.inl 0, .inr x1, .inr x2] σ Φ := by
  have hR := hw.2.2.2.2.1
  refine nw_TI_of (by decide) (Nat.le_of_ble_eq_true rfl) (bk30_0 (c13' hw hC.1.2.1 h1 (fun z => ?_) (fun z => ?_)))
  · rw [nq_mode, nd_it_t z] at h
    refine ⟨by decide, fun _ => ⟨h2, fun q => ?_, fun q => ⟨fun q2 => ?_, fun q2 => ?_⟩⟩, fun y => absurd y (by decide)⟩
    · rw [nu_mode, nd_iD_f (by omega), if_neg (by omega)] at h
      exact h σ hC (fun _ _ => rfl)
    · rw [nu_mode, nd_iD_t ⟨z, q, q2⟩, if_pos ⟨q, q2⟩] at h
      obtain ⟨z1, z2⟩ := z
      refine ⟨by omega, c50 ?_⟩
      rw [show σ 12 x1.toNat = nd_f D 5 x1.toNat from hC.1.2.1.2 5 x1.toNat (by decide) (by omega)]
      have hru := hC.1.2.1.sF (i := 5) (r := x1.toNat) (v := x2) (by decide)
      have hal : nc_al (nd_sF D 5 x1.toNat x2) (nw_up σ 12 x1.toNat x2) := by
        obtain ⟨⟨a1, a2, a3, a4, a5⟩, -, b1, b2, b3⟩ := hC.1
        refine ⟨⟨a1, a2, a3, a4, a5⟩, hru, b1, fun s hs => ?_, fun p hp => ?_⟩
        · rw [nd_sF_C5, nu_ne (by decide)]; exact b2 s hs
        · rw [nd_sF_B (by decide), nu_ne (by decide)]; exact b3 p hp
      refine h _ ⟨hal.to (fun k a b => by rw [nu_ne (by omega), nu_ne (by omega)]), Or.inl ?_, Or.inl nu_at⟩ (fun k q => by rw [nu_ne (by omega), nu_ne (by omega), nu_ne (by omega)])
      rw [nu_nj (by decide)]
      exact nu_at
    · rw [nu_mode, nd_iD_f (by omega), if_neg (by omega)] at h
      exact h σ hC (fun _ _ => rfl)
  · rw [nq_mode, nd_it_f z, nu_mode, nd_iD_f (fun y => z y.1)] at h
    exact ⟨by decide, fun y => absurd rfl y, fun _ => h σ hC (fun _ _ => rfl)⟩
theorem m74 {Φ : Int → nw_S → Prop} (hw : nd_wf D) (hC : nm_st D σ) {x1 x2 : Int} (h1 : nw_r x1) (h2 : nw_r x2) (h : ∀ u : nw_S, nm_st (nu_mode D x1 x2) u → (∀ k, k < 26 → u k = σ k) → Φ (nq_mode D x1 x2) u) : nw_TI G 74 [.inl 26, .inr x1, .inr x2] σ Φ := by
  have hR := hw.2.2.2.2.1
  refine nw_TI_of (by decide) (Nat.le_of_ble_eq_true rfl) (bk74_0 (c69' hw hC.1 h1 (fun z => ?_) (fun z => ?_)))
  · rw [nq_mode, nd_it_t z] at h
    refine ⟨by decide, fun _ => c66 h2 (by decide) (by decide) (fun q q2 => ?_) (fun q => ?_), fun y => absurd y (by decide)⟩
    · rw [nu_mode, nd_iD_t ⟨z, q, q2⟩, if_pos ⟨q, q2⟩] at h
      obtain ⟨z1, z2⟩ := z
      refine ⟨by decide, fun _ => ⟨by omega, ?_⟩, fun y => absurd y (by decide)⟩
      rw [show σ 34 x1.toNat = nd_f D 5 x1.toNat from hC.1.2.2.2.2 5 x1.toNat (by decide) (by omega)]
      exact h _ (hC.sF (i := 5) (by decide) (by decide)) (fun k q => nu_ne (by omega))
    · rw [nu_mode, nd_iD_f (by omega), if_neg (by omega)] at h
      exact ⟨by decide, fun y => absurd rfl y, fun _ => h σ hC (fun _ _ => rfl)⟩
  · rw [nq_mode, nd_it_f z, nu_mode, nd_iD_f (fun y => z y.1)] at h
    exact ⟨by decide, fun y => absurd rfl y, fun _ => h σ hC (fun _ _ => rfl)⟩
theorem m75 {Φ : Int → nw_S → Prop} (hw : nd_wf D) (hC : nm_st D σ) {x1 x2 : Int} (h1 : nw_r x1) (h2 : nw_r x2) (h : ∀ u : nw_S, nm_st (nu_weigh D x1 x2) u → (∀ k, k < 26 → u k = σ k) → Φ (nq_weigh D x1 x2) u) : nw_TI G 75 [.inl 26, .inr x1, .inr x2] σ Φ := by
  have hR := hw.2.2.2.2.1
  refine nw_TI_of (by decide) (Nat.le_of_ble_eq_true rfl) (bk75_0 (c69' hw hC.1 h1 (fun z => ?_) (fun z => ?_)))
  · rw [nq_weigh, nd_it_t z] at h
    refine ⟨by decide, fun _ => c66 h2 (by decide) (by decide) (fun q q2 => ?_) (fun q => ?_), fun y => absurd y (by decide)⟩
    · rw [nu_weigh, nd_iD_t ⟨z, q, q2⟩, if_pos ⟨q, q2⟩] at h
      obtain ⟨z1, z2⟩ := z
      refine ⟨by decide, fun _ => ⟨by omega, ?_⟩, fun y => absurd y (by decide)⟩
      rw [show σ 33 x1.toNat = nd_f D 4 x1.toNat from hC.1.2.2.2.2 4 x1.toNat (by decide) (by omega)]
      exact h _ (hC.sF (i := 4) (by decide) (by decide)) (fun k q => nu_ne (by omega))
    · rw [nu_weigh, nd_iD_f (by omega), if_neg (by omega)] at h
      exact ⟨by decide, fun y => absurd rfl y, fun _ => h σ hC (fun _ _ => rfl)⟩
  · rw [nq_weigh, nd_it_f z, nu_weigh, nd_iD_f (fun y => z y.1)] at h
    exact ⟨by decide, fun y => absurd rfl y, fun _ => h σ hC (fun _ _ => rfl)⟩
theorem c16 {Φ : Int → nw_S → Prop} (hw : nd_wf D) (hC : nc_ru D σ) (hK : ∀ s, s < 2 ^ nd_r D → σ 13 s = nd_C D s) {x1 x2 : Int} {r : Nat} (h1 : x1 = r) (hr : r < nd_r D) (h : ∀ u : nw_S, (∀ j, j ≠ 11 → j ≠ 13 → u j = σ j) → nc_ru (nd_sF D 4 r x2) u → (∀ s, s < 2 ^ nd_r D → u 13 s = nd_C (nd_sF D 4 r x2) s) → Φ (nd_f D 4 r) u) : nw_TI G 16 [.inl 6, .inr x1, .inr x2] σ Φ := by
  subst h1
  have hR := hw.2.2.2.2.1
  have e := hC.1
  have hp := nd_pw (r := nd_r D) (by omega)
  have ew : σ 11 r = nd_f D 4 r := hC.2 4 r (by decide) hr
  have hru := hC.sF (i := 4) (r := r) (v := x2) (by decide)
  have key : ∀ (w i : Nat) (τ : nw_S) (x5 : Int), i + w = 2 ^ nd_r D → x5 = i → (∀ j, j ≠ 13 → τ j = nw_up σ 11 r x2 j) → (∀ s, s < i → τ 13 s = nd_C (nd_sF D 4 r x2) s) → (∀ s, i ≤ s → s < 2 ^ nd_r D → τ 13 s = nd_C D s) → nw_V G 16 (nw_pi Φ) 23 [some (.inl 6), some (.inr (r : Int)), some (.inr x2), some (.inr (nd_f D 4 r)), some (.inr ((2 ^ nd_r D : Nat) : Int)), some (.inr x5)] [] τ := by
    intro w
    induction w with
    | zero =>
      intro i τ x5 hi h5 hj hlo hhi
      subst h5
      refine bk16_23 ⟨by omega, by omega, fun _ => h τ (fun j a b => by rw [hj j b, nu_ne a]) ⟨by rw [hj 6 (by decide)]; exact hru.1, fun i q hi hq => by rw [hj (7 + i) (by omega)]; exact hru.2 i q hi hq⟩ (fun s hs => hlo s (by omega)), fun q => by omega⟩
    | succ w ih =>
      intro i τ x5 hi h5 hj hlo hhi
      subst h5
      refine bk16_23 ⟨by omega, by omega, fun q => by omega, fun _ => ⟨nb_rand _ _, ?_⟩⟩
      rw [nb_bit (by omega) (by omega)]
      simp only [Int.toNat_natCast]
      refine ⟨fun q => ih (i + 1) _ _ (by omega) (by omega) hj (fun s hs => ?_) (fun s a b => hhi s (by omega) b), fun q => ⟨by omega, ih (i + 1) _ _ (by omega) (by omega) (fun j a => by rw [nu_ne a]; exact hj j a) (fun s hs => ?_) (fun s a b => by rw [nu_nj (by omega)]; exact hhi s (by omega) b)⟩⟩
      · by_cases y : s = i
        · subst y
          have hb : s.testBit r = false := by
            cases hb : s.testBit r with
            | false => rfl
            | true => rw [hb] at q; exact absurd rfl q
          rw [hhi s (Nat.le_refl _) (by omega), nd_sF_C4 hr, hb]
          simp
        · exact hlo s (by omega)
      · by_cases y : s = i
        · subst y
          have hb : s.testBit r = true := by
            cases hb : s.testBit r with
            | true => rfl
            | false => rw [hb] at q; exact absurd q (by decide)
          rw [nu_at, hhi s (Nat.le_refl _) (by omega), nd_sF_C4 hr, hb]
          simp
        · rw [nu_nj y]; exact hlo s (by omega)
  refine nw_TI_of (by decide) (Nat.le_of_ble_eq_true rfl) (bk16_0 ?_)
  rw [Int.toNat_natCast, ew]
  exact ⟨by omega, c14 (by rw [nu_ne (by decide)]; exact e) (by omega) (key (2 ^ nd_r D) 0 _ _ (by omega) rfl (fun _ _ => rfl) (fun s hs => by omega) (fun s _ hs => by rw [nu_ne (by decide)]; exact hK s hs))⟩
theorem c31 {Φ : Int → nw_S → Prop} (hw : nd_wf D) (hC : nc_st D σ) {x1 x2 : Int} (h1 : nw_r x1) (h2 : nw_r x2) (h : ∀ u : nw_S, nc_st (nu_weigh D x1 x2) u → (∀ k, 26 ≤ k → u k = σ k) → Φ (nq_weigh D x1 x2) u) : nw_TI G 31 [.inl 0, .inr x1, .inr x2] σ Φ := by
  have hR := hw.2.2.2.2.1
  refine nw_TI_of (by decide) (Nat.le_of_ble_eq_true rfl) (bk31_0 (c13' hw hC.1.2.1 h1 (fun z => ?_) (fun z => ?_)))
  · rw [nq_weigh, nd_it_t z] at h
    refine ⟨by decide, fun _ => c51 h2 (fun q q2 => ?_) (fun q => ?_), fun y => absurd y (by decide)⟩
    · rw [nu_weigh, nd_iD_t ⟨z, q, q2⟩, if_pos ⟨q, q2⟩] at h
      obtain ⟨z1, z2⟩ := z
      refine ⟨by decide, fun _ => c50 ?_, fun y => absurd y (by decide)⟩
      have hA : nc_al D (nw_up (nw_up σ 0 5 1) 0 11 1) := hC.1.to (fun k a b => by rw [nu_ne (by omega), nu_ne (by omega)])
      refine c16 hw hA.2.1 hA.2.2.2.1 (r := x1.toNat) (by omega) (by omega) (fun u e hru hco => h u ⟨⟨?_, hru, ?_, hco, fun p hp => ?_⟩, Or.inl ?_, Or.inl ?_⟩ (fun k q => ?_))
      · obtain ⟨a1, a2, a3, a4, a5⟩ := hA.1
        exact ⟨by rw [e 1 (by decide) (by decide)]; exact a1, by rw [e 1 (by decide) (by decide)]; exact a2, by rw [e 2 (by decide) (by decide)]; exact a3, by rw [e 3 (by decide) (by decide)]; exact a4, by rw [e 4 (by decide) (by decide)]; exact a5⟩
      · rw [e 5 (by decide) (by decide)]; exact hA.2.2.1
      · rw [e 14 (by decide) (by decide), nd_sF_B (by decide)]; exact hA.2.2.2.2 p hp
      · rw [e 0 (by decide) (by decide), nu_nj (by decide)]; exact nu_at
      · rw [e 0 (by decide) (by decide)]; exact nu_at
      · rw [e k (by omega) (by omega), nu_ne (by omega), nu_ne (by omega)]
    · rw [nu_weigh, nd_iD_f (fun y => q y.2), if_neg q] at h
      exact ⟨by decide, fun y => absurd rfl y, fun _ => h σ hC (fun _ _ => rfl)⟩
  · rw [nq_weigh, nd_it_f z, nu_weigh, nd_iD_f (fun y => z y.1)] at h
    exact ⟨by decide, fun y => absurd rfl y, fun _ => h σ hC (fun _ _ => rfl)⟩
noncomputable def nq_told (D : nd_D) (a w : Int) : Int := nd_it (nd_isR D a) (if 0 ≤ w ∧ w ≤ 5 then nd_f D w.toNat a.toNat else -1000002) (-1000001)
theorem c32 {Φ : Int → nw_S → Prop} (hw : nd_wf D) (hC : nc_st D σ) {x1 x2 : Int} (h1 : nw_r x1) (h2 : nw_r x2) (h : Φ (nq_told D x1 x2) σ) : nw_TI G 32 [.inl 0, .inr x1, .inr x2] σ Φ := by
  have hR := hw.2.2.2.2.1
  refine nw_TI_of (by decide) (Nat.le_of_ble_eq_true rfl) (bk32_0 (c13' hw hC.1.2.1 h1 (fun z => ?_) (fun z => ?_)))
  · rw [nq_told, nd_it_t z] at h
    obtain ⟨z1, z2⟩ := z
    have f := fun i hi => hC.1.2.1.2 i x1.toNat hi (by omega)
    refine ⟨by decide, fun _ => ⟨h2, fun q => ?_, fun q => ?_, fun q => ?_, fun q => ?_, fun q => ?_, fun q => ?_, fun q => ?_⟩, fun y => absurd y (by decide)⟩
    · rw [if_neg (by omega)] at h; exact h
    · subst q; exact ⟨by omega, (f 0 (by decide)).symm ▸ h⟩
    · subst q; exact ⟨by omega, (f 1 (by decide)).symm ▸ h⟩
    · subst q; exact ⟨by omega, (f 2 (by decide)).symm ▸ h⟩
    · subst q; exact ⟨by omega, (f 3 (by decide)).symm ▸ h⟩
    · subst q; exact ⟨by omega, (f 4 (by decide)).symm ▸ h⟩
    · subst q; exact ⟨by omega, (f 5 (by decide)).symm ▸ h⟩
  · rw [nq_told, nd_it_f z] at h
    exact ⟨by decide, fun y => absurd rfl y, fun _ => h⟩
theorem m76 {Φ : Int → nw_S → Prop} (hw : nd_wf D) (hC : nm_st D σ) {x1 x2 : Int} (h1 : nw_r x1) (h2 : nw_r x2) (h : Φ (nq_told D x1 x2) σ) : nw_TI G 76 [.inl 26, .inr x1, .inr x2] σ Φ := by
  have hR := hw.2.2.2.2.1
  refine nw_TI_of (by decide) (Nat.le_of_ble_eq_true rfl) (bk76_0 (c69' hw hC.1 h1 (fun z => ?_) (fun z => ?_)))
  · rw [nq_told, nd_it_t z] at h
    obtain ⟨z1, z2⟩ := z
    have f := fun i hi => hC.1.2.2.2.2 i x1.toNat hi (by omega)
    refine ⟨by decide, fun _ => ⟨h2, fun q => ?_, fun q => ?_, fun q => ?_, fun q => ?_, fun q => ?_, fun q => ?_, fun q => ?_⟩, fun y => absurd y (by decide)⟩
    · rw [if_neg (by omega)] at h; exact h
    · subst q; exact ⟨by omega, (f 0 (by decide)).symm ▸ h⟩
    · subst q; exact ⟨by omega, (f 1 (by decide)).symm ▸ h⟩
    · subst q; exact ⟨by omega, (f 2 (by decide)).symm ▸ h⟩
    · subst q; exact ⟨by omega, (f 3 (by decide)).symm ▸ h⟩
    · subst q; exact ⟨by omega, (f 4 (by decide)).symm ▸ h⟩
    · subst q; exact ⟨by omega, (f 5 (by decide)).symm ▸ h⟩
  · rw [nq_told, nd_it_f z] at h
    exact ⟨by decide, fun y => absurd rfl y, fun _ => h⟩
def nq_cost (D : nd_D) (s : Int) : Int := if 0 ≤ s ∧ s < ((2 ^ nd_r D : Nat) : Int) then nd_C D s.toNat else -1000001
theorem c46 {Φ : Int → nw_S → Prop} (hw : nd_wf D) (hC : nc_st D σ) {x1 : Int} (h1 : nw_r x1) (h : Φ (nq_cost D x1) σ) : nw_TI G 46 [.inl 0, .inr x1] σ Φ := by
  have hR := hw.2.2.2.2.1
  have hp := nd_pw (r := nd_r D) (by omega)
  have hp0 : 0 < 2 ^ nd_r D := Nat.two_pow_pos _
  refine nw_TI_of (by decide) (Nat.le_of_ble_eq_true rfl) (bk46_0 ⟨h1, fun q => ?_, fun q => c14 hC.1.2.1.1 (by omega) ⟨by omega, fun q2 => ⟨by omega, ?_⟩, fun q2 => ?_⟩⟩)
  · rw [nq_cost, if_neg (by omega)] at h; exact h
  · rw [nq_cost, if_pos ⟨q, q2⟩] at h
    rw [hC.1.2.2.2.1 x1.toNat (by omega)]
    exact h
  · rw [nq_cost, if_neg (by omega)] at h; exact h
theorem m110 {Φ : Int → nw_S → Prop} (hw : nd_wf D) (hC : nm_st D σ) {x1 : Int} (h1 : nw_r x1) (h : Φ (nq_cost D x1) σ) : nw_TI G 110 [.inl 26, .inr x1] σ Φ := by
  have hR := hw.2.2.2.2.1
  have hp := nd_pw (r := nd_r D) (by omega)
  refine nw_TI_of (by decide) (Nat.le_of_ble_eq_true rfl) (bk110_0 ⟨h1, fun q => ?_, fun q => ⟨nb_r _, ?_⟩⟩)
  · rw [nq_cost, if_neg (by omega)] at h; exact h
  · obtain ⟨s, hs⟩ : ∃ s : Nat, x1 = s := ⟨x1.toNat, by omega⟩
    subst hs
    rw [hC.1.2.1, nb_shr (by omega) (by omega)]
    have hpos : 0 < 2 ^ nd_r D := Nat.two_pow_pos _
    refine ⟨fun q2 => ?_, fun q2 => ?_⟩
    · have hlt : s < 2 ^ nd_r D := by
        have : s / 2 ^ nd_r D = 0 := by omega
        exact (Nat.div_eq_zero_iff_lt hpos).mp this
      rw [nq_cost, if_pos (by omega), Int.toNat_natCast] at h
      exact c83 hw hC.1 rfl (by omega) h
    · have hge : ¬ s < 2 ^ nd_r D := fun y => q2 (by rw [Nat.div_eq_of_lt y]; rfl)
      rw [nq_cost, if_neg (by omega)] at h; exact h
end NC13
