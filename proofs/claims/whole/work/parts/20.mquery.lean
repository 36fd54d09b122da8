section NC8
variable {G : nw_G} {σ : nw_S} {D : nd_D}
theorem nd_tp_first {S : Nat → Bool} {sc : Nat → Int} : ∀ i : Nat, (nd_tp S sc i).1 ≠ 0 → ∃ p : Nat, (nd_tp S sc i).2.2.1 = p ∧ p < i ∧ S p = true
  | 0, h => absurd rfl h
  | i + 1, h => by
    have ih := nd_tp_first (S := S) (sc := sc) i
    unfold nd_tp at h ⊢
    by_cases hS : S i = true
    · rw [if_pos hS] at h ⊢
      generalize nd_tp S sc i = t at *
      unfold nd_see at h ⊢
      split
      · exact ⟨i, rfl, by omega, hS⟩
      · rename_i q
        have q1 : t.1 ≠ 0 := fun z => q (Or.inl z)
        obtain ⟨p, a, b, c⟩ := ih q1
        split
        · exact ⟨p, a, by omega, c⟩
        · exact ⟨p, a, by omega, c⟩
    · rw [if_neg hS] at h ⊢
      obtain ⟨p, a, b, c⟩ := ih h
      exact ⟨p, a, by omega, c⟩
theorem nd_tp_pos {S : Nat → Bool} {sc : Nat → Int} (hs : ∀ p, -17000 ≤ sc p ∧ sc p ≤ 5000) : ∀ (i p : Nat), p < i → S p = true → (nd_tp S sc i).1 ≠ 0
  | 0, p, h, _ => by omega
  | i + 1, p, h, hp => by
    have h0 := (nd_tp_in (S := S) hs i).1.1
    unfold nd_tp
    by_cases hS : S i = true
    · rw [if_pos hS]
      generalize nd_tp S sc i = t at *
      have : (nd_see t i (sc i)).1 = t.1 + 1 := by
        unfold nd_see
        split
        · rfl
        · split <;> rfl
      omega
    · rw [if_neg hS]
      have : p ≠ i := fun z => hS (z ▸ hp)
      exact nd_tp_pos hs i p (by omega) hp
theorem nd_bp_iff {t : nd_T} (h : 0 ≤ t.2.2.1) : nd_bp t = -1 ↔ t.1 = 0 := by
  unfold nd_bp
  split
  · simp [*]
  · constructor
    · intro z; omega
    · intro z; contradiction
theorem nd_bp_ne {t : nd_T} (h : t.1 ≠ 0) : nd_bp t = t.2.2.1 := if_neg h
theorem nd_bp_r {t : nd_T} (h : 0 ≤ t.2.2.1 ∧ t.2.2.1 ≤ 7776) : nw_r (nd_bp t) := by
  unfold nd_bp
  split <;> omega
theorem c67' {Φ : Int → nw_S → Prop} (hw : nd_wf D) (hC : nc_mo D σ) {x1 : Int} (h1 : nw_r x1) (ht : nd_isC D x1 → Φ 1 σ) (hf : ¬ nd_isC D x1 → Φ 0 σ) : nw_TI G 67 [.inl 26, .inr x1] σ Φ :=
  c67 hw hC h1 (fun c hc a => ht ⟨by omega, by omega⟩) (fun q => hf (fun z => q x1.toNat (by have := z.1; omega) (by have := z.1; have := z.2; omega)))
theorem c69' {Φ : Int → nw_S → Prop} (hw : nd_wf D) (hC : nc_mo D σ) {x1 : Int} (h1 : nw_r x1) (ht : nd_isR D x1 → Φ 1 σ) (hf : ¬ nd_isR D x1 → Φ 0 σ) : nw_TI G 69 [.inl 26, .inr x1] σ Φ :=
  c69 hw hC h1 (fun c hc a => ht ⟨by omega, by omega⟩) (fun q => hf (fun z => q x1.toNat (by have := z.1; omega) (by have := z.1; have := z.2; omega)))
theorem c68' {Φ : Int → nw_S → Prop} (hw : nd_wf D) (hC : nc_mo D σ) {x1 x2 : Int} (h1 : nw_r x1) (h2 : nw_r x2) (ht : nd_isK D x1 x2 → Φ 1 σ) (hf : ¬ nd_isK D x1 x2 → Φ 0 σ) : nw_TI G 68 [.inl 26, .inr x1, .inr x2] σ Φ := by
  refine c68 hw hC h1 h2 (fun c k hc hk a b => ht ?_) (fun q => hf (fun z => ?_))
  · subst hc
    subst hk
    refine ⟨⟨by omega, by omega⟩, by omega, ?_⟩
    rw [Int.toNat_natCast]
    omega
  · obtain ⟨⟨z1, z2⟩, z3, z4⟩ := z
    exact q x1.toNat x2.toNat (by omega) (by omega) (by omega) (by omega)
theorem c87' {Φ : Int → nw_S → Prop} (hw : nd_wf D) (hC : nm_st D σ) {x1 x2 x3 x4 x5 : Int} {how : Nat} (h1 : x1 = nd_M D 1) (h2 : x2 = nd_M D 2) (z : nd_isK D x3 x4) (h5 : x5 = how) (hhow : how ≤ 2) (h : ∀ u : nw_S, nm_st D u → (∀ k, k < 26 → u k = σ k) → ((nd_tc D x3 x4 how).1 ≠ 0 → u 26 14 = (nd_tc D x3 x4 how).2.1) → Φ (nd_bp (nd_tc D x3 x4 how)) u) : nw_TI G 87 [.inl 26, .inr x1, .inr x2, .inr x3, .inr x4, .inr x5] σ Φ := by
  obtain ⟨⟨z1, z2⟩, z3, z4⟩ := z
  have hm := hw.2.1 x3.toNat (by omega)
  exact c87 hw hC h1 h2 (c := x3.toNat) (k := x4.toNat) (by omega) (by omega) h5 (nd_M_lt hw 1).2 (nd_M_lt hw 2).2 hhow (fun _ => by omega) (by omega) (fun u a b c d => h u ⟨a, Or.inr b⟩ c d)
theorem m98 {Φ : Int → nw_S → Prop} (hw : nd_wf D) (hC : nm_st D σ) (h : ∀ u : nw_S, nm_st D u → (∀ k, k < 26 → u k = σ k) → Φ (nq_best D) u) : nw_TI G 98 [.inl 26] σ Φ := by
  have hb := nd_tq_in hw (nd_M D 1) (nd_M D 2) 0 0 0
  refine nw_TI_of (by decide) (Nat.le_of_ble_eq_true rfl) (bk98_0 (c88 hw hC (fun u hM hF hj hg => ?_)))
  have hi := nd_bp_iff (t := nd_tw D) hb.2.2.1.1
  refine ⟨nd_bp_r ⟨hb.2.2.1.1, hb.2.2.1.2.2⟩, fun q => ?_, fun q => ?_⟩
  · have q0 : (nd_tw D).1 ≠ 0 := fun z => q (hi.mpr z)
    rw [hg q0]
    rw [nq_best, nd_it_f q0] at h
    exact h u ⟨hM, Or.inr hF⟩ hj
  · rw [nq_best, nd_it_t (hi.mp q)] at h
    exact h u ⟨hM, Or.inr hF⟩ hj
theorem nm_st.x (hC : nm_st D σ) {u : nw_S} (e : ∀ k, k ≠ 37 → u k = σ k) : nm_st D u := by
  have e26 := e 26 (by decide)
  refine ⟨hC.1.to (fun k _ _ _ => e k (by omega)) (by rw [e26]) (by rw [e26]), ?_⟩
  rcases hC.2 with q | q
  · exact Or.inl (by rw [e26]; exact q)
  · exact Or.inr ⟨by rw [e26]; exact q.1, by rw [e 35 (by decide)]; exact q.2⟩
theorem m99 {Φ : Int → nw_S → Prop} (hw : nd_wf D) (hC : nm_st D σ) {x1 : Int} (h1 : nw_r x1) (h : ∀ u : nw_S, nm_st D u → (∀ k, k < 26 → u k = σ k) → Φ (nq_pick D x1) u) : nw_TI G 99 [.inl 26, .inr x1] σ Φ := by
  have hP := nd_P_le hw
  have hb := nd_tq_in hw (nd_M D 1) (nd_M D 2) 0 0 0
  have hi := nd_bp_iff (t := nd_tw D) hb.2.2.1.1
  refine nw_TI_of (by decide) (Nat.le_of_ble_eq_true rfl) (bk99_0 (c67' hw hC.1 h1 (fun z => ?_) (fun z => ?_)))
  · rw [nq_pick, nd_it_t z] at h
    obtain ⟨z1, z2⟩ := z
    refine ⟨by decide, fun _ => c88 hw hC (fun u hM hF hj hg => ⟨nd_bp_r ⟨hb.2.2.1.1, hb.2.2.1.2.2⟩, fun q => ?_, fun q => ?_⟩), fun q => absurd q (by decide)⟩
    · have q0 : (nd_tw D).1 ≠ 0 := fun z => q (hi.mpr z)
      rw [nd_it_f q0] at h
      rw [nd_bp_ne q0]
      have hlt := hb.2.2.1.2.1 q0
      have hlt : (nd_tw D).2.2.1 < nd_P D := hlt
      have hge : 0 ≤ (nd_tw D).2.2.1 := hb.2.2.1.1
      exact c84 hw hM (p := (nd_tw D).2.2.1.toNat) (c := x1.toNat) (by omega) (by omega) (by omega) (by omega) (fun u2 hu2 => h u2 (nm_st.x ⟨hM, Or.inr hF⟩ hu2) (fun k q => by rw [hu2 k (by omega)]; exact hj k q))
    · rw [nd_it_t (hi.mp q)] at h
      exact h u ⟨hM, Or.inr hF⟩ hj
  · rw [nq_pick, nd_it_f z] at h
    exact ⟨by decide, fun q => absurd rfl q, fun _ => h σ hC (fun _ _ => rfl)⟩
theorem m101 {Φ : Int → nw_S → Prop} (hw : nd_wf D) (hC : nm_st D σ) {x1 x2 : Int} (h1 : nw_r x1) (h2 : nw_r x2) (h : ∀ u : nw_S, nm_st D u → (∀ k, k < 26 → u k = σ k) → Φ (nq_force D x1 x2 1) u) : nw_TI G 101 [.inl 26, .inr x1, .inr x2] σ Φ := by
  have hb := nd_tc_in hw x1 x2 1
  have hi := nd_bp_iff (t := nd_tc D x1 x2 1) hb.2.2.1.1
  refine nw_TI_of (by decide) (Nat.le_of_ble_eq_true rfl) (bk101_0 (c68' hw hC.1 h1 h2 (fun z => ?_) (fun z => ?_)))
  · rw [nq_force, nd_it_t z] at h
    refine ⟨by decide, fun _ => c82 hw hC.1 (by decide) (c82 hw hC.1 (by decide) (c87' hw hC rfl rfl z (how := 1) rfl (by decide) (fun u hu hj hg => ⟨nd_bp_r ⟨hb.2.2.1.1, hb.2.2.1.2.2⟩, fun q => ?_, fun q => ?_⟩))), fun q => absurd q (by decide)⟩
    · have q0 : (nd_tc D x1 x2 1).1 ≠ 0 := fun z => q (hi.mpr z)
      rw [nd_it_f q0] at h
      rw [hg q0]
      exact h u hu hj
    · rw [nd_it_t (hi.mp q)] at h
      exact h u hu hj
  · rw [nq_force, nd_it_f z] at h
    exact ⟨by decide, fun q => absurd rfl q, fun _ => h σ hC (fun _ _ => rfl)⟩
theorem m103 {Φ : Int → nw_S → Prop} (hw : nd_wf D) (hC : nm_st D σ) {x1 x2 : Int} (h1 : nw_r x1) (h2 : nw_r x2) (h : ∀ u : nw_S, nm_st D u → (∀ k, k < 26 → u k = σ k) → Φ (nq_force D x1 x2 2) u) : nw_TI G 103 [.inl 26, .inr x1, .inr x2] σ Φ := by
  have hb := nd_tc_in hw x1 x2 2
  have hi := nd_bp_iff (t := nd_tc D x1 x2 2) hb.2.2.1.1
  refine nw_TI_of (by decide) (Nat.le_of_ble_eq_true rfl) (bk103_0 (c68' hw hC.1 h1 h2 (fun z => ?_) (fun z => ?_)))
  · rw [nq_force, nd_it_t z] at h
    refine ⟨by decide, fun _ => c82 hw hC.1 (by decide) (c82 hw hC.1 (by decide) (c87' hw hC rfl rfl z (how := 2) rfl (by decide) (fun u hu hj hg => ⟨nd_bp_r ⟨hb.2.2.1.1, hb.2.2.1.2.2⟩, fun q => ?_, fun q => ?_⟩))), fun q => absurd q (by decide)⟩
    · have q0 : (nd_tc D x1 x2 2).1 ≠ 0 := fun z => q (hi.mpr z)
      rw [nd_it_f q0] at h
      rw [hg q0]
      exact h u hu hj
    · rw [nd_it_t (hi.mp q)] at h
      exact h u hu hj
  · rw [nq_force, nd_it_f z] at h
    exact ⟨by decide, fun q => absurd rfl q, fun _ => h σ hC (fun _ _ => rfl)⟩
theorem m102 {Φ : Int → nw_S → Prop} (hw : nd_wf D) (hC : nm_st D σ) {x1 x2 x3 : Int} (h1 : nw_r x1) (h2 : nw_r x2) (h3 : nw_r x3) (h : ∀ u : nw_S, nm_st D u → (∀ k, k < 26 → u k = σ k) → Φ (nq_forced D x1 x2 x3) u) : nw_TI G 102 [.inl 26, .inr x1, .inr x2, .inr x3] σ Φ := by
  have hP := nd_P_le hw
  have hb := nd_tc_in hw x1 x2 1
  have hi := nd_bp_iff (t := nd_tc D x1 x2 1) hb.2.2.1.1
  refine nw_TI_of (by decide) (Nat.le_of_ble_eq_true rfl) (bk102_0 (c68' hw hC.1 h1 h2 (fun z => ?_) (fun z => ?_)))
  · refine ⟨by decide, fun q => absurd q (by decide), fun _ => c67' hw hC.1 h3 (fun z3 => ?_) (fun z3 => ?_)⟩
    · rw [nq_forced, nd_it_t ⟨z, z3⟩] at h
      refine ⟨by decide, fun _ => c82 hw hC.1 (by decide) (c82 hw hC.1 (by decide) (c87' hw hC rfl rfl z (how := 1) rfl (by decide) (fun u hu hj hg => ⟨nd_bp_r ⟨hb.2.2.1.1, hb.2.2.1.2.2⟩, fun q => ?_, fun q => ?_⟩))), fun q => absurd q (by decide)⟩
      · have q0 : (nd_tc D x1 x2 1).1 ≠ 0 := fun z => q (hi.mpr z)
        rw [nd_it_f q0] at h
        rw [nd_bp_ne q0]
        have hlt := hb.2.2.1.2.1 q0
        obtain ⟨z31, z32⟩ := z3
        exact c84 hw hu.1 (p := (nd_tc D x1 x2 1).2.2.1.toNat) (c := x3.toNat) (by omega) (by omega) (by omega) (by omega) (fun u2 hu2 => h u2 (hu.x hu2) (fun k q => by rw [hu2 k (by omega)]; exact hj k q))
      · rw [nd_it_t (hi.mp q)] at h
        exact h u hu hj
    · rw [nq_forced, nd_it_f (fun y => z3 y.2)] at h
      exact ⟨by decide, fun q => absurd rfl q, fun _ => h σ hC (fun _ _ => rfl)⟩
  · rw [nq_forced, nd_it_f (fun y => z y.1)] at h
    exact ⟨by decide, fun _ => h σ hC (fun _ _ => rfl), fun q => absurd rfl q⟩
/-- a plan with the candidate isn't one without it -/
theorem nd_tc_ne {a k : Int} (h1 : (nd_tc D a k 1).1 ≠ 0) (h2 : (nd_tc D a k 2).1 ≠ 0) : (nd_tc D a k 1).2.2.1 ≠ (nd_tc D a k 2).2.2.1 := by
  obtain ⟨p, e1, -, s1⟩ := nd_tp_first _ h1
  obtain ⟨q, e2, -, s2⟩ := nd_tp_first _ h2
  intro e
  have : p = q := by
    have e1 : (nd_tc D a k 1).2.2.1 = p := e1
    have e2 : (nd_tc D a k 2).2.2.1 = q := e2
    omega
  subst this
  simp [nd_Se] at s1 s2
  exact s2.2 s1.2
theorem m104 {Φ : Int → nw_S → Prop} (hw : nd_wf D) (hC : nm_st D σ) {x1 x2 : Int} (h1 : nw_r x1) (h2 : nw_r x2) (h : ∀ u : nw_S, nm_st D u → (∀ k, k < 26 → u k = σ k) → Φ (nq_raise D x1 x2 1 2) u) : nw_TI G 104 [.inl 26, .inr x1, .inr x2] σ Φ := by
  have hb := nd_tc_in hw x1 x2 1
  have hi := nd_bp_iff (t := nd_tc D x1 x2 1) hb.2.2.1.1
  have hb2 := nd_tc_in hw x1 x2 2
  have hi2 := nd_bp_iff (t := nd_tc D x1 x2 2) hb2.2.2.1.1
  refine nw_TI_of (by decide) (Nat.le_of_ble_eq_true rfl) (bk104_0 (c68' hw hC.1 h1 h2 (fun z => ?_) (fun z => ?_)))
  · rw [nq_raise, nd_it_t z] at h
    refine ⟨by decide, fun _ => c82 hw hC.1 (by decide) (c82 hw hC.1 (by decide) (c87' hw hC rfl rfl z (how := 1) rfl (by decide) (fun u hu hj hg => c82 hw hu.1 (by decide) (c82 hw hu.1 (by decide) (c87' hw hu rfl rfl z (how := 2) rfl (by decide) (fun u2 hu2 hj2 hg2 => ?_)))))), fun q => absurd q (by decide)⟩
    have hj2 : ∀ k, k < 26 → u2 k = σ k := fun k q => by rw [hj2 k q]; exact hj k q
    refine ⟨nd_bp_r ⟨hb.2.2.1.1, hb.2.2.1.2.2⟩, fun q => ⟨nd_bp_r ⟨hb2.2.2.1.1, hb2.2.2.1.2.2⟩, fun q2 => ?_, fun q2 => ?_⟩, fun q => ?_⟩
    · have q0 : (nd_tc D x1 x2 1).1 ≠ 0 := fun z => q (hi.mpr z)
      have q1 : (nd_tc D x1 x2 2).1 ≠ 0 := fun z => q2 (hi2.mpr z)
      rw [nd_it_f q0, nd_lack, nd_it_f q1] at h
      rw [hg q0, hg2 q1, nd_bp_ne q0, nd_bp_ne q1]
      have hne := nd_tc_ne q0 q1
      generalize nd_tc D x1 x2 1 = t at *
      generalize nd_tc D x1 x2 2 = o at *
      have key : ∀ (w : Nat) (x7 L : Int), L = nd_it (t.2.2.1 < o.2.2.1) (if o.2.1 - t.2.1 < 0 then 0 else o.2.1 - t.2.1) (if o.2.1 - t.2.1 + 1 < 0 then 0 else o.2.1 - t.2.1 + 1) → 0 ≤ x7 → x7 + w = L → nw_V G 104 (nw_pi Φ) 80 [some (.inl 26), some (.inr x1), some (.inr x2), some (.inr t.2.2.1), some (.inr t.2.1), some (.inr o.2.2.1), some (.inr o.2.1), some (.inr x7)] [] u2 := by
        intro w
        induction w with
        | zero =>
          intro x7 L hL h7 hw2
          have hΦ := h u2 hu2 hj2
          rw [← hL] at hΦ
          have hx : x7 = L := by omega
          subst hx
          by_cases hlt : t.2.2.1 < o.2.2.1
          · rw [nd_it_t hlt] at hL
            split at hL
            · exact bk104_80 ⟨by omega, by omega, fun a => by omega, fun a => ⟨fun b => hΦ, fun b => ⟨by omega, by omega, fun c => hΦ, fun c => by omega⟩⟩⟩
            · exact bk104_80 ⟨by omega, by omega, fun a => by omega, fun a => ⟨fun b => hΦ, fun b => ⟨by omega, by omega, fun c => hΦ, fun c => by omega⟩⟩⟩
          · rw [nd_it_f hlt] at hL
            split at hL
            · exact bk104_80 ⟨by omega, by omega, fun a => by omega, fun a => ⟨fun b => hΦ, fun b => ⟨by omega, by omega, fun c => hΦ, fun c => by omega⟩⟩⟩
            · exact bk104_80 ⟨by omega, by omega, fun a => by omega, fun a => ⟨fun b => hΦ, fun b => ⟨by omega, by omega, fun c => hΦ, fun c => by omega⟩⟩⟩
        | succ w ih =>
          intro x7 L hL h7 hw2
          have nx := ih (x7 + 1) L hL (by omega) (by omega)
          by_cases hlt : t.2.2.1 < o.2.2.1
          · rw [nd_it_t hlt] at hL
            split at hL
            · exact bk104_80 ⟨by omega, by omega, fun a => nx, fun a => ⟨fun b => by omega, fun b => ⟨by omega, by omega, fun c => by omega, fun c => nx⟩⟩⟩
            · exact bk104_80 ⟨by omega, by omega, fun a => nx, fun a => ⟨fun b => by omega, fun b => ⟨by omega, by omega, fun c => by omega, fun c => nx⟩⟩⟩
          · rw [nd_it_f hlt] at hL
            split at hL
            · exact bk104_80 ⟨by omega, by omega, fun a => nx, fun a => ⟨fun b => by omega, fun b => ⟨by omega, by omega, fun c => by omega, fun c => nx⟩⟩⟩
            · exact bk104_80 ⟨by omega, by omega, fun a => nx, fun a => ⟨fun b => by omega, fun b => ⟨by omega, by omega, fun c => by omega, fun c => nx⟩⟩⟩
      have hL0 : 0 ≤ nd_it (t.2.2.1 < o.2.2.1) (if o.2.1 - t.2.1 < 0 then 0 else o.2.1 - t.2.1) (if o.2.1 - t.2.1 + 1 < 0 then 0 else o.2.1 - t.2.1 + 1) := by
        by_cases hlt : t.2.2.1 < o.2.2.1
        · rw [nd_it_t hlt]; split <;> omega
        · rw [nd_it_f hlt]; split <;> omega
      exact key (Int.toNat _) 0 _ rfl (by omega) (by rw [Int.toNat_of_nonneg hL0, Int.zero_add])
    · have q0 : (nd_tc D x1 x2 1).1 ≠ 0 := fun z => q (hi.mpr z)
      rw [nd_it_f q0, nd_lack, nd_it_t (hi2.mp q2)] at h
      exact h u2 hu2 hj2
    · rw [nd_it_t (hi.mp q)] at h
      exact h u2 hu2 hj2
  · rw [nq_raise, nd_it_f z] at h
    exact ⟨by decide, fun q => absurd rfl q, fun _ => h σ hC (fun _ _ => rfl)⟩
theorem m105 {Φ : Int → nw_S → Prop} (hw : nd_wf D) (hC : nm_st D σ) {x1 x2 : Int} (h1 : nw_r x1) (h2 : nw_r x2) (h : ∀ u : nw_S, nm_st D u → (∀ k, k < 26 → u k = σ k) → Φ (nq_raise D x1 x2 2 1) u) : nw_TI G 105 [.inl 26, .inr x1, .inr x2] σ Φ := by
  have hb := nd_tc_in hw x1 x2 1
  have hi := nd_bp_iff (t := nd_tc D x1 x2 1) hb.2.2.1.1
  have hb2 := nd_tc_in hw x1 x2 2
  have hi2 := nd_bp_iff (t := nd_tc D x1 x2 2) hb2.2.2.1.1
  refine nw_TI_of (by decide) (Nat.le_of_ble_eq_true rfl) (bk105_0 (c68' hw hC.1 h1 h2 (fun z => ?_) (fun z => ?_)))
  · rw [nq_raise, nd_it_t z] at h
    refine ⟨by decide, fun _ => c82 hw hC.1 (by decide) (c82 hw hC.1 (by decide) (c87' hw hC rfl rfl z (how := 1) rfl (by decide) (fun u hu hj hg => c82 hw hu.1 (by decide) (c82 hw hu.1 (by decide) (c87' hw hu rfl rfl z (how := 2) rfl (by decide) (fun u2 hu2 hj2 hg2 => ?_)))))), fun q => absurd q (by decide)⟩
    have hj2 : ∀ k, k < 26 → u2 k = σ k := fun k q => by rw [hj2 k q]; exact hj k q
    refine ⟨nd_bp_r ⟨hb2.2.2.1.1, hb2.2.2.1.2.2⟩, fun q2 => ⟨nd_bp_r ⟨hb.2.2.1.1, hb.2.2.1.2.2⟩, fun q => ?_, fun q => ?_⟩, fun q2 => ?_⟩
    · have q0 : (nd_tc D x1 x2 1).1 ≠ 0 := fun z => q (hi.mpr z)
      have q1 : (nd_tc D x1 x2 2).1 ≠ 0 := fun z => q2 (hi2.mpr z)
      rw [nd_it_f q1, nd_lack, nd_it_f q0] at h
      rw [hg q0, hg2 q1, nd_bp_ne q0, nd_bp_ne q1]
      have hne := nd_tc_ne q0 q1
      generalize nd_tc D x1 x2 1 = o at *
      generalize nd_tc D x1 x2 2 = t at *
      have key : ∀ (w : Nat) (x7 L : Int), L = nd_it (t.2.2.1 < o.2.2.1) (if o.2.1 - t.2.1 < 0 then 0 else o.2.1 - t.2.1) (if o.2.1 - t.2.1 + 1 < 0 then 0 else o.2.1 - t.2.1 + 1) → 0 ≤ x7 → x7 + w = L → nw_V G 105 (nw_pi Φ) 80 [some (.inl 26), some (.inr x1), some (.inr x2), some (.inr o.2.2.1), some (.inr o.2.1), some (.inr t.2.2.1), some (.inr t.2.1), some (.inr x7)] [] u2 := by
        intro w
        induction w with
        | zero =>
          intro x7 L hL h7 hw2
          have hΦ := h u2 hu2 hj2
          rw [← hL] at hΦ
          have hx : x7 = L := by omega
          subst hx
          by_cases hlt : t.2.2.1 < o.2.2.1
          · rw [nd_it_t hlt] at hL
            split at hL
            · exact bk105_80 ⟨by omega, by omega, fun a => by omega, fun a => ⟨fun b => hΦ, fun b => ⟨by omega, by omega, fun c => hΦ, fun c => by omega⟩⟩⟩
            · exact bk105_80 ⟨by omega, by omega, fun a => by omega, fun a => ⟨fun b => hΦ, fun b => ⟨by omega, by omega, fun c => hΦ, fun c => by omega⟩⟩⟩
          · rw [nd_it_f hlt] at hL
            split at hL
            · exact bk105_80 ⟨by omega, by omega, fun a => by omega, fun a => ⟨fun b => hΦ, fun b => ⟨by omega, by omega, fun c => hΦ, fun c => by omega⟩⟩⟩
            · exact bk105_80 ⟨by omega, by omega, fun a => by omega, fun a => ⟨fun b => hΦ, fun b => ⟨by omega, by omega, fun c => hΦ, fun c => by omega⟩⟩⟩
        | succ w ih =>
          intro x7 L hL h7 hw2
          have nx := ih (x7 + 1) L hL (by omega) (by omega)
          by_cases hlt : t.2.2.1 < o.2.2.1
          · rw [nd_it_t hlt] at hL
            split at hL
            · exact bk105_80 ⟨by omega, by omega, fun a => nx, fun a => ⟨fun b => by omega, fun b => ⟨by omega, by omega, fun c => by omega, fun c => nx⟩⟩⟩
            · exact bk105_80 ⟨by omega, by omega, fun a => nx, fun a => ⟨fun b => by omega, fun b => ⟨by omega, by omega, fun c => by omega, fun c => nx⟩⟩⟩
          · rw [nd_it_f hlt] at hL
            split at hL
            · exact bk105_80 ⟨by omega, by omega, fun a => nx, fun a => ⟨fun b => by omega, fun b => ⟨by omega, by omega, fun c => by omega, fun c => nx⟩⟩⟩
            · exact bk105_80 ⟨by omega, by omega, fun a => nx, fun a => ⟨fun b => by omega, fun b => ⟨by omega, by omega, fun c => by omega, fun c => nx⟩⟩⟩
      have hL0 : 0 ≤ nd_it (t.2.2.1 < o.2.2.1) (if o.2.1 - t.2.1 < 0 then 0 else o.2.1 - t.2.1) (if o.2.1 - t.2.1 + 1 < 0 then 0 else o.2.1 - t.2.1 + 1) := by
        by_cases hlt : t.2.2.1 < o.2.2.1
        · rw [nd_it_t hlt]; split <;> omega
        · rw [nd_it_f hlt]; split <;> omega
      exact key (Int.toNat _) 0 _ rfl (by omega) (by rw [Int.toNat_of_nonneg hL0, Int.zero_add])
    · have q1 : (nd_tc D x1 x2 2).1 ≠ 0 := fun z => q2 (hi2.mpr z)
      rw [nd_it_f q1, nd_lack, nd_it_t (hi.mp q)] at h
      exact h u2 hu2 hj2
    · rw [nd_it_t (hi2.mp q2)] at h
      exact h u2 hu2 hj2
  · rw [nq_raise, nd_it_f z] at h
    exact ⟨by decide, fun q => absurd rfl q, fun _ => h σ hC (fun _ _ => rfl)⟩
end NC8
