section NC5
variable {G : nw_G} {σ : nw_S} {D : nd_D}
def nd_bp (t : nd_T) : Int := if t.1 = 0 then -1 else t.2.2.1
set_option maxHeartbeats 2000000 in
theorem c87 {Φ : Int → nw_S → Prop} (hw : nd_wf D) (hC : nm_st D σ) {x1 x2 x3 x4 x5 : Int} {hd s c k how : Nat} (h1 : x1 = hd) (h2 : x2 = s) (h3 : x3 = c) (h4 : x4 = k) (h5 : x5 = how) (hh : hd < 4096) (hs : s < 4096) (hhow : how ≤ 2) (hc : how ≠ 0 → c < nd_n D) (hk : k < 6) (h : ∀ u : nw_S, nc_mo D u → nm_fr D u → (∀ k, k < 26 → u k = σ k) → ((nd_tq D hd s c k how).1 ≠ 0 → u 26 14 = (nd_tq D hd s c k how).2.1) → Φ (nd_bp (nd_tq D hd s c k how)) u) : nw_TI G 87 [.inl 26, .inr x1, .inr x2, .inr x3, .inr x4, .inr x5] σ Φ := by
  subst h1
  subst h2
  subst h3
  subst h4
  subst h5
  have hP := nd_P_le hw
  have key : ∀ (q i : Nat) (τ : nw_S) (x6 x8 : Int), i + q = nd_P D → x8 = i → nc_mo D τ → nm_fr D τ → (∀ k, k < 26 → τ k = σ k) → x6 = nd_bp (nd_tp (nd_Se D hd c k how) (nd_sc D s) i) → ((nd_tp (nd_Se D hd c k how) (nd_sc D s) i).1 ≠ 0 → τ 26 14 = (nd_tp (nd_Se D hd c k how) (nd_sc D s) i).2.1) → nw_V G 87 (nw_pi Φ) 16 [some (.inl 26), some (.inr (hd : Int)), some (.inr (s : Int)), some (.inr (c : Int)), some (.inr (k : Int)), some (.inr (how : Int)), some (.inr x6), some (.inr (nd_P D : Int)), some (.inr x8), none, none] [] τ := by
    intro q
    induction q with
    | zero =>
      intro i τ x6 x8 hi h8 hM hF hj h6 hg
      subst h8
      have hi : i = nd_P D := by omega
      subst hi
      subst h6
      exact bk87_16 ⟨by omega, by omega, fun _ => h τ hM hF hj hg, fun q => by omega⟩
    | succ q ih =>
      intro i τ x6 x8 hi h8 hM hF hj h6 hg
      subst h8
      subst h6
      have hB := nd_B_lt hw i
      have eB := hF.2 i (by omega)
      have hsc := nd_sc_le hw s i
      have htp := nd_tp_in (S := nd_Se D hd c k how) (nd_sc_le hw s) i
      -- a plan that doesn't count
      have skip : ∀ u : nw_S, (∀ k, k ≠ 37 → u k = τ k) → nd_Se D hd c k how i = false → nw_V G 87 (nw_pi Φ) 16 [some (.inl 26), some (.inr (hd : Int)), some (.inr (s : Int)), some (.inr (c : Int)), some (.inr (k : Int)), some (.inr (how : Int)), some (.inr (nd_bp (nd_tp (nd_Se D hd c k how) (nd_sc D s) i))), some (.inr (nd_P D : Int)), some (.inr ((i : Int) + 1)), none, none] [] u := by
        intro u hu hS
        have e26 := hu 26 (by decide)
        refine ih (i + 1) u _ _ (by omega) (by omega) (hM.to (fun k _ _ _ => hu k (by omega)) (by rw [e26]) (by rw [e26])) ⟨by rw [e26]; exact hF.1, by rw [hu 35 (by decide)]; exact hF.2⟩ (fun k q => by rw [hu k (by omega)]; exact hj k q) ?_ ?_
        · simp [nd_tp, hS]
        · simp [nd_tp, hS]
          rw [e26]
          exact hg
      -- one that does
      have step : ∀ u : nw_S, (∀ k, k ≠ 37 → u k = τ k) → nd_Se D hd c k how i = true → (nw_r (nd_bp (nd_tp (nd_Se D hd c k how) (nd_sc D s) i))) ∧ ((nd_bp (nd_tp (nd_Se D hd c k how) (nd_sc D s) i) = (-1) → nw_V G 87 (nw_pi Φ) 16 [some (.inl 26), some (.inr (hd : Int)), some (.inr (s : Int)), some (.inr (c : Int)), some (.inr (k : Int)), some (.inr (how : Int)), some (.inr (i : Int)), some (.inr (nd_P D : Int)), some (.inr ((i : Int) + 1)), none, none] [] (nw_up u 26 14 (nd_sc D s i))) ∧ (nd_bp (nd_tp (nd_Se D hd c k how) (nd_sc D s) i) ≠ (-1) → (nw_r (nd_sc D s i)) ∧ ((nw_r (u 26 14)) ∧ ((nd_sc D s i ≤ (u 26 14) → nw_V G 87 (nw_pi Φ) 16 [some (.inl 26), some (.inr (hd : Int)), some (.inr (s : Int)), some (.inr (c : Int)), some (.inr (k : Int)), some (.inr (how : Int)), some (.inr (nd_bp (nd_tp (nd_Se D hd c k how) (nd_sc D s) i))), some (.inr (nd_P D : Int)), some (.inr ((i : Int) + 1)), none, none] [] u) ∧ ((u 26 14) < nd_sc D s i → nw_V G 87 (nw_pi Φ) 16 [some (.inl 26), some (.inr (hd : Int)), some (.inr (s : Int)), some (.inr (c : Int)), some (.inr (k : Int)), some (.inr (how : Int)), some (.inr (i : Int)), some (.inr (nd_P D : Int)), some (.inr ((i : Int) + 1)), none, none] [] (nw_up u 26 14 (nd_sc D s i))))))) := by
        intro u hu hS
        have e26 := hu 26 (by decide)
        have hMu : nc_mo D u := hM.to (fun k _ _ _ => hu k (by omega)) (by rw [e26]) (by rw [e26])
        have hFu : nm_fr D u := ⟨by rw [e26]; exact hF.1, by rw [hu 35 (by decide)]; exact hF.2⟩
        have hju : ∀ k, k < 26 → u k = σ k := fun k q => by rw [hu k (by omega)]; exact hj k q
        have hM2 : nc_mo D (nw_up u 26 14 (nd_sc D s i)) := hMu.to (fun k _ _ z => nu_ne z) (nu_nj (by decide)) (nu_nj (by decide))
        have hF2 : nm_fr D (nw_up u 26 14 (nd_sc D s i)) := ⟨by rw [nu_nj (by decide)]; exact hFu.1, by rw [nu_ne (by decide)]; exact hFu.2⟩
        have hj2 : ∀ k, k < 26 → nw_up u 26 14 (nd_sc D s i) k = σ k := fun k q => by rw [nu_ne (by omega)]; exact hju k q
        have hnext : nd_tp (nd_Se D hd c k how) (nd_sc D s) (i + 1) = nd_see (nd_tp (nd_Se D hd c k how) (nd_sc D s) i) i (nd_sc D s i) := by simp [nd_tp, hS]
        have ih' := ih (i + 1)
        rw [hnext] at ih'
        rw [e26]
        generalize nd_tp (nd_Se D hd c k how) (nd_sc D s) i = t at *
        have hbp : nd_bp t = -1 ↔ t.1 = 0 := by
          unfold nd_bp
          split
          · simp [*]
          · constructor
            · intro z; omega
            · intro z; contradiction
        have hbr : nw_r (nd_bp t) := by
          unfold nd_bp
          split <;> omega
        refine ⟨hbr, fun q1 => ?_, fun q1 => ⟨by omega, ?_, fun q2 => ?_, fun q2 => ?_⟩⟩
        · have q1 := hbp.mp q1
          have hsee : nd_see t i (nd_sc D s i) = (t.1 + 1, nd_sc D s i, (i : Int), 1) := by unfold nd_see; rw [if_pos (Or.inl q1)]
          rw [hsee] at ih'
          refine ih' _ _ _ (by omega) (by omega) hM2 hF2 hj2 ?_ (fun _ => nu_at)
          unfold nd_bp
          rw [if_neg (by dsimp only; omega)]
        · rw [hg (fun z => q1 (hbp.mpr z))]; omega
        · have q0 : t.1 ≠ 0 := fun z => q1 (hbp.mpr z)
          rw [hg q0] at q2
          have hb2 : nd_bp (nd_see t i (nd_sc D s i)) = nd_bp t ∧ (nd_see t i (nd_sc D s i)).2.1 = t.2.1 := by
            unfold nd_see
            rw [if_neg (fun z => by omega)]
            split
            · refine ⟨?_, rfl⟩
              unfold nd_bp
              rw [if_neg (by dsimp only; omega), if_neg q0]
            · refine ⟨?_, rfl⟩
              unfold nd_bp
              rw [if_neg (by dsimp only; omega), if_neg q0]
          refine ih' _ _ _ (by omega) (by omega) hMu hFu hju hb2.1.symm (fun _ => ?_)
          rw [hb2.2, e26, hg q0]
        · have q0 : t.1 ≠ 0 := fun z => q1 (hbp.mpr z)
          rw [hg q0] at q2
          have hsee : nd_see t i (nd_sc D s i) = (t.1 + 1, nd_sc D s i, (i : Int), 1) := by unfold nd_see; rw [if_pos (Or.inr q2)]
          rw [hsee] at ih'
          refine ih' _ _ _ (by omega) (by omega) hM2 hF2 hj2 ?_ (fun _ => nu_at)
          unfold nd_bp
          rw [if_neg (by dsimp only; omega)]
      refine bk87_16 ⟨by omega, by omega, fun q => by omega, fun _ => ⟨by omega, nb_rand _ _, ?_⟩⟩
      simp only [Int.toNat_natCast]
      rw [eB, nb_and (by omega) (by omega)]
      refine ⟨fun q => skip τ (fun _ _ => rfl) (by simp [nd_Se]; intro z; omega), fun q => ⟨by omega, fun q5 => ?_, fun q5 => ?_⟩⟩
      · exact c86 hw hM hF rfl rfl (by omega) hs (fun u hu => step u hu (by simp [nd_Se]; omega))
      · refine c84 hw hM rfl rfl (by omega) (hc (by omega)) (fun u hu => ?_)
        have hx := nd_x_lt hw (p := i) (hc (by omega))
        have e26 := hu 26 (by decide)
        have hMu : nc_mo D u := hM.to (fun k _ _ _ => hu k (by omega)) (by rw [e26]) (by rw [e26])
        have hFu : nm_fr D u := ⟨by rw [e26]; exact hF.1, by rw [hu 35 (by decide)]; exact hF.2⟩
        refine ⟨by omega, by omega, fun q6 => ⟨fun q7 => ?_, fun q7 => skip u hu (by simp [nd_Se]; omega)⟩, fun q6 => ⟨fun q7 => skip u hu (by simp [nd_Se]; omega), fun q7 => ?_⟩⟩
        · exact c86 hw hMu hFu rfl rfl (by omega) hs (fun u2 hu2 => step u2 (fun k z => by rw [hu2 k z]; exact hu k z) (by simp [nd_Se]; omega))
        · exact c86 hw hMu hFu rfl rfl (by omega) hs (fun u2 hu2 => step u2 (fun k z => by rw [hu2 k z]; exact hu k z) (by simp [nd_Se]; omega))
  exact nw_TI_of (by decide) (Nat.le_of_ble_eq_true rfl) (bk87_0 (c81 hw hC (fun u hM hF hj hg => c77 hw hM (key (nd_P D) 0 u _ _ (by omega) rfl hM hF hj rfl (fun z => absurd rfl z)))))
theorem c88 {Φ : Int → nw_S → Prop} (hw : nd_wf D) (hC : nm_st D σ) (h : ∀ u : nw_S, nc_mo D u → nm_fr D u → (∀ k, k < 26 → u k = σ k) → ((nd_tw D).1 ≠ 0 → u 26 14 = (nd_tw D).2.1) → Φ (nd_bp (nd_tw D)) u) : nw_TI G 88 [.inl 26] σ Φ :=
  nw_TI_of (by decide) (Nat.le_of_ble_eq_true rfl) (bk88_0 (c82 hw hC.1 (by decide) (c82 hw hC.1 (by decide) (c87 hw hC rfl rfl (c := 0) rfl (k := 0) rfl (how := 0) rfl (nd_M_lt hw 1).2 (nd_M_lt hw 2).2 (by decide) (fun z => absurd rfl z) (by decide) h))))
/-- how many stand; how many of them with a score -/
theorem c96 {Φ : Int → nw_S → Prop} (hw : nd_wf D) (hC : nm_st D σ) {x1 x2 : Int} (h1 : x1 = 0 ∨ x1 = 1) (h2 : nw_r x2) (h : ∀ u : nw_S, nc_mo D u → nm_fr D u → (∀ k, k < 26 → u k = σ k) → Φ (if x1 = 0 then (nd_tw D).1 else nd_cq (nd_Se D (nd_M D 1) 0 0 0) (nd_sc D (nd_M D 2)) x2 (nd_P D)) u) : nw_TI G 96 [.inl 26, .inr x1, .inr x2] σ Φ := by
  have hP := nd_P_le hw
  have hh := (nd_M_lt hw 1).2
  have hs := (nd_M_lt hw 2).2
  have key : ∀ (q i : Nat) (τ : nw_S) (x5 x7 : Int), i + q = nd_P D → x7 = i → nc_mo D τ → nm_fr D τ → (∀ k, k < 26 → τ k = σ k) → x5 = (if x1 = 0 then (nd_tp (nd_Se D (nd_M D 1) 0 0 0) (nd_sc D (nd_M D 2)) i).1 else nd_cq (nd_Se D (nd_M D 1) 0 0 0) (nd_sc D (nd_M D 2)) x2 i) → nw_V G 96 (nw_pi Φ) 29 [some (.inl 26), some (.inr x1), some (.inr x2), some (.inr (nd_M D 1 : Int)), some (.inr (nd_M D 2 : Int)), some (.inr x5), some (.inr (nd_P D : Int)), some (.inr x7)] [] τ := by
    intro q
    induction q with
    | zero =>
      intro i τ x5 x7 hi h7 hM hF hj h5
      subst h7
      have hi : i = nd_P D := by omega
      subst hi
      subst h5
      exact bk96_29 ⟨by omega, by omega, fun _ => h τ hM hF hj, fun q => by omega⟩
    | succ q ih =>
      intro i τ x5 x7 hi h7 hM hF hj h5
      subst h7
      have hB := nd_B_lt hw i
      have eB := hF.2 i (by omega)
      have hsc := nd_sc_le hw (nd_M D 2) i
      have hse : ∀ t : nd_T, (nd_see t i (nd_sc D (nd_M D 2) i)).1 = t.1 + 1 := by
        intro t
        unfold nd_see
        split
        · rfl
        · split <;> rfl
      refine bk96_29 ⟨by omega, by omega, fun q => by omega, fun _ => ⟨by omega, nb_rand _ _, ?_⟩⟩
      simp only [Int.toNat_natCast]
      rw [eB, nb_and (by omega) (by omega)]
      refine ⟨fun q => ih (i + 1) _ _ _ (by omega) (by omega) hM hF hj ?_, fun q => ⟨by omega, fun q5 => ih (i + 1) _ _ _ (by omega) (by omega) hM hF hj ?_, fun q5 => c86 hw hM hF rfl rfl (by omega) hs (fun u hu => ?_)⟩⟩
      · have hS : nd_Se D (nd_M D 1) 0 0 0 i = false := by simp [nd_Se]; omega
        simp [nd_tp, nd_cq, hS, h5]
      · have hS : nd_Se D (nd_M D 1) 0 0 0 i = true := by simp [nd_Se]; omega
        simp [nd_tp, hS, h5, q5, hse]
      · have hS : nd_Se D (nd_M D 1) 0 0 0 i = true := by simp [nd_Se]; omega
        have e26 := hu 26 (by decide)
        have hMu : nc_mo D u := hM.to (fun k _ _ _ => hu k (by omega)) (by rw [e26]) (by rw [e26])
        have hFu : nm_fr D u := ⟨by rw [e26]; exact hF.1, by rw [hu 35 (by decide)]; exact hF.2⟩
        have hju : ∀ k, k < 26 → u k = σ k := fun k q => by rw [hu k (by omega)]; exact hj k q
        refine ⟨by omega, h2, fun q6 => ih (i + 1) _ _ _ (by omega) (by omega) hMu hFu hju ?_, fun q6 => ih (i + 1) _ _ _ (by omega) (by omega) hMu hFu hju ?_⟩
        · simp [nd_cq, hS, h5, q5, q6]
        · simp [nd_cq, hS, h5, q5, q6]
  refine nw_TI_of (by decide) (Nat.le_of_ble_eq_true rfl) (bk96_0 (c81 hw hC (fun u hM hF hj hg => c82 hw hM (by decide) (c82 hw hM (by decide) (c77 hw hM (key (nd_P D) 0 u _ _ (by omega) rfl hM hF hj ?_))))))
  simp [nd_tp, nd_cq]
end NC5
