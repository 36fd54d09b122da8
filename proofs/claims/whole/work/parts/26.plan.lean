section NC14
variable {G : nw_G} {σ : nw_S} {D : nd_D}
/-! a plan by what it takes -/
def nd_pn (m x : Nat → Nat) : Nat → Nat
  | 0 => 0
  | n + 1 => nd_pn m x n * m n + x n
def nd_ps (m : Nat → Nat) (n : Nat) (x : Nat → Nat) : Nat → Nat
  | 0 => 0
  | c + 1 => nd_ps m n x c + x c * nd_sp m n c
theorem nd_ps_step (m : Nat → Nat) (n : Nat) (x : Nat → Nat) : ∀ i, i ≤ n → nd_ps m (n + 1) x i = nd_ps m n x i * m n
  | 0, _ => by simp [nd_ps]
  | i + 1, h => by
    unfold nd_ps
    rw [nd_ps_step m n x i (by omega), Nat.add_mul, Nat.mul_assoc]
    congr 1
    congr 1
    show (if i < n then nd_sp m n i * m n else 1) = _
    rw [if_pos (by omega)]
theorem nd_ps_pn (m x : Nat → Nat) : ∀ n, nd_ps m n x n = nd_pn m x n
  | 0 => rfl
  | n + 1 => by
    show nd_ps m (n + 1) x n + x n * nd_sp m (n + 1) n = nd_pn m x n * m n + x n
    rw [nd_ps_step m n x n (Nat.le_refl _), nd_ps_pn m x n, nd_sp_last, Nat.mul_one]
theorem nd_pn_lt {m x : Nat → Nat} : ∀ n, (∀ c, c < n → x c < m c) → nd_pn m x n < nd_pl m n
  | 0, _ => by simp [nd_pn, nd_pl]
  | n + 1, h => by
    have ih := nd_pn_lt n (fun c hc => h c (by omega))
    have hx := h n (by omega)
    show nd_pn m x n * m n + x n < nd_pl m n * m n
    have h1 : (nd_pn m x n + 1) * m n ≤ nd_pl m n * m n := Nat.mul_le_mul_right _ ih
    rw [Nat.succ_mul] at h1
    omega
theorem nd_pn_dg {m x : Nat → Nat} : ∀ n c, (∀ c, c < n → x c < m c) → c < n → nd_dg m n (nd_pn m x n) c = x c
  | 0, c, _, hc => by omega
  | n + 1, c, h, hc => by
    have hx := h n (by omega)
    unfold nd_dg
    show (nd_pn m x n * m n + x n) / nd_sp m (n + 1) c % m c = x c
    by_cases q : c = n
    · subst q
      rw [nd_sp_last, Nat.div_one, Nat.mul_comm, Nat.mul_add_mod, Nat.mod_eq_of_lt hx]
    · have ih := nd_pn_dg n c (fun c hc => h c (by omega)) (by omega)
      unfold nd_dg at ih
      rw [show nd_sp m (n + 1) c = nd_sp m n c * m n from by show (if c < n then nd_sp m n c * m n else 1) = _; rw [if_pos (by omega)], Nat.mul_comm (nd_sp m n c), ← Nat.div_div_eq_div_mul, Nat.mul_comm (nd_pn m x n), Nat.mul_add_div (by omega), Nat.div_eq_of_lt hx, Nat.add_zero]
      exact ih
theorem nd_ct_x {x x' : Nat → Nat} {a : Int} : ∀ n, (∀ c, c < n → x c = x' c) → nd_ct x a n = nd_ct x' a n
  | 0, _ => rfl
  | n + 1, h => by
    unfold nd_ct
    rw [nd_ct_x n (fun c hc => h c (by omega)), h n (by omega)]
theorem nd_sm_x {x x' : Nat → Nat} : ∀ n, (∀ c, c < n → x c = x' c) → nd_sm x n = nd_sm x' n
  | 0, _ => rfl
  | n + 1, h => by
    unfold nd_sm
    rw [nd_sm_x n (fun c hc => h c (by omega)), h n (by omega)]
theorem nd_kp_x {n : Nat} {x x' : Nat → Nat} {g : Nat → Int} (hg : nd_ok n g) (h : ∀ c, c < n → x c = x' c) : nd_kp n x g = nd_kp n x' g := by
  obtain ⟨k1, k2, k3, k4, -⟩ := hg
  unfold nd_kp
  rw [nd_ct_x n h, nd_sm_x n h]
  by_cases q5 : g 0 ≤ 5
  · have ea : x (g 1).toNat = x' (g 1).toNat := h _ (by have := k3 q5; omega)
    rw [ea]
    by_cases q1 : 1 ≤ g 0
    · have eb : x (g 2).toNat = x' (g 2).toNat := h _ (by have := k4 q1 q5; omega)
      rw [eb]
    · have q0 : g 0 = 0 := by omega
      simp [q0]
  · have h0 : ¬ g 0 = 0 := by omega
    have h1 : ¬ g 0 = 1 := by omega
    have h2 : ¬ g 0 = 2 := by omega
    have h3 : ¬ g 0 = 3 := by omega
    have h4 : ¬ g 0 = 4 := by omega
    have h5 : ¬ g 0 = 5 := by omega
    simp [h0, h1, h2, h3, h4, h5]
theorem nd_bs_x {n : Nat} {x x' : Nat → Nat} {f : Nat → Nat → Int} (h : ∀ c, c < n → x c = x' c) : ∀ R, (∀ r, r < R → nd_ok n (fun i => f i r)) → nd_bs n x f R = nd_bs n x' f R
  | 0, _ => rfl
  | R + 1, hg => by
    unfold nd_bs
    rw [nd_bs_x h R (fun r hr => hg r (by omega)), nd_kp_x (hg R (by omega)) h]
def nd_av (a b c d e : Int) (i : Nat) : Int := if i = 0 then a else if i = 1 then b else if i = 2 then c else if i = 3 then d else e
/-- what is told is a plan -/
def nd_isP (D : nd_D) (v : Nat → Int) : Prop := ∀ c, c < nd_n D → 0 ≤ v c ∧ v c < nd_m D c
def nd_xv (v : Nat → Int) (c : Nat) : Nat := (v c).toNat
theorem nd_isP_lt {v : Nat → Int} (h : nd_isP D v) {c : Nat} (hc : c < nd_n D) : nd_xv v c < nd_m D c := by
  have := h c hc
  unfold nd_xv
  omega
theorem nd_isP_x {v : Nat → Int} (h : nd_isP D v) {c : Nat} (hc : c < nd_n D) : nd_x D (nd_pn (nd_m D) (nd_xv v) (nd_n D)) c = nd_xv v c := nd_pn_dg (nd_n D) c (fun c hc => nd_isP_lt h hc) hc
theorem c7 {Φ : Int → nw_S → Prop} (hw : nd_wf D) (hC : nc_ch D σ) {v : Nat → Int} (hv : ∀ c, c < nd_n D → σ 15 c = v c ∧ nw_r (v c)) (ht : nd_isP D v → Φ (nd_pn (nd_m D) (nd_xv v) (nd_n D) : Nat) σ) (hf : ¬ nd_isP D v → Φ (-1) σ) : nw_TI G 7 [.inl 1, .inl 15] σ Φ := by
  have hn := hw.1
  have e := hC.1
  have key : ∀ (w i : Nat) (x2 x3 : Int), i + w = nd_n D → x3 = i → (∀ c, c < i → 0 ≤ v c ∧ v c < nd_m D c) → x2 = (nd_ps (nd_m D) (nd_n D) (nd_xv v) i : Nat) → nw_V G 7 (nw_pi Φ) 4 [some (.inl 1), some (.inl 15), some (.inr x2), some (.inr x3)] [] σ := by
    intro w
    induction w with
    | zero =>
      intro i x2 x3 hi h3 hp h2
      subst h3
      have hi : i = nd_n D := by omega
      subst hi
      refine bk7_4 ⟨by omega, by omega, fun _ => ?_, fun q => by omega⟩
      rw [h2, nd_ps_pn]
      exact ht hp
    | succ w ih =>
      intro i x2 x3 hi h3 hp h2
      subst h3
      obtain ⟨e1, r1⟩ := hv i (by omega)
      refine bk7_4 ⟨by omega, by omega, fun q => by omega, fun _ => ⟨by omega, ?_⟩⟩
      simp only [Int.toNat_natCast]
      rw [e1]
      refine c2' hw hC (by omega) r1 (fun z => ?_) (fun z => ?_)
      · rw [e1, hC.2.2.2.1 i (by omega)]
        obtain ⟨-, z3, z4⟩ := z
        rw [Int.toNat_natCast] at z4
        refine ⟨by decide, fun _ => ih (i + 1) _ _ (by omega) (by omega) (fun c hc => ?_) ?_, fun y => absurd y (by decide)⟩
        · by_cases y : c = i
          · subst y; exact ⟨z3, z4⟩
          · exact hp c (by omega)
        · rw [h2]
          show _ = ((nd_ps (nd_m D) (nd_n D) (nd_xv v) i + nd_xv v i * nd_sp (nd_m D) (nd_n D) i : Nat) : Int)
          push_cast
          congr 2
          unfold nd_xv
          omega
      · refine ⟨by decide, fun y => absurd rfl y, fun _ => hf (fun hP => z ?_)⟩
        have := hP i (by omega)
        refine ⟨⟨by omega, by omega⟩, this.1, ?_⟩
        rw [Int.toNat_natCast]
        exact this.2
  exact nw_TI_of (by decide) (Nat.le_of_ble_eq_true rfl) (bk7_0 (key (nd_n D) 0 _ _ (by omega) rfl (fun c hc => by omega) rfl))
theorem nd_av_at {τ : nw_S} {a b c d e : Int} {k i : Nat} (hi : i < 5) : nw_up (nw_up (nw_up (nw_up (nw_up τ k 0 a) k 1 b) k 2 c) k 3 d) k 4 e k i = nd_av a b c d e i := by
  match i, hi with
  | 0, _ => rw [nu_nj (by decide), nu_nj (by decide), nu_nj (by decide), nu_nj (by decide), nu_at]; rfl
  | 1, _ => rw [nu_nj (by decide), nu_nj (by decide), nu_nj (by decide), nu_at]; rfl
  | 2, _ => rw [nu_nj (by decide), nu_nj (by decide), nu_at]; rfl
  | 3, _ => rw [nu_nj (by decide), nu_at]; rfl
  | 4, _ => rw [nu_at]; rfl
  | i + 5, hi => omega
theorem nd_av_r {a b c d e : Int} (h1 : nw_r a) (h2 : nw_r b) (h3 : nw_r c) (h4 : nw_r d) (h5 : nw_r e) (i : Nat) : nw_r (nd_av a b c d e i) := by
  unfold nd_av
  split
  · exact h1
  · split
    · exact h2
    · split
      · exact h3
      · split
        · exact h4
        · exact h5
theorem c55 {Φ : Int → nw_S → Prop} (hw : nd_wf D) (hC : nc_st D σ) {x1 x2 x3 x4 x5 : Int} (h1 : nw_r x1) (h2 : nw_r x2) (h3 : nw_r x3) (h4 : nw_r x4) (h5 : nw_r x5) (ht : ∀ u : nw_S, nc_st D u → (∀ k, 26 ≤ k → u k = σ k) → nd_isP D (nd_av x1 x2 x3 x4 x5) → Φ (nd_pn (nd_m D) (nd_xv (nd_av x1 x2 x3 x4 x5)) (nd_n D) : Nat) u) (hf : ∀ u : nw_S, nc_st D u → (∀ k, 26 ≤ k → u k = σ k) → ¬ nd_isP D (nd_av x1 x2 x3 x4 x5) → Φ (-1) u) : nw_TI G 55 [.inl 0, .inr x1, .inr x2, .inr x3, .inr x4, .inr x5] σ Φ := by
  have hn := hw.1
  generalize hτ : nw_up (nw_up (nw_up (nw_up (nw_up σ 15 0 x1) 15 1 x2) 15 2 x3) 15 3 x4) 15 4 x5 = τ
  have hj : ∀ j, j ≠ 15 → τ j = σ j := fun j q => by rw [← hτ, nu_ne q, nu_ne q, nu_ne q, nu_ne q, nu_ne q]
  have hT : nc_st D τ := hC.parts (fun j q _ _ _ => hj j q)
  have hk : ∀ k, 26 ≤ k → τ k = σ k := fun k q => hj k (by omega)
  refine nw_TI_of (by decide) (Nat.le_of_ble_eq_true rfl) (bk55_0 ?_)
  rw [hτ]
  refine c7 hw hT.1.1 (v := nd_av x1 x2 x3 x4 x5) (fun c hc => ⟨?_, nd_av_r h1 h2 h3 h4 h5 c⟩) (fun z => ht τ hT hk z) (fun z => hf τ hT hk z)
  rw [← hτ]
  exact nd_av_at (by omega)
noncomputable def nq_breaks (D : nd_D) (v : Nat → Int) : Int := nd_it (nd_isP D v) ((nd_bs (nd_n D) (nd_xv v) (nd_f D) (nd_r D) &&& (nd_M D 1 ||| nd_M D 2) : Nat) : Int) (-1000001)
noncomputable def nq_score (D : nd_D) (v : Nat → Int) : Int := nd_it (nd_isP D v) (nd_ws (nd_w D) (nd_xv v) (nd_n D) - nd_C D (nd_bs (nd_n D) (nd_xv v) (nd_f D) (nd_r D) &&& nd_M D 2)) (-1000001)
theorem nd_isP_B (hw : nd_wf D) {v : Nat → Int} (h : nd_isP D v) : nd_B D (nd_pn (nd_m D) (nd_xv v) (nd_n D)) = nd_bs (nd_n D) (nd_xv v) (nd_f D) (nd_r D) := nd_bs_x (fun c hc => nd_isP_x h hc) (nd_r D) hw.2.2.2.2.2
theorem nb_orM (hw : nd_wf D) : nw_or (nd_M D 1 : Int) (nd_M D 2 : Int) = ((nd_M D 1 ||| nd_M D 2 : Nat) : Int) ∧ (nd_M D 1 ||| nd_M D 2) < 4096 := by
  have h1 := (nd_M_lt hw 1).2
  have h2 := (nd_M_lt hw 2).2
  exact ⟨nb_or (by omega) (by omega), Nat.or_lt_two_pow (n := 12) h1 h2⟩
theorem c48 {Φ : Int → nw_S → Prop} (hw : nd_wf D) (hC : nc_st D σ) {x1 x2 x3 x4 x5 : Int} (h1 : nw_r x1) (h2 : nw_r x2) (h3 : nw_r x3) (h4 : nw_r x4) (h5 : nw_r x5) (h : ∀ u : nw_S, nc_st D u → (∀ k, 26 ≤ k → u k = σ k) → Φ (nq_breaks D (nd_av x1 x2 x3 x4 x5)) u) : nw_TI G 48 [.inl 0, .inr x1, .inr x2, .inr x3, .inr x4, .inr x5] σ Φ := by
  have hP := nd_P_le hw
  obtain ⟨eo, lo⟩ := nb_orM hw
  refine nw_TI_of (by decide) (Nat.le_of_ble_eq_true rfl) (bk48_0 (c55 hw hC h1 h2 h3 h4 h5 (fun u hu hk z => ?_) (fun u hu hk z => ?_)))
  · rw [nq_breaks, nd_it_t z] at h
    have hlt : nd_pn (nd_m D) (nd_xv (nd_av x1 x2 x3 x4 x5)) (nd_n D) < nd_P D := nd_pn_lt (nd_n D) (fun c hc => nd_isP_lt z hc)
    have hB := nd_B_lt hw (nd_pn (nd_m D) (nd_xv (nd_av x1 x2 x3 x4 x5)) (nd_n D))
    refine ⟨by omega, fun _ => ⟨by omega, c17 hw hu.1.2.1 (by decide) (c17 hw hu.1.2.1 (by decide) ?_)⟩, fun y => by omega⟩
    rw [Int.toNat_natCast, eo, hu.1.2.2.2.2 _ hlt, nb_and (by omega) (by omega), nd_isP_B hw z]
    exact h u hu hk
  · rw [nq_breaks, nd_it_f z] at h
    exact ⟨by decide, fun y => absurd rfl y, fun _ => h u hu hk⟩
theorem c49 {Φ : Int → nw_S → Prop} (hw : nd_wf D) (hC : nc_st D σ) {x1 x2 x3 x4 x5 : Int} (h1 : nw_r x1) (h2 : nw_r x2) (h3 : nw_r x3) (h4 : nw_r x4) (h5 : nw_r x5) (h : ∀ u : nw_S, nc_st D u → (∀ k, 26 ≤ k → u k = σ k) → Φ (nq_score D (nd_av x1 x2 x3 x4 x5)) u) : nw_TI G 49 [.inl 0, .inr x1, .inr x2, .inr x3, .inr x4, .inr x5] σ Φ := by
  have hP := nd_P_le hw
  refine nw_TI_of (by decide) (Nat.le_of_ble_eq_true rfl) (bk49_0 (c55 hw hC h1 h2 h3 h4 h5 (fun u hu hk z => ?_) (fun u hu hk z => ?_)))
  · rw [nq_score, nd_it_t z] at h
    have hlt : nd_pn (nd_m D) (nd_xv (nd_av x1 x2 x3 x4 x5)) (nd_n D) < nd_P D := nd_pn_lt (nd_n D) (fun c hc => nd_isP_lt z hc)
    refine ⟨by omega, fun _ => c17 hw hu.1.2.1 (by decide) (c56 hw hu.1 rfl rfl hlt (nd_M_lt hw 2).2 ?_), fun y => by omega⟩
    have e : nd_sc D (nd_M D 2) (nd_pn (nd_m D) (nd_xv (nd_av x1 x2 x3 x4 x5)) (nd_n D)) = nd_ws (nd_w D) (nd_xv (nd_av x1 x2 x3 x4 x5)) (nd_n D) - nd_C D (nd_bs (nd_n D) (nd_xv (nd_av x1 x2 x3 x4 x5)) (nd_f D) (nd_r D) &&& nd_M D 2) := by
      unfold nd_sc
      rw [nd_isP_B hw z]
      congr 1
      exact nd_ws_cg (nd_n D) (fun c hc => nd_isP_x z hc)
    rw [e]
    exact h u hu hk
  · rw [nq_score, nd_it_f z] at h
    exact ⟨by decide, fun y => absurd rfl y, fun _ => h u hu hk⟩
/-- the model's: is it a plan; then x holds it -/
theorem m112 {Φ : Int → nw_S → Prop} (hw : nd_wf D) (hC : nm_st D σ) {x1 x2 x3 x4 x5 : Int} (h1 : nw_r x1) (h2 : nw_r x2) (h3 : nw_r x3) (h4 : nw_r x4) (h5 : nw_r x5) (ht : ∀ u : nw_S, (∀ k, k ≠ 37 → u k = σ k) → (∀ c, c < nd_n D → u 37 c = nd_av x1 x2 x3 x4 x5 c) → nd_isP D (nd_av x1 x2 x3 x4 x5) → Φ 1 u) (hf : ∀ u : nw_S, (∀ k, k ≠ 37 → u k = σ k) → ¬ nd_isP D (nd_av x1 x2 x3 x4 x5) → Φ 0 u) : nw_TI G 112 [.inl 26, .inr x1, .inr x2, .inr x3, .inr x4, .inr x5] σ Φ := by
  have hn := hw.1
  have key : ∀ (w i : Nat) (τ : nw_S) (x6 : Int), i + w = nd_n D → x6 = i → (∀ k, k ≠ 37 → τ k = σ k) → (∀ c, c < i → τ 37 c = nd_av x1 x2 x3 x4 x5 c) → (∀ c, c < i → 0 ≤ nd_av x1 x2 x3 x4 x5 c ∧ nd_av x1 x2 x3 x4 x5 c < nd_m D c) → nw_V G 112 (nw_pi Φ) 3 [some (.inl 26), some (.inr x1), some (.inr x2), some (.inr x3), some (.inr x4), some (.inr x5), some (.inr x6)] [] τ := by
    intro w
    induction w with
    | zero =>
      intro i τ x6 hi h6 hj hx hp
      subst h6
      have hi : i = nd_n D := by omega
      subst hi
      have e : τ 26 0 = nd_n D := by rw [hj 26 (by decide)]; exact hC.1.1
      exact bk112_3 ⟨by omega, by omega, fun _ => ht τ hj hx hp, fun q => by omega⟩
    | succ w ih =>
      intro i τ x6 hi h6 hj hx hp
      subst h6
      have e : τ 26 0 = nd_n D := by rw [hj 26 (by decide)]; exact hC.1.1
      have go : ∀ y : Int, y = nd_av x1 x2 x3 x4 x5 i → nw_TI G 68 [.inl 26, .inr (i : Int), .inr ((nw_up τ 37 i y) 37 i)] (nw_up τ 37 i y) (fun v1 u1 => (nw_r v1) ∧ ((v1 ≠ 0 → nw_V G 112 (nw_pi Φ) 3 [some (.inl 26), some (.inr x1), some (.inr x2), some (.inr x3), some (.inr x4), some (.inr x5), some (.inr ((i : Int) + 1))] [] u1) ∧ (v1 = 0 → Φ 0 u1))) := by
        intro y hy
        subst hy
        have hj2 : ∀ k, k ≠ 37 → nw_up τ 37 i (nd_av x1 x2 x3 x4 x5 i) k = σ k := fun k q => by rw [nu_ne q]; exact hj k q
        have hM2 := (hC.x hj2).1
        rw [nu_at]
        refine c68' hw hM2 (by omega) (nd_av_r h1 h2 h3 h4 h5 i) (fun z => ?_) (fun z => ?_)
        · obtain ⟨-, z3, z4⟩ := z
          rw [Int.toNat_natCast] at z4
          refine ⟨by decide, fun _ => ih (i + 1) _ _ (by omega) (by omega) hj2 (fun c hc => ?_) (fun c hc => ?_), fun q => absurd q (by decide)⟩
          · by_cases q : c = i
            · subst q; rw [nu_at]
            · rw [nu_nj q]; exact hx c (by omega)
          · by_cases q : c = i
            · subst q; exact ⟨z3, z4⟩
            · exact hp c (by omega)
        · refine ⟨by decide, fun q => absurd rfl q, fun _ => hf _ hj2 (fun hP => z ?_)⟩
          have := hP i (by omega)
          refine ⟨⟨by omega, by omega⟩, this.1, ?_⟩
          rw [Int.toNat_natCast]
          exact this.2
      refine bk112_3 ⟨by omega, by omega, fun q => by omega, fun _ => ?_⟩
      simp only [Int.toNat_natCast]
      refine ⟨fun q0 => ⟨fun q1 => ⟨fun q2 => ⟨fun q3 => ⟨by omega, go x5 ?_⟩, fun q3 => ⟨by omega, go x4 ?_⟩⟩, fun q2 => ⟨by omega, go x3 ?_⟩⟩, fun q1 => ⟨by omega, go x2 ?_⟩⟩, fun q0 => ⟨by omega, go x1 ?_⟩⟩
      · have : i = 4 := by omega
        subst this; rfl
      · have : i = 3 := by omega
        subst this; rfl
      · have : i = 2 := by omega
        subst this; rfl
      · have : i = 1 := by omega
        subst this; rfl
      · have : i = 0 := by omega
        subst this; rfl
  exact nw_TI_of (by decide) (Nat.le_of_ble_eq_true rfl) (bk112_0 (key (nd_n D) 0 σ _ (by omega) rfl (fun _ _ => rfl) (fun c hc => by omega) (fun c hc => by omega)))
theorem nd_isP_37 (hw : nd_wf D) {v : Nat → Int} {u : nw_S} (z : nd_isP D v) (hx : ∀ c, c < nd_n D → u 37 c = v c) : ∀ c, c < nd_n D → u 37 c = nd_xv v c ∧ nd_xv v c < 6 := by
  intro c hc
  have h1 := z c hc
  have h2 := hw.2.1 c hc
  refine ⟨?_, ?_⟩
  · rw [hx c hc]
    unfold nd_xv
    omega
  · unfold nd_xv
    omega
theorem m113 {Φ : Int → nw_S → Prop} (hw : nd_wf D) (hC : nm_st D σ) {x1 x2 x3 x4 x5 : Int} (h1 : nw_r x1) (h2 : nw_r x2) (h3 : nw_r x3) (h4 : nw_r x4) (h5 : nw_r x5) (h : ∀ u : nw_S, nm_st D u → (∀ k, k < 26 → u k = σ k) → Φ (nq_breaks D (nd_av x1 x2 x3 x4 x5)) u) : nw_TI G 113 [.inl 26, .inr x1, .inr x2, .inr x3, .inr x4, .inr x5] σ Φ := by
  have hR := hw.2.2.2.2.1
  obtain ⟨eo, lo⟩ := nb_orM hw
  refine nw_TI_of (by decide) (Nat.le_of_ble_eq_true rfl) (bk113_0 (m112 hw hC h1 h2 h3 h4 h5 (fun u hj hx z => ?_) (fun u hj z => ?_)))
  · rw [nq_breaks, nd_it_t z] at h
    have hu := hC.x hj
    have hb := nd_bs_lt (nd_n D) (nd_xv (nd_av x1 x2 x3 x4 x5)) (nd_f D) (nd_r D)
    have hp := nd_pw hR
    refine ⟨by decide, fun _ => c80 hw hu.1 (nd_isP_37 hw z hx) (c82 hw hu.1 (by decide) (c82 hw hu.1 (by decide) ?_)), fun q => absurd q (by decide)⟩
    rw [eo, nb_and (by omega) (by omega)]
    exact h u hu (fun k q => hj k (by omega))
  · rw [nq_breaks, nd_it_f z] at h
    exact ⟨by decide, fun q => absurd rfl q, fun _ => h u (hC.x hj) (fun k q => hj k (by omega))⟩
theorem m114 {Φ : Int → nw_S → Prop} (hw : nd_wf D) (hC : nm_st D σ) {x1 x2 x3 x4 x5 : Int} (h1 : nw_r x1) (h2 : nw_r x2) (h3 : nw_r x3) (h4 : nw_r x4) (h5 : nw_r x5) (h : ∀ u : nw_S, nm_st D u → (∀ k, k < 26 → u k = σ k) → Φ (nq_score D (nd_av x1 x2 x3 x4 x5)) u) : nw_TI G 114 [.inl 26, .inr x1, .inr x2, .inr x3, .inr x4, .inr x5] σ Φ := by
  have hR := hw.2.2.2.2.1
  refine nw_TI_of (by decide) (Nat.le_of_ble_eq_true rfl) (bk114_0 (m112 hw hC h1 h2 h3 h4 h5 (fun u hj hx z => ?_) (fun u hj z => ?_)))
  · rw [nq_score, nd_it_t z] at h
    have hu := hC.x hj
    have hb := nd_bs_lt (nd_n D) (nd_xv (nd_av x1 x2 x3 x4 x5)) (nd_f D) (nd_r D)
    have hp := nd_pw hR
    exact ⟨by decide, fun _ => c80 hw hu.1 (nd_isP_37 hw z hx) (c82 hw hu.1 (by decide) (c85 hw hu.1 (nd_isP_37 hw z hx) rfl rfl (by omega) (nd_M_lt hw 2).2 (h u hu (fun k q => hj k (by omega))))), fun q => absurd q (by decide)⟩
  · rw [nq_score, nd_it_f z] at h
    exact ⟨by decide, fun q => absurd rfl q, fun _ => h u (hC.x hj) (fun k q => hj k (by omega))⟩
/-! needs -/
def nd_ne (D : nd_D) (c k : Nat) : Nat → Int
  | 0 => -1
  | p + 1 => if nd_x D p c = k then (if nd_ne D c k p = -1 ∨ nd_C D (nd_B D p &&& nd_M D 1) < nd_C D (nd_ne D c k p).toNat ∨ (nd_C D (nd_B D p &&& nd_M D 1) = nd_C D (nd_ne D c k p).toNat ∧ ((nd_B D p &&& nd_M D 1 : Nat) : Int) < nd_ne D c k p) then ((nd_B D p &&& nd_M D 1 : Nat) : Int) else nd_ne D c k p) else nd_ne D c k p
theorem nd_ne_in (hw : nd_wf D) (c k : Nat) : ∀ p, nd_ne D c k p = -1 ∨ (0 ≤ nd_ne D c k p ∧ (nd_ne D c k p).toNat < 2 ^ nd_r D)
  | 0 => Or.inl rfl
  | p + 1 => by
    have ih := nd_ne_in hw c k p
    have hB := nd_B_lt hw p
    have hle : nd_B D p &&& nd_M D 1 ≤ nd_B D p := Nat.and_le_left
    unfold nd_ne
    split
    · split
      · exact Or.inr ⟨by omega, by rw [Int.toNat_natCast]; omega⟩
      · exact ih
    · exact ih
noncomputable def nq_needs (D : nd_D) (a k : Int) : Int := nd_it (nd_isK D a k) (nd_ne D a.toNat k.toNat (nd_P D)) (-1000001)
theorem c42 {Φ : Int → nw_S → Prop} (hw : nd_wf D) (hC : nc_st D σ) {x1 x2 : Int} (h1 : nw_r x1) (h2 : nw_r x2) (h : Φ (nq_needs D x1 x2) σ) : nw_TI G 42 [.inl 0, .inr x1, .inr x2] σ Φ := by
  have hP := nd_P_le hw
  have hR := hw.2.2.2.2.1
  have hpw := nd_pw hR
  have hM := (nd_M_lt hw 1).2
  refine nw_TI_of (by decide) (Nat.le_of_ble_eq_true rfl) (bk42_0 (c2' hw hC.1.1 h1 h2 (fun z => ?_) (fun z => ?_)))
  · rw [nq_needs, nd_it_t z] at h
    obtain ⟨⟨z1, z2⟩, z3, z4⟩ := z
    obtain ⟨c, hc⟩ : ∃ c : Nat, x1 = c := ⟨x1.toNat, by omega⟩
    obtain ⟨k, hk⟩ : ∃ k : Nat, x2 = k := ⟨x2.toNat, by omega⟩
    subst hc
    subst hk
    simp only [Int.toNat_natCast] at h z4
    have key : ∀ (w i : Nat) (x4 x5 : Int), i + w = nd_P D → x5 = i → x4 = nd_ne D c k i → nw_V G 42 (nw_pi Φ) 30 [some (.inl 0), some (.inr (c : Int)), some (.inr (k : Int)), some (.inr (nd_M D 1 : Int)), some (.inr x4), some (.inr x5), none] [] σ := by
      intro w
      induction w with
      | zero =>
        intro i x4 x5 hi h5 h4
        subst h5
        subst h4
        have hi : i = nd_P D := by omega
        subst hi
        have e := hC.1.1.2.1
        exact bk42_30 ⟨by omega, by omega, fun _ => h, fun q => by omega⟩
      | succ w ih =>
        intro i x4 x5 hi h5 h4
        subst h5
        subst h4
        have e := hC.1.1.2.1
        have eB := hC.1.2.2.2.2 i (by omega)
        have hB := nd_B_lt hw i
        have hx := nd_x_lt hw (p := i) (c := c) (by omega)
        have hin := nd_ne_in hw c k i
        have hle : nd_B D i &&& nd_M D 1 ≤ nd_B D i := Nat.and_le_left
        have hstep : nd_ne D c k (i + 1) = if nd_x D i c = k then (if nd_ne D c k i = -1 ∨ nd_C D (nd_B D i &&& nd_M D 1) < nd_C D (nd_ne D c k i).toNat ∨ (nd_C D (nd_B D i &&& nd_M D 1) = nd_C D (nd_ne D c k i).toNat ∧ ((nd_B D i &&& nd_M D 1 : Nat) : Int) < nd_ne D c k i) then ((nd_B D i &&& nd_M D 1 : Nat) : Int) else nd_ne D c k i) else nd_ne D c k i := rfl
        have ih' := ih (i + 1)
        rw [hstep] at ih'
        generalize nd_ne D c k i = a at *
        refine bk42_30 ⟨by omega, by omega, fun q => by omega, fun _ => c5 hw hC.1.1 rfl rfl (by omega) (by omega) ⟨by omega, by omega, fun q => ih' _ _ (by omega) (by omega) ?_, fun q => ⟨by omega, by omega, ?_⟩⟩⟩
        · rw [if_neg (fun y => q (by rw [y]))]
        · have qk : nd_x D i c = k := by omega
          simp only [Int.toNat_natCast]
          rw [eB, nb_and (by omega) (by omega)]
          rw [if_pos qk] at ih'
          refine ⟨fun q2 => ih' _ _ (by omega) (by omega) (by rw [if_pos (Or.inl q2)]), fun q2 => ?_⟩
          have ha : 0 ≤ a ∧ a.toNat < 2 ^ nd_r D := by
            rcases hin with y | y
            · exact absurd y q2
            · exact y
          -- isCheaper
          have hs1 := hC.1.2.2.2.1 (nd_B D i &&& nd_M D 1) (by omega)
          have hs2 := hC.1.2.2.2.1 a.toNat ha.2
          have hc1 := nd_C_le hw (nd_B D i &&& nd_M D 1)
          have hc2 := nd_C_le hw a.toNat
          refine nw_TI_of (by decide) (Nat.le_of_ble_eq_true rfl) (bk18_0 ?_)
          simp only [Int.toNat_natCast]
          rw [hs1, hs2]
          refine ⟨by omega, by omega, by omega, by omega, fun q3 => ?_, fun q3 => ⟨fun q4 => ?_, fun q4 => ⟨by omega, by omega, fun q5 => ?_, fun q5 => ?_⟩⟩⟩
          · exact ⟨by decide, fun y => absurd y (by decide), fun _ => ih' _ _ (by omega) (by omega) (by rw [if_pos (Or.inr (Or.inl q3))])⟩
          · exact ⟨by decide, fun _ => ih' _ _ (by omega) (by omega) (by rw [if_neg (fun y => by omega)]), fun y => absurd rfl y⟩
          · exact ⟨by decide, fun _ => ih' _ _ (by omega) (by omega) (by rw [if_neg (fun y => by omega)]), fun y => absurd rfl y⟩
          · exact ⟨by decide, fun y => absurd y (by decide), fun _ => ih' _ _ (by omega) (by omega) (by rw [if_pos (Or.inr (Or.inr ⟨q4, q5⟩))])⟩
    exact ⟨by decide, fun _ => c17 hw hC.1.2.1 (by decide) (key (nd_P D) 0 _ _ (by omega) rfl rfl), fun q => absurd q (by decide)⟩
  · rw [nq_needs, nd_it_f z] at h
    exact ⟨by decide, fun q => absurd rfl q, fun _ => h⟩
theorem m106 {Φ : Int → nw_S → Prop} (hw : nd_wf D) (hC : nm_st D σ) {x1 x2 : Int} (h1 : nw_r x1) (h2 : nw_r x2) (h : ∀ u : nw_S, nm_st D u → (∀ k, k < 26 → u k = σ k) → Φ (nq_needs D x1 x2) u) : nw_TI G 106 [.inl 26, .inr x1, .inr x2] σ Φ := by
  have hP := nd_P_le hw
  have hR := hw.2.2.2.2.1
  have hpw := nd_pw hR
  have hM := (nd_M_lt hw 1).2
  refine nw_TI_of (by decide) (Nat.le_of_ble_eq_true rfl) (bk106_0 (c68' hw hC.1 h1 h2 (fun z => ?_) (fun z => ?_)))
  · rw [nq_needs, nd_it_t z] at h
    obtain ⟨⟨z1, z2⟩, z3, z4⟩ := z
    obtain ⟨c, hc⟩ : ∃ c : Nat, x1 = c := ⟨x1.toNat, by omega⟩
    obtain ⟨k, hk⟩ : ∃ k : Nat, x2 = k := ⟨x2.toNat, by omega⟩
    subst hc
    subst hk
    simp only [Int.toNat_natCast] at h z4
    have key : ∀ (w i : Nat) (τ : nw_S) (x4 x6 : Int), i + w = nd_P D → x6 = i → nm_st D τ → nm_fr D τ → (∀ k, k < 26 → τ k = σ k) → x4 = nd_ne D c k i → nw_V G 106 (nw_pi Φ) 34 [some (.inl 26), some (.inr (c : Int)), some (.inr (k : Int)), some (.inr (nd_M D 1 : Int)), some (.inr x4), some (.inr (nd_P D : Int)), some (.inr x6), none, none] [] τ := by
      intro w
      induction w with
      | zero =>
        intro i τ x4 x6 hi h6 hT hF hj h4
        subst h6
        subst h4
        have hi : i = nd_P D := by omega
        subst hi
        exact bk106_34 ⟨by omega, by omega, fun _ => h τ hT hj, fun q => by omega⟩
      | succ w ih =>
        intro i τ x4 x6 hi h6 hT hF hj h4
        subst h6
        subst h4
        have hB := nd_B_lt hw i
        have hx := nd_x_lt hw (p := i) (c := c) (by omega)
        have hin := nd_ne_in hw c k i
        have hle : nd_B D i &&& nd_M D 1 ≤ nd_B D i := Nat.and_le_left
        have hstep : nd_ne D c k (i + 1) = if nd_x D i c = k then (if nd_ne D c k i = -1 ∨ nd_C D (nd_B D i &&& nd_M D 1) < nd_C D (nd_ne D c k i).toNat ∨ (nd_C D (nd_B D i &&& nd_M D 1) = nd_C D (nd_ne D c k i).toNat ∧ ((nd_B D i &&& nd_M D 1 : Nat) : Int) < nd_ne D c k i) then ((nd_B D i &&& nd_M D 1 : Nat) : Int) else nd_ne D c k i) else nd_ne D c k i := rfl
        have ih' := ih (i + 1)
        rw [hstep] at ih'
        generalize nd_ne D c k i = a at *
        refine bk106_34 ⟨by omega, by omega, fun q => by omega, fun _ => c84 hw hT.1 rfl rfl (by omega) (by omega) (fun u hu => ?_)⟩
        have e26 := hu 26 (by decide)
        have hTu := hT.x hu
        have hFu : nm_fr D u := ⟨by rw [e26]; exact hF.1, by rw [hu 35 (by decide)]; exact hF.2⟩
        have hju : ∀ k, k < 26 → u k = σ k := fun k q => by rw [hu k (by omega)]; exact hj k q
        have eB := hFu.2 i (by omega)
        refine ⟨by omega, by omega, fun q => ih' _ _ _ (by omega) (by omega) hTu hFu hju ?_, fun q => ⟨by omega, by omega, ?_⟩⟩
        · rw [if_neg (fun y => q (by rw [y]))]
        · have qk : nd_x D i c = k := by omega
          simp only [Int.toNat_natCast]
          rw [eB, nb_and (by omega) (by omega)]
          rw [if_pos qk] at ih'
          refine ⟨fun q2 => ih' _ _ _ (by omega) (by omega) hTu hFu hju (by rw [if_pos (Or.inl q2)]), fun q2 => ?_⟩
          have ha : 0 ≤ a ∧ a.toNat < 2 ^ nd_r D := by
            rcases hin with y | y
            · exact absurd y q2
            · exact y
          have hc1 := nd_C_le hw (nd_B D i &&& nd_M D 1)
          have hc2 := nd_C_le hw a.toNat
          refine c83 hw hTu.1 rfl (by omega) (c83 hw hTu.1 (s := a.toNat) (by omega) (by omega) ⟨by omega, by omega, fun q3 => ih' _ _ _ (by omega) (by omega) hTu hFu hju (by rw [if_pos (Or.inr (Or.inl q3))]), fun q3 => c83 hw hTu.1 rfl (by omega) (c83 hw hTu.1 (s := a.toNat) (by omega) (by omega) ⟨by omega, by omega, fun q4 => ih' _ _ _ (by omega) (by omega) hTu hFu hju (by rw [if_neg (fun y => by omega)]), fun q4 => ⟨by omega, fun q5 => ih' _ _ _ (by omega) (by omega) hTu hFu hju (by rw [if_neg (fun y => by omega)]), fun q5 => ih' _ _ _ (by omega) (by omega) hTu hFu hju (by rw [if_pos (Or.inr (Or.inr ⟨q4, q5⟩))])⟩⟩)⟩)
    exact ⟨by decide, fun _ => c81 hw hC (fun u hM hF hj _ => c82 hw hM (by decide) (c77 hw hM (key (nd_P D) 0 u _ _ (by omega) rfl ⟨hM, Or.inr hF⟩ hF hj rfl))), fun q => absurd q (by decide)⟩
  · rw [nq_needs, nd_it_f z] at h
    exact ⟨by decide, fun q => absurd rfl q, fun _ => h σ hC (fun _ _ => rfl)⟩
end NC14
