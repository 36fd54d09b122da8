section NC3
variable {G : nw_G} {σ : nw_S} {D : nd_D}
theorem nu_ne {τ : nw_S} {k j a : Nat} {v : Int} (h : a ≠ k) : nw_up τ k j v a = τ a := by
  funext b
  simp [nw_up, h]
theorem nu_at {τ : nw_S} {k j : Nat} {v : Int} : nw_up τ k j v k j = v := by simp [nw_up]
theorem nu_nj {τ : nw_S} {k j b : Nat} {v : Int} (h : b ≠ j) : nw_up τ k j v k b = τ k b := by simp [nw_up, h]
theorem nc_mo.to {u : nw_S} (h : nc_mo D σ) (e : ∀ k, 26 ≤ k → k < 35 → k ≠ 26 → u k = σ k) (e0 : u 26 0 = σ 26 0) (e3 : u 26 3 = σ 26 3) : nc_mo D u := by
  obtain ⟨h1, h2, h3, h4, h5⟩ := h
  refine ⟨by rw [e0]; exact h1, by rw [e3]; exact h2, fun c hc => ?_, fun i hi => ?_, fun i r hi hr => ?_⟩
  · rw [e 27 (by omega) (by omega) (by omega)]; exact h3 c hc
  · rw [e 28 (by omega) (by omega) (by omega)]; exact h4 i hi
  · rw [e (29 + i) (by omega) (by omega) (by omega)]; exact h5 i r hi hr
theorem c66 {Φ : Int → nw_S → Prop} {x0 x1 x2 : Int} (h0 : nw_r x0) (h1 : nw_r x1) (h2 : nw_r x2) (ht : x1 ≤ x0 → x0 ≤ x2 → Φ 1 σ) (hf : x0 < x1 ∨ x2 < x0 → Φ 0 σ) : nw_TI G 66 [.inr x0, .inr x1, .inr x2] σ Φ :=
  nw_TI_of (by decide) (Nat.le_of_ble_eq_true rfl) (bk66_0 ⟨h0, h1, fun q => hf (Or.inl q), fun q => ⟨h2, fun q2 => hf (Or.inr q2), fun q2 => ht q q2⟩⟩)
theorem c67 {Φ : Int → nw_S → Prop} (hw : nd_wf D) (hC : nc_mo D σ) {x1 : Int} (h1 : nw_r x1) (ht : ∀ c : Nat, x1 = c → c < nd_n D → Φ 1 σ) (hf : (∀ c : Nat, x1 = c → ¬ c < nd_n D) → Φ 0 σ) : nw_TI G 67 [.inl 26, .inr x1] σ Φ := by
  have hn := hw.1
  have e := hC.1
  refine nw_TI_of (by decide) (Nat.le_of_ble_eq_true rfl) (bk67_0 (c66 h1 (by decide) (by omega) (fun a b => ?_) (fun a => ?_)))
  · exact ⟨Or.inr rfl, ht x1.toNat (by omega) (by omega)⟩
  · exact ⟨Or.inl rfl, hf (fun c hc => by omega)⟩
theorem c69 {Φ : Int → nw_S → Prop} (hw : nd_wf D) (hC : nc_mo D σ) {x1 : Int} (h1 : nw_r x1) (ht : ∀ c : Nat, x1 = c → c < nd_r D → Φ 1 σ) (hf : (∀ c : Nat, x1 = c → ¬ c < nd_r D) → Φ 0 σ) : nw_TI G 69 [.inl 26, .inr x1] σ Φ := by
  have hn := hw.2.2.2.2.1
  have e := hC.2.1
  refine nw_TI_of (by decide) (Nat.le_of_ble_eq_true rfl) (bk69_0 (c66 h1 (by decide) (by omega) (fun a b => ?_) (fun a => ?_)))
  · exact ⟨Or.inr rfl, ht x1.toNat (by omega) (by omega)⟩
  · exact ⟨Or.inl rfl, hf (fun c hc => by omega)⟩
theorem c68 {Φ : Int → nw_S → Prop} (hw : nd_wf D) (hC : nc_mo D σ) {x1 x2 : Int} (h1 : nw_r x1) (h2 : nw_r x2) (ht : ∀ c k : Nat, x1 = c → x2 = k → c < nd_n D → k < nd_m D c → Φ 1 σ) (hf : (∀ c k : Nat, x1 = c → x2 = k → c < nd_n D → ¬ k < nd_m D c) → Φ 0 σ) : nw_TI G 68 [.inl 26, .inr x1, .inr x2] σ Φ := by
  have hn := hw.1
  refine nw_TI_of (by decide) (Nat.le_of_ble_eq_true rfl) (bk68_0 (c67 hw hC h1 (fun c hc hcn => ?_) (fun a => ?_)))
  · subst hc
    have hm := hw.2.1 _ hcn
    have em := hC.2.2.1 _ hcn
    simp only [Int.toNat_natCast]
    rw [em]
    refine ⟨by decide, fun q => absurd q (by decide), fun _ => ⟨by omega, c66 h2 (by decide) (by omega) (fun q q2 => ?_) (fun q => ?_)⟩⟩
    · exact ⟨by decide, fun q3 => absurd q3 (by decide), fun _ => ht c x2.toNat rfl (by omega) hcn (by omega)⟩
    · refine ⟨by decide, fun _ => hf (fun c' k hc hk hcn2 => ?_), fun q3 => absurd rfl q3⟩
      have : c = c' := by omega
      subst this
      omega
  · exact ⟨by decide, fun _ => hf (fun c k hc hk hcn => absurd hcn (a c hc)), fun q => absurd rfl q⟩
theorem c77 {Φ : Int → nw_S → Prop} (hw : nd_wf D) (hC : nc_mo D σ) (h : Φ (nd_P D) σ) : nw_TI G 77 [.inl 26] σ Φ := by
  have hn := hw.1
  have e := hC.1
  have key : ∀ (k i : Nat) (x1 x2 : Int), i + k = nd_n D → x2 = i → x1 = (nd_pl (nd_m D) i : Nat) → nw_V G 77 (nw_pi Φ) 4 [some (.inl 26), some (.inr x1), some (.inr x2)] [] σ := by
    intro k
    induction k with
    | zero =>
      intro i x1 x2 hi h2 h1
      subst h2
      refine bk77_4 ⟨by omega, by omega, fun _ => ?_, fun q => by omega⟩
      rw [h1, show i = nd_n D from by omega]
      exact h
    | succ k ih =>
      intro i x1 x2 hi h2 h1
      subst h2
      have em := hC.2.2.1 i (by omega)
      refine bk77_4 ⟨by omega, by omega, fun q => by omega, fun _ => ⟨by omega, ih (i + 1) _ _ (by omega) (by omega) ?_⟩⟩
      simp only [Int.toNat_natCast]
      rw [em, h1]
      show _ = ((nd_pl (nd_m D) i * nd_m D i : Nat) : Int)
      push_cast
      rfl
  exact nw_TI_of (by decide) (Nat.le_of_ble_eq_true rfl) (bk77_0 (key (nd_n D) 0 _ _ (by omega) rfl rfl))
theorem nd_sp_last (m : Nat → Nat) (n : Nat) : nd_sp m (n + 1) n = 1 := by simp [nd_sp]
theorem nd_sp_step (m : Nat → Nat) : ∀ n c : Nat, c + 1 < n → nd_sp m n c = nd_sp m n (c + 1) * m (c + 1)
  | 0, c, h => by omega
  | n + 1, c, h => by
    unfold nd_sp
    rw [if_pos (by omega)]
    by_cases q : c + 1 < n
    · rw [if_pos q, nd_sp_step m n c q, Nat.mul_right_comm]
    · have : n = c + 1 := by omega
      subst this
      rw [if_neg (by omega), nd_sp_last]
theorem c78 {Φ : nw_S → Prop} (hw : nd_wf D) (hC : nc_mo D σ) {x1 : Int} {p : Nat} (h1 : x1 = p) (hp : p < 7776) (h : ∀ u : nw_S, (∀ k, k ≠ 37 → u k = σ k) → (∀ c, c < nd_n D → u 37 c = nd_x D p c) → Φ u) : nw_TV G 78 [.inl 26, .inr x1] σ Φ := by
  subst h1
  have hn := hw.1
  have e := hC.1
  have key : ∀ (i : Nat) (τ : nw_S) (x2 x3 : Int), x3 = (i : Int) - 1 → i ≤ nd_n D → (1 ≤ i → x2 = (p / nd_sp (nd_m D) (nd_n D) (i - 1) : Nat)) → (∀ k, k ≠ 37 → τ k = σ k) → (∀ c, i ≤ c → c < nd_n D → τ 37 c = nd_x D p c) → nw_V G 78 (nw_pv Φ) 9 [some (.inl 26), some (.inr (p : Int)), some (.inr x2), some (.inr x3)] [] τ := by
    intro i
    induction i with
    | zero =>
      intro τ x2 x3 h3 hi h2 hk hx
      refine bk78_9 ⟨by omega, fun _ => h τ hk (fun c hc => hx c (by omega) hc), fun q => by omega⟩
    | succ i ih =>
      intro τ x2 x3 h3 hi h2 hk hx
      have h3 : x3 = (i : Int) := by omega
      subst h3
      have em := hC.2.2.1 i (by omega)
      have hm := hw.2.1 i (by omega)
      have h2 := h2 (by omega)
      rw [show i + 1 - 1 = i from by omega] at h2
      have hle := Nat.div_le_self p (nd_sp (nd_m D) (nd_n D) i)
      refine bk78_9 ⟨by omega, fun q => by omega, fun _ => ?_⟩
      simp only [Int.toNat_natCast]
      rw [hk 27 (by decide), em, h2]
      refine ⟨by omega, ?_, ih _ _ _ (by omega) (by omega) (fun q => ?_) (fun k q => ?_) (fun c q q2 => ?_)⟩
      · generalize p / nd_sp (nd_m D) (nd_n D) i = w at hle
        omega
      · obtain ⟨j, rfl⟩ : ∃ j, i = j + 1 := ⟨i - 1, by omega⟩
        rw [show j + 1 - 1 = j from by omega, nd_sp_step _ _ j (by omega), ← Nat.div_div_eq_div_mul]
        norm_cast
      · rw [nu_ne q]; exact hk k q
      · by_cases hc : c = i
        · subst hc
          rw [nu_at]
          unfold nd_x nd_dg
          norm_cast
        · rw [nu_nj hc]
          exact hx c (by omega) q2
  refine nw_TV_of (by decide) (Nat.le_of_ble_eq_true rfl) (bk78_0 (key (nd_n D) σ _ _ (by rw [e]) (Nat.le_refl _) (fun q => ?_) (fun _ _ => rfl) (fun c q q2 => by omega)))
  obtain ⟨j, hj⟩ : ∃ j, nd_n D = j + 1 := ⟨nd_n D - 1, by omega⟩
  rw [hj, show j + 1 - 1 = j from by omega, nd_sp_last, Nat.div_one]
theorem c80 {Φ : Int → nw_S → Prop} (hw : nd_wf D) (hC : nc_mo D σ) {x : Nat → Nat} (hx : ∀ c, c < nd_n D → σ 37 c = x c ∧ x c < 6) (h : Φ (nd_bs (nd_n D) x (nd_f D) (nd_r D) : Nat) σ) : nw_TI G 80 [.inl 26] σ Φ := by
  have hR := hw.2.2.2.2.1
  have e := hC.2.1
  have key : ∀ (k i : Nat) (x1 x2 : Int), i + k = nd_r D → x2 = i → x1 = (nd_bs (nd_n D) x (nd_f D) i : Nat) → nw_V G 80 (nw_pi Φ) 4 [some (.inl 26), some (.inr x1), some (.inr x2)] [] σ := by
    intro k
    induction k with
    | zero =>
      intro i x1 x2 hi h2 h1
      subst h2
      refine bk80_4 ⟨by omega, by omega, fun _ => ?_, fun q => by omega⟩
      rw [h1, show i = nd_r D from by omega]
      exact h
    | succ k ih =>
      intro i x1 x2 hi h2 h1
      subst h2
      subst h1
      have hlt := nd_bs_lt (nd_n D) x (nd_f D) i
      have hp2 := nd_pw (r := i) (by omega)
      refine bk80_4 ⟨by omega, by omega, fun q => by omega, fun _ => c79 hw hC hx rfl (by omega) (fun q => ?_) (fun q => ?_)⟩
      · refine ⟨by decide, fun q2 => absurd q2 (by decide), fun _ => ih (i + 1) _ _ (by omega) (by omega) ?_⟩
        rw [nd_or0 (by omega)]
        simp [nd_bs, q]
      · refine ⟨by decide, fun _ => ih (i + 1) _ _ (by omega) (by omega) ?_, fun q2 => absurd rfl q2⟩
        rw [nd_or hlt (by omega)]
        simp [nd_bs, q]
  exact nw_TI_of (by decide) (Nat.le_of_ble_eq_true rfl) (bk80_0 (key (nd_r D) 0 _ _ (by omega) rfl rfl))
def nm_fr (D : nd_D) (u : nw_S) : Prop := u 26 11 = 1 ∧ ∀ p, p < nd_P D → u 35 p = nd_B D p
def nm_st (D : nd_D) (u : nw_S) : Prop := nc_mo D u ∧ (u 26 11 = 0 ∨ nm_fr D u)
theorem c81 {Φ : nw_S → Prop} (hw : nd_wf D) (hC : nm_st D σ) (h : ∀ u : nw_S, nc_mo D u → nm_fr D u → (∀ k, k < 26 → u k = σ k) → (∀ j, j ≠ 11 → u 26 j = σ 26 j) → Φ u) : nw_TV G 81 [.inl 26] σ Φ := by
  obtain ⟨hM, hF⟩ := hC
  have hP := nd_P_le hw
  have key : ∀ (k i : Nat) (τ : nw_S) (x2 : Int), i + k = nd_P D → x2 = i → nc_mo D τ → τ 26 11 = 1 → (∀ p, p < i → τ 35 p = nd_B D p) → (∀ k, k < 26 → τ k = σ k) → (∀ j, j ≠ 11 → τ 26 j = σ 26 j) → nw_V G 81 (nw_pv Φ) 19 [some (.inl 26), some (.inr (nd_P D : Int)), some (.inr x2)] [] τ := by
    intro k
    induction k with
    | zero =>
      intro i τ x2 hi h2 hM h11 hB hk hj
      subst h2
      refine bk81_19 ⟨by omega, by omega, fun _ => h τ hM ⟨h11, fun p hp => hB p (by omega)⟩ hk hj, fun q => by omega⟩
    | succ k ih =>
      intro i τ x2 hi h2 hM h11 hB hk hj
      subst h2
      refine bk81_19 ⟨by omega, by omega, fun q => by omega, fun _ => c78 hw hM rfl (by omega) (fun u hu hx => ?_)⟩
      have hM1 : nc_mo D u := hM.to (fun k _ _ _ => hu k (by omega)) (by rw [hu 26 (by decide)]) (by rw [hu 26 (by decide)])
      refine c80 hw hM1 (x := nd_x D i) (fun c hc => ⟨hx c hc, (nd_x_lt hw hc).2⟩) ⟨by omega, ?_⟩
      simp only [Int.toNat_natCast]
      refine ih (i + 1) _ _ (by omega) (by omega) ?_ ?_ ?_ ?_ ?_
      · exact hM1.to (fun k _ _ _ => nu_ne (by omega)) (by rw [nu_ne (by decide)]) (by rw [nu_ne (by decide)])
      · rw [nu_ne (by decide), hu 26 (by decide)]; exact h11
      · intro p hp
        by_cases q : p = i
        · subst q; rw [nu_at]; rfl
        · rw [nu_nj q, hu 35 (by decide)]; exact hB p (by omega)
      · intro k q
        rw [nu_ne (by omega), hu k (by omega)]; exact hk k q
      · intro j q
        rw [nu_ne (by decide), hu 26 (by decide)]; exact hj j q
  refine nw_TV_of (by decide) (Nat.le_of_ble_eq_true rfl) (bk81_0 ⟨?_, fun q => ?_, fun q => ?_⟩)
  · rcases hF with q | q
    · rw [q]; decide
    · rw [q.1]; decide
  · rcases hF with q2 | q2
    · exact absurd q2 q
    · exact h σ hM q2 (fun _ _ => rfl) (fun _ _ => rfl)
  · have hM1 : nc_mo D (nw_up σ 26 11 1) := hM.to (fun k _ _ q => nu_ne q) (nu_nj (by decide)) (nu_nj (by decide))
    exact c77 hw hM1 (key (nd_P D) 0 _ _ (by omega) rfl hM1 nu_at (fun p hp => by omega) (fun k q => nu_ne (by omega)) (fun j q => nu_nj q))
theorem c83 {Φ : Int → nw_S → Prop} (hw : nd_wf D) (hC : nc_mo D σ) {x1 : Int} {s : Nat} (h1 : x1 = s) (hs : s < 4096) (h : Φ (nd_C D s) σ) : nw_TI G 83 [.inl 26, .inr x1] σ Φ := by
  subst h1
  have hR := hw.2.2.2.2.1
  have e := hC.2.1
  have key : ∀ (k i : Nat) (x2 x3 : Int), i + k = nd_r D → x3 = i → x2 = nd_co (nd_f D) s i → nw_V G 83 (nw_pi Φ) 4 [some (.inl 26), some (.inr (s : Int)), some (.inr x2), some (.inr x3)] [] σ := by
    intro k
    induction k with
    | zero =>
      intro i x2 x3 hi h3 h2
      subst h3
      refine bk83_4 ⟨by omega, by omega, fun _ => ?_, fun q => by omega⟩
      rw [h2, show i = nd_r D from by omega]
      exact h
    | succ k ih =>
      intro i x2 x3 hi h3 h2
      subst h3
      have ew : σ 33 i = nd_f D 4 i := hC.2.2.2.2 4 i (by omega) (by omega)
      refine bk83_4 ⟨by omega, by omega, fun q => by omega, fun _ => ⟨nb_rand _ _, ?_⟩⟩
      simp only [Int.toNat_natCast]
      rw [nb_bit (by omega) (by omega), ew]
      refine ⟨fun q => ih (i + 1) _ _ (by omega) (by omega) ?_, fun q => ⟨by omega, ih (i + 1) _ _ (by omega) (by omega) ?_⟩⟩
      · have : s.testBit i = false := by
          cases hb : s.testBit i with
          | false => rfl
          | true => rw [hb] at q; exact absurd rfl q
        simp [nd_co, this, h2]
      · have : s.testBit i = true := by
          cases hb : s.testBit i with
          | true => rfl
          | false => rw [hb] at q; exact absurd q (by decide)
        simp [nd_co, this, h2]
  exact nw_TI_of (by decide) (Nat.le_of_ble_eq_true rfl) (bk83_0 (key (nd_r D) 0 _ _ (by omega) rfl rfl))
theorem c84 {Φ : Int → nw_S → Prop} (hw : nd_wf D) (hC : nc_mo D σ) {x1 x2 : Int} {p c : Nat} (h1 : x1 = p) (h2 : x2 = c) (hp : p < 7776) (hc : c < nd_n D) (h : ∀ u : nw_S, (∀ k, k ≠ 37 → u k = σ k) → Φ (nd_x D p c) u) : nw_TI G 84 [.inl 26, .inr x1, .inr x2] σ Φ := by
  subst h2
  have hn := hw.1
  refine nw_TI_of (by decide) (Nat.le_of_ble_eq_true rfl) (bk84_0 (c78 hw hC h1 hp (fun u hu hx => ⟨by omega, ?_⟩)))
  simp only [Int.toNat_natCast]
  rw [hx c hc]
  exact h u hu
theorem c85 {Φ : Int → nw_S → Prop} (hw : nd_wf D) (hC : nc_mo D σ) {x : Nat → Nat} (hx : ∀ c, c < nd_n D → σ 37 c = x c ∧ x c < 6) {x1 x2 : Int} {b s : Nat} (h1 : x1 = b) (h2 : x2 = s) (hb : b < 4096) (hs : s < 4096) (h : Φ (nd_ws (nd_w D) x (nd_n D) - nd_C D (b &&& s)) σ) : nw_TI G 85 [.inl 26, .inr x1, .inr x2] σ Φ := by
  subst h1
  subst h2
  have hn := hw.1
  have e := hC.1
  have key : ∀ (k i : Nat) (x3 x4 : Int), i + k = nd_n D → x4 = i → x3 = nd_ws (nd_w D) x i → nw_V G 85 (nw_pi Φ) 5 [some (.inl 26), some (.inr (b : Int)), some (.inr (s : Int)), some (.inr x3), some (.inr x4)] [] σ := by
    intro k
    induction k with
    | zero =>
      intro i x3 x4 hi h4 h3
      subst h4
      refine bk85_5 ⟨by omega, by omega, fun _ => c83 hw hC (s := b &&& s) (nb_and (by omega) (by omega)) (Nat.lt_of_le_of_lt Nat.and_le_left hb) ?_, fun q => by omega⟩
      rw [h3, show i = nd_n D from by omega]
      exact h
    | succ k ih =>
      intro i x3 x4 hi h4 h3
      subst h4
      obtain ⟨e1, l1⟩ := hx i (by omega)
      refine bk85_5 ⟨by omega, by omega, fun q => by omega, fun _ => ?_⟩
      simp only [Int.toNat_natCast]
      rw [e1]
      have ei : (6 * (i : Int) + (x i : Int)).toNat = 6 * i + x i := by omega
      have ew := hC.2.2.2.1 (6 * i + x i) (by omega)
      refine ⟨by omega, by omega, ih (i + 1) _ _ (by omega) (by omega) ?_⟩
      rw [ei, ew, h3]
      rfl
  exact nw_TI_of (by decide) (Nat.le_of_ble_eq_true rfl) (bk85_0 (key (nd_n D) 0 _ _ (by omega) rfl rfl))
theorem c86 {Φ : Int → nw_S → Prop} (hw : nd_wf D) (hC : nc_mo D σ) (hF : nm_fr D σ) {x1 x2 : Int} {p s : Nat} (h1 : x1 = p) (h2 : x2 = s) (hp : p < nd_P D) (hs : s < 4096) (h : ∀ u : nw_S, (∀ k, k ≠ 37 → u k = σ k) → Φ (nd_sc D s p) u) : nw_TI G 86 [.inl 26, .inr x1, .inr x2] σ Φ := by
  subst h1
  have hP := nd_P_le hw
  refine nw_TI_of (by decide) (Nat.le_of_ble_eq_true rfl) (bk86_0 (c78 hw hC rfl (by omega) (fun u hu hx => ⟨by omega, ?_⟩)))
  have hM1 : nc_mo D u := hC.to (fun k _ _ _ => hu k (by omega)) (by rw [hu 26 (by decide)]) (by rw [hu 26 (by decide)])
  simp only [Int.toNat_natCast]
  rw [hu 35 (by decide), hF.2 p hp]
  exact c85 hw hM1 (x := nd_x D p) (fun c hc => ⟨hx c hc, (nd_x_lt hw hc).2⟩) rfl h2 (nd_B_lt hw p).2 hs (h u hu)
end NC3
