section NC10
variable {G : nw_G} {σ : nw_S} {D : nd_D}
/-! one choice more -/
def nd_aC (D : nd_D) (k : Nat) : nd_D := (nd_n D + 1, fun c => if c = nd_n D then k else nd_m D c, nd_w D, nd_r D, nd_f D)
theorem nd_aC_m {k c : Nat} (h : c < nd_n D) : nd_m (nd_aC D k) c = nd_m D c := if_neg (by omega)
theorem nd_aC_mn {k : Nat} : nd_m (nd_aC D k) (nd_n D) = k := if_pos rfl
theorem nd_ok_mono {n n' : Nat} {g : Nat → Int} (h : nd_ok n g) (hn : n ≤ n') : nd_ok n' g := by
  obtain ⟨k1, k2, k3, k4, k5, k6, k7, k8, k9⟩ := h
  exact ⟨k1, k2, fun q => ⟨(k3 q).1, by have := (k3 q).2; omega⟩, fun q q2 => ⟨(k4 q q2).1, by have := (k4 q q2).2; omega⟩, k5, k6, k7, k8, k9⟩
theorem nd_aC_wf (hw : nd_wf D) {k : Nat} (hn : nd_n D < 5) (h1 : 1 ≤ k) (h6 : k ≤ 6) : nd_wf (nd_aC D k) := by
  refine ⟨hn, fun c hc => ?_, hw.2.2.1, fun i hi => hw.2.2.2.1 i ?_, hw.2.2.2.2.1, fun r hr => nd_ok_mono (hw.2.2.2.2.2 r hr) (Nat.le_succ _)⟩
  · have hc : c < nd_n D + 1 := hc
    by_cases q : c = nd_n D
    · subst q; rw [nd_aC_mn]; exact ⟨h1, h6⟩
    · rw [nd_aC_m (by omega)]; exact hw.2.1 c (by omega)
  · have hi : 6 * (nd_n D + 1) ≤ i := hi
    omega
theorem nd_pl_cg {m m' : Nat → Nat} : ∀ n : Nat, (∀ c, c < n → m c = m' c) → nd_pl m n = nd_pl m' n
  | 0, _ => rfl
  | n + 1, h => by
    unfold nd_pl
    rw [nd_pl_cg n (fun c hc => h c (by omega)), h n (by omega)]
theorem nd_sp_cg {m m' : Nat → Nat} : ∀ n c : Nat, (∀ c, c < n → m c = m' c) → nd_sp m n c = nd_sp m' n c
  | 0, _, _ => rfl
  | n + 1, c, h => by
    unfold nd_sp
    rw [nd_sp_cg n c (fun c hc => h c (by omega)), h n (by omega)]
theorem nd_aC_P {k : Nat} : nd_P (nd_aC D k) = nd_P D * k := by
  show nd_pl _ (nd_n D) * nd_m (nd_aC D k) (nd_n D) = _
  rw [nd_aC_mn, nd_pl_cg (m := nd_m (nd_aC D k)) (m' := nd_m D) (nd_n D) (fun c hc => nd_aC_m hc)]
  rfl
theorem nd_aC_sp {k c : Nat} (h : c < nd_n D) : nd_sp (nd_m (nd_aC D k)) (nd_n D + 1) c = nd_sp (nd_m D) (nd_n D) c * k := by
  show (if c < nd_n D then nd_sp (nd_m (nd_aC D k)) (nd_n D) c * nd_m (nd_aC D k) (nd_n D) else 1) = _
  rw [if_pos h, nd_aC_mn, nd_sp_cg (m := nd_m (nd_aC D k)) (m' := nd_m D) (nd_n D) c (fun c hc => nd_aC_m hc)]
theorem nd_aC_x {k p c : Nat} (h : c < nd_n D) : nd_x (nd_aC D k) p c = nd_x D (p / k) c := by
  unfold nd_x nd_dg
  show p / nd_sp (nd_m (nd_aC D k)) (nd_n D + 1) c % nd_m (nd_aC D k) c = _
  rw [nd_aC_sp h, nd_aC_m h, Nat.mul_comm, ← Nat.div_div_eq_div_mul]
theorem nd_ws_cg {w : Nat → Int} {x x' : Nat → Nat} : ∀ n : Nat, (∀ c, c < n → x c = x' c) → nd_ws w x n = nd_ws w x' n
  | 0, _ => rfl
  | n + 1, h => by
    unfold nd_ws
    rw [nd_ws_cg n (fun c hc => h c (by omega)), h n (by omega)]
theorem nd_aC_U (hw : nd_wf D) {k p : Nat} : nd_U (nd_aC D k) p = nd_U D (p / k) := by
  show nd_ws (nd_w D) (nd_x (nd_aC D k) p) (nd_n D) + nd_w D (6 * nd_n D + nd_x (nd_aC D k) p (nd_n D)) = _
  rw [hw.2.2.2.1 _ (by omega), Int.add_zero]
  exact nd_ws_cg (nd_n D) (fun c hc => nd_aC_x hc)
/-- Choices.read -/
theorem c6 {Φ : nw_S → Prop} (hw : nd_wf D) (hC : nc_ch D σ) {x1 : Int} {p : Nat} (h1 : x1 = p) (hp : p < 7776) (h : ∀ u : nw_S, (∀ j, j ≠ 15 → u j = σ j) → (∀ c, c < nd_n D → u 15 c = nd_x D p c) → Φ u) : nw_TV G 6 [.inl 1, .inr x1, .inl 15] σ Φ := by
  subst h1
  have hn := hw.1
  have key : ∀ (k i : Nat) (τ : nw_S) (x3 : Int), i + k = nd_n D → x3 = i → (∀ j, j ≠ 15 → τ j = σ j) → (∀ c, c < i → τ 15 c = nd_x D p c) → nw_V G 6 (nw_pv Φ) 2 [some (.inl 1), some (.inr (p : Int)), some (.inl 15), some (.inr x3)] [] τ := by
    intro k
    induction k with
    | zero =>
      intro i τ x3 hi h3 hj hx
      subst h3
      have e : τ 1 0 = nd_n D := by rw [hj 1 (by decide)]; exact hC.1
      exact bk6_2 ⟨by omega, by omega, fun _ => h τ hj (fun c hc => hx c (by omega)), fun q => by omega⟩
    | succ k ih =>
      intro i τ x3 hi h3 hj hx
      subst h3
      have e : τ 1 0 = nd_n D := by rw [hj 1 (by decide)]; exact hC.1
      have hT : nc_ch D τ := by
        obtain ⟨a1, a2, a3, a4, a5⟩ := hC
        exact ⟨by rw [hj 1 (by decide)]; exact a1, by rw [hj 1 (by decide)]; exact a2, by rw [hj 2 (by decide)]; exact a3, by rw [hj 3 (by decide)]; exact a4, by rw [hj 4 (by decide)]; exact a5⟩
      refine bk6_2 ⟨by omega, by omega, fun q => by omega, fun _ => c5 hw hT rfl rfl hp (by omega) ⟨by omega, ?_⟩⟩
      simp only [Int.toNat_natCast]
      refine ih (i + 1) _ _ (by omega) (by omega) (fun j q => by rw [nu_ne q]; exact hj j q) (fun c hc => ?_)
      by_cases q : c = i
      · subst q; rw [nu_at]
      · rw [nu_nj q]; exact hx c (by omega)
  exact nw_TV_of (by decide) (Nat.le_of_ble_eq_true rfl) (bk6_0 (key (nd_n D) 0 σ _ (by omega) rfl (fun _ _ => rfl) (fun c hc => by omega)))
/-- judgeFrom -/
theorem c54 {Φ : nw_S → Prop} (hw : nd_wf D) (hC : nc_ch D σ) (hU : nc_ru D σ) {x1 : Int} {ρ : Nat} (h1 : x1 = ρ) (hρ : ρ ≤ nd_r D) (hpre : ∀ p, p < nd_P D → nw_and (σ 14 p) (((2 ^ ρ : Nat) : Int) - 1) = (nd_bs (nd_n D) (nd_x D p) (nd_f D) ρ : Nat)) (h : ∀ u : nw_S, (∀ j, j ≠ 14 → j ≠ 15 → u j = σ j) → (∀ p, p < nd_P D → u 14 p = nd_B D p) → Φ u) : nw_TV G 54 [.inl 0, .inr x1] σ Φ := by
  subst h1
  have hR := hw.2.2.2.2.1
  have hP := nd_P_le hw
  have keep : ∀ τ : nw_S, (∀ j, j ≠ 14 → j ≠ 15 → τ j = σ j) → nc_ch D τ ∧ nc_ru D τ := by
    intro τ hj
    obtain ⟨a1, a2, a3, a4, a5⟩ := hC
    refine ⟨⟨by rw [hj 1 (by decide) (by decide)]; exact a1, by rw [hj 1 (by decide) (by decide)]; exact a2, by rw [hj 2 (by decide) (by decide)]; exact a3, by rw [hj 3 (by decide) (by decide)]; exact a4, by rw [hj 4 (by decide) (by decide)]; exact a5⟩, by rw [hj 6 (by decide) (by decide)]; exact hU.1, fun i r hi hr => ?_⟩
    rw [hj (7 + i) (by omega) (by omega)]; exact hU.2 i r hi hr
  -- the rules of one plan
  have inner : ∀ (p : Nat) (τ : nw_S), p < nd_P D → (∀ j, j ≠ 14 → j ≠ 15 → τ j = σ j) → (∀ c, c < nd_n D → τ 15 c = nd_x D p c) → nw_V G 54 (nw_pv Φ) 8 [some (.inl 0), some (.inr (ρ : Int)), some (.inr (nw_shl 1 (ρ : Int) - 1)), some (.inr ((p : Int) + 1)), none, none] [] (nw_up τ 14 p (nd_B D p)) → ∀ (k i : Nat) (x4 x5 : Int), i + k = nd_r D → x5 = i → x4 = (nd_bs (nd_n D) (nd_x D p) (nd_f D) i : Nat) → nw_V G 54 (nw_pv Φ) 44 [some (.inl 0), some (.inr (ρ : Int)), some (.inr (nw_shl 1 (ρ : Int) - 1)), some (.inr (p : Int)), some (.inr x4), some (.inr x5)] [] τ := by
    intro p τ hp hj hx hnext k
    obtain ⟨hT, hTu⟩ := keep τ hj
    induction k with
    | zero =>
      intro i x4 x5 hi h5 h4
      subst h5
      have hi : i = nd_r D := by omega
      subst hi
      subst h4
      have e := hTu.1
      refine bk54_44 ⟨by omega, by omega, fun _ => ⟨by omega, ?_⟩, fun q => by omega⟩
      simp only [Int.toNat_natCast]
      exact hnext
    | succ k ih =>
      intro i x4 x5 hi h5 h4
      subst h5
      subst h4
      have e := hTu.1
      have en := hT.1
      have hlt := nd_bs_lt (nd_n D) (nd_x D p) (nd_f D) i
      refine bk54_44 ⟨by omega, by omega, fun q => by omega, fun _ => c19 hw hTu (x := nd_x D p) (fun c hc => ⟨hx c hc, (nd_x_lt hw hc).2⟩) rfl (by omega) en (fun q => ?_) (fun q => ?_)⟩
      · refine ⟨by decide, fun _ => ih (i + 1) _ _ (by omega) (by omega) ?_, fun q2 => absurd q2 (by decide)⟩
        simp [nd_bs, q]
      · refine ⟨by decide, fun q2 => absurd rfl q2, fun _ => ih (i + 1) _ _ (by omega) (by omega) ?_⟩
        rw [nd_or hlt (by omega)]
        simp [nd_bs, q]
  have key : ∀ (k p : Nat) (τ : nw_S) (x3 : Int), p + k = nd_P D → x3 = p → (∀ j, j ≠ 14 → j ≠ 15 → τ j = σ j) → (∀ q, q < p → τ 14 q = nd_B D q) → (∀ q, p ≤ q → q < nd_P D → τ 14 q = σ 14 q) → nw_V G 54 (nw_pv Φ) 8 [some (.inl 0), some (.inr (ρ : Int)), some (.inr (nw_shl 1 (ρ : Int) - 1)), some (.inr x3), none, none] [] τ := by
    intro k
    induction k with
    | zero =>
      intro p τ x3 hp h3 hj hB hB2
      subst h3
      have e := (keep τ hj).1.2.1
      exact bk54_8 ⟨by omega, by omega, fun _ => h τ hj (fun q hq => hB q (by omega)), fun q => by omega⟩
    | succ k ih =>
      intro p τ x3 hp h3 hj hB hB2
      subst h3
      obtain ⟨hT, hTu⟩ := keep τ hj
      have e := hT.2.1
      refine bk54_8 ⟨by omega, by omega, fun q => by omega, fun _ => c6 hw hT rfl (by omega) (fun u hu hx => ⟨by omega, ?_⟩)⟩
      simp only [Int.toNat_natCast]
      have hju : ∀ j, j ≠ 14 → j ≠ 15 → u j = σ j := fun j a b => by rw [hu j b]; exact hj j a b
      refine inner p u (by omega) hju hx (ih (p + 1) _ _ (by omega) (by omega) (fun j a b => by rw [nu_ne a]; exact hju j a b) (fun q hq => ?_) (fun q hq hq2 => ?_)) (nd_r D - ρ) ρ _ _ (by omega) rfl ?_
      · by_cases y : q = p
        · subst y; rw [nu_at]
        · rw [nu_nj y, hu 14 (by decide)]; exact hB q (by omega)
      · rw [nu_nj (by omega), hu 14 (by decide)]; exact hB2 q (by omega) hq2
      · rw [hu 14 (by decide), hB2 p (Nat.le_refl _) (by omega), nb_shl (by omega)]
        exact hpre p (by omega)
  exact nw_TV_of (by decide) (Nat.le_of_ble_eq_true rfl) (bk54_0 (key (nd_P D) 0 σ _ (by omega) rfl (fun _ _ _ => rfl) (fun q hq => by omega) (fun _ _ _ => rfl)))
theorem c50 {Φ : nw_S → Prop} (h : Φ (nw_up (nw_up σ 0 5 1) 0 11 1)) : nw_TV G 50 [.inl 0] σ Φ :=
  nw_TV_of (by decide) (Nat.le_of_ble_eq_true rfl) (bk50_0 h)
/-- Choices.add -/
theorem c3 {Φ : nw_S → Prop} (hw : nd_wf D) (hC : nc_ch D σ) (hS : ∀ p, p < nd_P D → σ 5 p = nd_U D p) {x1 : Int} {k : Nat} (h1 : x1 = k) (hn : nd_n D < 5) (hk1 : 1 ≤ k) (hk6 : k ≤ 6) (h : ∀ u : nw_S, (∀ j, j ≠ 1 → j ≠ 2 → j ≠ 3 → j ≠ 5 → u j = σ j) → nc_ch (nd_aC D k) u → (∀ p, p < nd_P (nd_aC D k) → u 5 p = nd_U (nd_aC D k) p) → Φ u) : nw_TV G 3 [.inl 1, .inr x1] σ Φ := by
  subst h1
  have hw' := nd_aC_wf hw hn hk1 hk6
  have hP := nd_P_le hw
  have hP' := nd_P_le hw'
  rw [nd_aC_P] at hP'
  obtain ⟨a1, a2, a3, a4, a5⟩ := hC
  -- the steps
  have steps : ∀ (w i : Nat) (τ : nw_S) (x2 : Int), i + w = nd_n D → x2 = i → (∀ j, j ≠ 3 → j ≠ 5 → τ j = σ j) → (∀ c, c < i → τ 3 c = (nd_sp (nd_m D) (nd_n D) c * k : Nat)) → (∀ c, i ≤ c → c < nd_n D → τ 3 c = nd_sp (nd_m D) (nd_n D) c) → (∀ p, p < nd_P D * k → τ 5 p = nd_U D (p / k)) → nw_V G 3 (nw_pv Φ) 49 [some (.inl 1), some (.inr (k : Int)), some (.inr x2), none] [] τ := by
    intro w
    induction w with
    | zero =>
      intro i τ x2 hi h2 hj hs1 hs2 hu
      subst h2
      have hi : i = nd_n D := by omega
      subst hi
      have e := hj 1 (by decide) (by decide)
      rw [← e] at a1 a2
      refine bk3_49 ⟨by omega, by omega, fun _ => ⟨by omega, ?_⟩, fun q => by omega⟩
      rw [a1, a2, Int.toNat_natCast]
      refine h _ (fun j b1 b2 b3 b5 => ?_) ⟨?_, ?_, fun c hc => ?_, fun c hc => ?_, fun i hi => ?_⟩ (fun p hp => ?_)
      · rw [nu_ne b1, nu_ne b1, nu_ne b3, nu_ne b2]; exact hj j b3 b5
      · rw [nu_nj (by decide), nu_at]
        show _ = ((nd_n D + 1 : Nat) : Int)
        push_cast
        rfl
      · rw [nu_at, nd_aC_P]
        push_cast
        rfl
      · have hc : c < nd_n D + 1 := hc
        rw [nu_ne (by decide), nu_ne (by decide), nu_ne (by decide)]
        by_cases q : c = nd_n D
        · subst q; rw [nu_at, nd_aC_mn]
        · rw [nu_nj q, hj 2 (by decide) (by decide), nd_aC_m (by omega)]; exact a3 c (by omega)
      · have hc : c < nd_n D + 1 := hc
        rw [nu_ne (by decide), nu_ne (by decide)]
        by_cases q : c = nd_n D
        · subst q
          rw [nu_at]
          show _ = ((nd_sp _ (nd_n D + 1) (nd_n D) : Nat) : Int)
          rw [nd_sp_last]
          rfl
        · rw [nu_nj q, nu_ne (by decide), hs1 c (by omega)]
          show _ = ((nd_sp _ (nd_n D + 1) c : Nat) : Int)
          rw [nd_aC_sp (by omega)]
      · rw [nu_ne (by decide), nu_ne (by decide), nu_ne (by decide), nu_ne (by decide), hj 4 (by decide) (by decide)]
        exact a5 i hi
      · rw [nd_aC_P] at hp
        rw [nu_ne (by decide), nu_ne (by decide), nu_ne (by decide), nu_ne (by decide), hu p hp, nd_aC_U hw]
    | succ w ih =>
      intro i τ x2 hi h2 hj hs1 hs2 hu
      subst h2
      have e := hj 1 (by decide) (by decide)
      have e1 : τ 1 0 = nd_n D := by rw [e]; exact a1
      refine bk3_49 ⟨by omega, by omega, fun q => by omega, fun _ => ⟨by omega, ?_⟩⟩
      simp only [Int.toNat_natCast]
      refine ih (i + 1) _ _ (by omega) (by omega) (fun j b3 b5 => by rw [nu_ne b3]; exact hj j b3 b5) (fun c hc => ?_) (fun c hc hc2 => ?_) (fun p hp => by rw [nu_ne (by decide)]; exact hu p hp)
      · by_cases q : c = i
        · subst q
          rw [nu_at, hs2 c (Nat.le_refl _) (by omega)]
          push_cast
          rfl
        · rw [nu_nj q]; exact hs1 c (by omega)
      · rw [nu_nj (by omega)]; exact hs2 c (by omega) hc2
  have hs0 : ∀ τ : nw_S, (∀ j, j ≠ 5 → τ j = σ j) → (∀ p, p < nd_P D * k → τ 5 p = nd_U D (p / k)) → nw_V G 3 (nw_pv Φ) 49 [some (.inl 1), some (.inr (k : Int)), some (.inr 0), none] [] τ := fun τ hj hu => steps (nd_n D) 0 τ _ (by omega) rfl (fun j _ b => hj j b) (fun c hc => by omega) (fun c _ hc => by rw [hj 3 (by decide)]; exact a4 c hc) hu
  -- the sums, from the last plan down
  have outer : ∀ (i : Nat) (τ : nw_S) (x2 : Int), i ≤ nd_P D → x2 = (i : Int) - 1 → (∀ j, j ≠ 5 → τ j = σ j) → (∀ q, q < i → τ 5 q = nd_U D q) → (∀ q, i * k ≤ q → q < nd_P D * k → τ 5 q = nd_U D (q / k)) → nw_V G 3 (nw_pv Φ) 7 [some (.inl 1), some (.inr (k : Int)), some (.inr x2), none] [] τ := by
    intro i
    induction i with
    | zero =>
      intro τ x2 hi h2 hj hlo hhi
      exact bk3_7 ⟨by omega, fun _ => hs0 τ hj (fun p hp => hhi p (by omega) hp), fun q => by omega⟩
    | succ i ih =>
      intro τ x2 hi h2 hj hlo hhi
      have h2 : x2 = (i : Int) := by omega
      subst h2
      have hik : i ≤ i * k := Nat.le_mul_of_pos_right i hk1
      have hmul : i * k + k ≤ nd_P D * k := by
        have := Nat.mul_le_mul_right k hi
        rw [Nat.succ_mul] at this
        exact this
      have hsucc : (i + 1) * k = i * k + k := Nat.succ_mul i k
      have inner : ∀ (j : Nat) (τ : nw_S) (x3 : Int), j ≤ k → x3 = (j : Int) - 1 → (∀ j, j ≠ 5 → τ j = σ j) → (∀ q, q < i + 1 → τ 5 q = nd_U D q) → (∀ q, i * k + j ≤ q → q < nd_P D * k → τ 5 q = nd_U D (q / k)) → nw_V G 3 (nw_pv Φ) 15 [some (.inl 1), some (.inr (k : Int)), some (.inr (i : Int)), some (.inr x3)] [] τ := by
        intro j
        induction j with
        | zero =>
          intro τ x3 hj0 h3 hj hlo hhi
          exact bk3_15 ⟨by omega, fun _ => ih τ _ (by omega) (by omega) hj (fun q hq => hlo q (by omega)) (fun q hq hq2 => hhi q (by omega) hq2), fun q => by omega⟩
        | succ j jh =>
          intro τ x3 hj0 h3 hj hlo hhi
          have h3 : x3 = (j : Int) := by omega
          subst h3
          have ecast : ((i : Int) * (k : Int) + (j : Int)) = ((i * k + j : Nat) : Int) := by push_cast; rfl
          have ediv : (i * k + j) / k = i := by
            rw [Nat.mul_comm, Nat.mul_add_div hk1, Nat.div_eq_of_lt (by omega), Nat.add_zero]
          refine bk3_15 ⟨by omega, fun q => by omega, fun _ => ?_⟩
          rw [ecast]
          simp only [Int.toNat_natCast]
          refine ⟨by omega, by omega, jh _ _ (by omega) (by omega) (fun l hl => by rw [nu_ne hl]; exact hj l hl) (fun q hq => ?_) (fun q hq hq2 => ?_)⟩
          · by_cases y : q = i * k + j
            · subst y
              rw [nu_at, hlo i (by omega), show i * k + j = i from by omega]
            · rw [nu_nj y]; exact hlo q hq
          · by_cases y : q = i * k + j
            · subst y
              rw [nu_at, ediv, hlo i (by omega)]
            · rw [nu_nj y]; exact hhi q (by omega) hq2
      exact bk3_7 ⟨by omega, fun q => by omega, fun _ => inner k τ _ (Nat.le_refl _) (by omega) hj hlo (fun q hq hq2 => hhi q (by omega) hq2)⟩
  refine nw_TV_of (by decide) (Nat.le_of_ble_eq_true rfl) (bk3_0 ?_)
  rw [a2]
  exact outer (nd_P D) σ _ (Nat.le_refl _) rfl (fun _ _ => rfl) hS (fun q hq hq2 => by omega)
end NC10
