section NC17
variable {G : nw_G} {σ : nw_S} {D : nd_D}
theorem nd_cv_t {V : Nat → Prop} {N : Nat} (h : V N) : nd_cv V (N + 1) = nd_cv V N + 1 := by
  show nd_cv V N + @ite Int (V N) (Classical.propDecidable _) 1 0 = _
  rw [if_pos h]
theorem nd_cv_f {V : Nat → Prop} {N : Nat} (h : ¬ V N) : nd_cv V (N + 1) = nd_cv V N := by
  show nd_cv V N + @ite Int (V N) (Classical.propDecidable _) 1 0 = _
  rw [if_neg h, Int.add_zero]
theorem nc_L.skip {V : Nat → Prop} {key : Nat → Int} {N k : Nat} (h : nc_L V key N k σ) (hV : ¬ V N) : nc_L V key (N + 1) k σ := by
  obtain ⟨n, a1, a2, a3, a4, a5, a6⟩ := h
  refine ⟨n, a1, a2, by rw [nd_cv_f hV]; exact a3, fun i hi => ?_, a5, fun s hs hv => ?_⟩
  · obtain ⟨s, b1, b2, b3, b4⟩ := a4 i hi
    exact ⟨s, b1, by omega, b3, b4⟩
  · have : s ≠ N := fun z => hV (z ▸ hv)
    exact a6 s (by omega) hv
/-- a set put in at place a -/
theorem nc_L.ins {V : Nat → Prop} {key : Nat → Int} {N k n a : Nat} {u : nw_S} (e0 : σ k 0 = n) (h924 : n + 1 ≤ 924) (hcv : (n : Int) = nd_cv V N) (hm : ∀ i, i < n → ∃ s : Nat, σ (k + 1) i = s ∧ s < N ∧ V s ∧ σ (k + 2) i = key s) (hs : ∀ i j, i < j → j < n → nd_lt key (σ (k + 1) i).toNat (σ (k + 1) j).toNat) (hc : ∀ s, s < N → V s → ∃ i, i < n ∧ σ (k + 1) i = s) (hV : V N) (ha : a ≤ n) (hend : 0 < a → σ (k + 2) (a - 1) ≤ key N)
    (hgt : ∀ i, a ≤ i → i < n → key N < σ (k + 2) i) (u0 : u k 0 = (n : Int) + 1) (u1 : ∀ i, i < a → u (k + 1) i = σ (k + 1) i ∧ u (k + 2) i = σ (k + 2) i) (u2 : u (k + 1) a = N ∧ u (k + 2) a = key N) (u3 : ∀ i, a ≤ i → i < n → u (k + 1) (i + 1) = σ (k + 1) i ∧ u (k + 2) (i + 1) = σ (k + 2) i) : nc_L V key (N + 1) k u := by
  have kk : ∀ i, i < n → σ (k + 2) i = key (σ (k + 1) i).toNat := fun i hi => by
    obtain ⟨s, b1, b2, b3, b4⟩ := hm i hi
    rw [b1, Int.toNat_natCast]; exact b4
  have mono : ∀ i j, i < j → j < n → σ (k + 2) i ≤ σ (k + 2) j := fun i j hij hj => by
    rw [kk i (by omega), kk j hj]
    rcases hs i j hij hj with y | y
    · omega
    · omega
  refine ⟨n + 1, by rw [u0]; push_cast; rfl, h924, by rw [nd_cv_t hV]; push_cast; omega, fun i hi => ?_, fun i j hij hj => ?_, fun s hsN hv => ?_⟩
  · rcases Nat.lt_trichotomy i a with q | q | q
    · obtain ⟨s, b1, b2, b3, b4⟩ := hm i (by omega)
      exact ⟨s, by rw [(u1 i q).1]; exact b1, by omega, b3, by rw [(u1 i q).2]; exact b4⟩
    · subst q
      exact ⟨N, u2.1, by omega, hV, u2.2⟩
    · obtain ⟨j, rfl⟩ : ∃ j, i = j + 1 := ⟨i - 1, by omega⟩
      obtain ⟨s, b1, b2, b3, b4⟩ := hm j (by omega)
      have := u3 j (by omega) (by omega)
      exact ⟨s, by rw [this.1]; exact b1, by omega, b3, by rw [this.2]; exact b4⟩
  · rcases Nat.lt_trichotomy i a with q | q | q
    · rw [(u1 i q).1]
      rcases Nat.lt_trichotomy j a with y | y | y
      · rw [(u1 j y).1]; exact hs i j hij (by omega)
      · subst y
        rw [u2.1, Int.toNat_natCast]
        obtain ⟨s, b1, b2, b3, b4⟩ := hm i (by omega)
        rw [b1, Int.toNat_natCast]
        have h1 := hend (by omega)
        have h2 : σ (k + 2) i ≤ σ (k + 2) (j - 1) := by
          rcases Nat.lt_or_ge i (j - 1) with z | z
          · exact mono i (j - 1) z (by omega)
          · have : i = j - 1 := by omega
            subst this
            omega
        rw [b4] at h2
        unfold nd_lt
        omega
      · obtain ⟨l, rfl⟩ : ∃ l, j = l + 1 := ⟨j - 1, by omega⟩
        rw [(u3 l (by omega) (by omega)).1]
        exact hs i l (by omega) (by omega)
    · subst q
      obtain ⟨l, rfl⟩ : ∃ l, j = l + 1 := ⟨j - 1, by omega⟩
      rw [(u3 l (by omega) (by omega)).1, u2.1, Int.toNat_natCast]
      left
      rw [← kk l (by omega)]
      exact hgt l (by omega) (by omega)
    · obtain ⟨l, rfl⟩ : ∃ l, j = l + 1 := ⟨j - 1, by omega⟩
      obtain ⟨m, rfl⟩ : ∃ m, i = m + 1 := ⟨i - 1, by omega⟩
      rw [(u3 l (by omega) (by omega)).1, (u3 m (by omega) (by omega)).1]
      exact hs m l (by omega) (by omega)
  · by_cases q : s = N
    · subst q
      exact ⟨a, by omega, u2.1⟩
    · obtain ⟨i, hi, e⟩ := hc s (by omega) hv
      rcases Nat.lt_or_ge i a with y | y
      · exact ⟨i, by omega, by rw [(u1 i y).1]; exact e⟩
      · exact ⟨i + 1, by omega, by rw [(u3 i y hi).1]; exact e⟩
theorem nc_L.cap {V : Nat → Prop} {N k n : Nat} (hV : ∀ s t, V s → V t → s &&& t = s → s = t) (hm : ∀ i, i < n → ∃ s : Nat, σ (k + 1) i = s ∧ s < N ∧ V s) (hd : ∀ i j, i < j → j < n → σ (k + 1) i ≠ σ (k + 1) j) (hVN : V N) (hN : N < 4096) : n + 1 ≤ 924 := by
  refine ns_924 hV (g := fun i => if i < n then (σ (k + 1) i).toNat else N) (fun i hi => ?_) (fun i j hij hj => ?_)
  · try dsimp only
    split
    · rename_i q
      obtain ⟨s, b1, b2, b3⟩ := hm i q
      rw [b1, Int.toNat_natCast]
      exact ⟨b3, by omega⟩
    · exact ⟨hVN, hN⟩
  · try dsimp only
    rw [if_pos (show i < n by omega)]
    obtain ⟨s, b1, b2, b3⟩ := hm i (by omega)
    rw [b1, Int.toNat_natCast]
    split
    · rename_i q
      obtain ⟨t, d1, d2, d3⟩ := hm j q
      rw [d1, Int.toNat_natCast]
      intro e
      apply hd i j hij q
      rw [b1, d1, e]
    · omega
theorem nd_lt_ne {key : Nat → Int} {a b : Nat} (h : nd_lt key a b) : a ≠ b := by
  rintro rfl
  rcases h with h | h
  · omega
  · omega
theorem c9a {Φ : nw_S → Prop} (h : Φ (nw_up σ 20 0 0)) : nw_TV G 9 [.inl 20] σ Φ := nw_TV_of (by decide) (Nat.le_of_ble_eq_true rfl) (bk9_0a h)
theorem c10a {Φ : nw_S → Prop} {V : Nat → Prop} {key : Nat → Int} {N : Nat} (hL : nc_L V key N 20 σ) (hA : ∀ s t, V s → V t → s &&& t = s → s = t) (hV : V N) (hN : N < 4096) (hk : ∀ s, nw_r (key s)) {x1 x2 : Int} (h1 : x1 = N) (h2 : x2 = key N) (h : ∀ u : nw_S, (∀ j, j ≠ 20 → j ≠ 21 → j ≠ 22 → u j = σ j) → nc_L V key (N + 1) 20 u → Φ u) : nw_TV G 10 [.inl 20, .inr x1, .inr x2] σ Φ := by
  subst h1
  subst h2
  obtain ⟨n, e0, l0, hcv, hm, hs, hc⟩ := hL
  have cap : n + 1 ≤ 924 := nc_L.cap (k := 20) hA (fun i hi => by obtain ⟨s, b1, b2, b3, -⟩ := hm i hi; exact ⟨s, b1, b2, b3⟩) (fun i j hij hj e => nd_lt_ne (hs i j hij hj) (by rw [e])) hV hN
  have kr : ∀ i, i < n → nw_r (σ 22 i) := fun i hi => by
    obtain ⟨s, b1, b2, b3, b4⟩ := hm i hi
    have b4 : σ 22 i = key s := b4
    rw [b4]; exact hk s
  have fin : ∀ (a : Nat) (τ : nw_S), a ≤ n → (0 < a → σ 22 (a - 1) ≤ key N) → (∀ j, j ≠ 21 → j ≠ 22 → τ j = σ j) → (∀ i, i < a → τ 21 i = σ 21 i ∧ τ 22 i = σ 22 i) → (∀ i, a ≤ i → i < n → τ 21 (i + 1) = σ 21 i ∧ τ 22 (i + 1) = σ 22 i ∧ key N < σ 22 i) → Φ (nw_up (nw_up (nw_up τ 21 a N) 22 a (key N)) 20 0 (τ 20 0 + 1)) := by
    intro a τ ha hend hj hlo hhi
    refine h _ (fun j b0 b1 b2 => by rw [nu_ne b0, nu_ne b2, nu_ne b1]; exact hj j b1 b2) ?_
    refine nc_L.ins (σ := σ) (k := 20) e0 cap hcv hm hs hc hV ha hend (fun i q q2 => (hhi i q q2).2.2) ?_ (fun i q => ⟨?_, ?_⟩) ⟨?_, ?_⟩ (fun i q q2 => ⟨?_, ?_⟩)
    · rw [nu_at, hj 20 (by decide) (by decide), e0]
    · show nw_up _ 20 0 _ 21 i = σ 21 i
      rw [nu_ne (by decide), nu_ne (by decide), nu_nj (by omega)]; exact (hlo i q).1
    · show nw_up _ 20 0 _ 22 i = σ 22 i
      rw [nu_ne (by decide), nu_nj (by omega), nu_ne (by decide)]; exact (hlo i q).2
    · show nw_up _ 20 0 _ 21 a = _
      rw [nu_ne (by decide), nu_ne (by decide), nu_at]
    · show nw_up _ 20 0 _ 22 a = _
      rw [nu_ne (by decide), nu_at]
    · show nw_up _ 20 0 _ 21 (i + 1) = σ 21 i
      rw [nu_ne (by decide), nu_ne (by decide), nu_nj (by omega)]; exact (hhi i q q2).1
    · show nw_up _ 20 0 _ 22 (i + 1) = σ 22 i
      rw [nu_ne (by decide), nu_nj (by omega), nu_ne (by decide)]; exact (hhi i q q2).2.1
  have key' : ∀ (a : Nat) (τ : nw_S) (x3 : Int), x3 = a → a ≤ n → (∀ j, j ≠ 21 → j ≠ 22 → τ j = σ j) → (∀ i, i < a → τ 21 i = σ 21 i ∧ τ 22 i = σ 22 i) → (∀ i, a ≤ i → i < n → τ 21 (i + 1) = σ 21 i ∧ τ 22 (i + 1) = σ 22 i ∧ key N < σ 22 i) → nw_V G 10 (nw_pv Φ) 16 [some (.inl 20), some (.inr (N : Int)), some (.inr (key N)), some (.inr x3)] [] τ := by
    intro a
    induction a with
    | zero =>
      intro τ x3 h3 ha hj hlo hhi
      subst h3
      refine bk10_16a ⟨by decide, fun _ => ⟨by decide, ?_⟩, fun q => absurd q (by decide)⟩
      exact fin 0 τ ha (fun z => by omega) hj hlo hhi
    | succ a ih =>
      intro τ x3 h3 ha hj hlo hhi
      subst h3
      have ei : (((a + 1 : Nat) : Int) - 1).toNat = a := by omega
      have e2 := hlo a (by omega)
      refine bk10_16a ⟨by omega, fun q => by omega, fun _ => ?_⟩
      rw [ei, e2.1, e2.2, Int.toNat_natCast]
      refine ⟨by omega, kr a (by omega), hk N, fun q => ⟨by omega, fin (a + 1) τ ha (fun _ => q) hj hlo hhi⟩, fun q => ⟨by omega, ih _ _ (by omega) (by omega) (fun j b1 b2 => by rw [nu_ne b2, nu_ne b1]; exact hj j b1 b2) (fun i hi => ?_) (fun i q1 q2 => ?_)⟩⟩
      · refine ⟨?_, ?_⟩
        · rw [nu_ne (by decide), nu_nj (by omega)]; exact (hlo i (by omega)).1
        · rw [nu_nj (by omega), nu_ne (by decide)]; exact (hlo i (by omega)).2
      · by_cases y : i = a
        · subst y
          exact ⟨by rw [nu_ne (by decide), nu_at], by rw [nu_at], q⟩
        · have := hhi i (by omega) q2
          exact ⟨by rw [nu_ne (by decide), nu_nj (by omega)]; exact this.1, by rw [nu_nj (by omega), nu_ne (by decide)]; exact this.2.1, this.2.2⟩
  refine nw_TV_of (by decide) (Nat.le_of_ble_eq_true rfl) (bk10_0a ?_)
  rw [e0]
  exact ⟨by omega, fun _ => key' n σ _ rfl (Nat.le_refl _) (fun _ _ _ => rfl) (fun _ _ => ⟨rfl, rfl⟩) (fun i q q2 => by omega), fun q => by omega⟩
theorem c11a {Φ : Int → nw_S → Prop} {V : Nat → Prop} {key : Nat → Int} {N n : Nat} (e0 : σ 20 0 = n) (l0 : n ≤ 924) {x1 : Int} (h1 : nw_r x1) (h : Φ (if 0 ≤ x1 ∧ x1 < n then σ 21 x1.toNat else -1000004) σ) : nw_TI G 11 [.inl 20, .inr x1] σ Φ := by
  refine nw_TI_of (by decide) (Nat.le_of_ble_eq_true rfl) (bk11_0a ?_)
  rw [e0]
  refine ⟨h1, fun q => ?_, fun q => ⟨by omega, fun q2 => ⟨by omega, ?_⟩, fun q2 => ?_⟩⟩
  · rw [if_neg (by omega)] at h; exact h
  · rw [if_pos ⟨q, q2⟩] at h; exact h
  · rw [if_neg (by omega)] at h; exact h
theorem c9b {Φ : nw_S → Prop} (h : Φ (nw_up σ 23 0 0)) : nw_TV G 9 [.inl 23] σ Φ := nw_TV_of (by decide) (Nat.le_of_ble_eq_true rfl) (bk9_0b h)
theorem c10b {Φ : nw_S → Prop} {V : Nat → Prop} {key : Nat → Int} {N : Nat} (hL : nc_L V key N 23 σ) (hA : ∀ s t, V s → V t → s &&& t = s → s = t) (hV : V N) (hN : N < 4096) (hk : ∀ s, nw_r (key s)) {x1 x2 : Int} (h1 : x1 = N) (h2 : x2 = key N) (h : ∀ u : nw_S, (∀ j, j ≠ 23 → j ≠ 24 → j ≠ 25 → u j = σ j) → nc_L V key (N + 1) 23 u → Φ u) : nw_TV G 10 [.inl 23, .inr x1, .inr x2] σ Φ := by
  subst h1
  subst h2
  obtain ⟨n, e0, l0, hcv, hm, hs, hc⟩ := hL
  have cap : n + 1 ≤ 924 := nc_L.cap (k := 23) hA (fun i hi => by obtain ⟨s, b1, b2, b3, -⟩ := hm i hi; exact ⟨s, b1, b2, b3⟩) (fun i j hij hj e => nd_lt_ne (hs i j hij hj) (by rw [e])) hV hN
  have kr : ∀ i, i < n → nw_r (σ 25 i) := fun i hi => by
    obtain ⟨s, b1, b2, b3, b4⟩ := hm i hi
    have b4 : σ 25 i = key s := b4
    rw [b4]; exact hk s
  have fin : ∀ (a : Nat) (τ : nw_S), a ≤ n → (0 < a → σ 25 (a - 1) ≤ key N) → (∀ j, j ≠ 24 → j ≠ 25 → τ j = σ j) → (∀ i, i < a → τ 24 i = σ 24 i ∧ τ 25 i = σ 25 i) → (∀ i, a ≤ i → i < n → τ 24 (i + 1) = σ 24 i ∧ τ 25 (i + 1) = σ 25 i ∧ key N < σ 25 i) → Φ (nw_up (nw_up (nw_up τ 24 a N) 25 a (key N)) 23 0 (τ 23 0 + 1)) := by
    intro a τ ha hend hj hlo hhi
    refine h _ (fun j b0 b1 b2 => by rw [nu_ne b0, nu_ne b2, nu_ne b1]; exact hj j b1 b2) ?_
    refine nc_L.ins (σ := σ) (k := 23) e0 cap hcv hm hs hc hV ha hend (fun i q q2 => (hhi i q q2).2.2) ?_ (fun i q => ⟨?_, ?_⟩) ⟨?_, ?_⟩ (fun i q q2 => ⟨?_, ?_⟩)
    · rw [nu_at, hj 23 (by decide) (by decide), e0]
    · show nw_up _ 23 0 _ 24 i = σ 24 i
      rw [nu_ne (by decide), nu_ne (by decide), nu_nj (by omega)]; exact (hlo i q).1
    · show nw_up _ 23 0 _ 25 i = σ 25 i
      rw [nu_ne (by decide), nu_nj (by omega), nu_ne (by decide)]; exact (hlo i q).2
    · show nw_up _ 23 0 _ 24 a = _
      rw [nu_ne (by decide), nu_ne (by decide), nu_at]
    · show nw_up _ 23 0 _ 25 a = _
      rw [nu_ne (by decide), nu_at]
    · show nw_up _ 23 0 _ 24 (i + 1) = σ 24 i
      rw [nu_ne (by decide), nu_ne (by decide), nu_nj (by omega)]; exact (hhi i q q2).1
    · show nw_up _ 23 0 _ 25 (i + 1) = σ 25 i
      rw [nu_ne (by decide), nu_nj (by omega), nu_ne (by decide)]; exact (hhi i q q2).2.1
  have key' : ∀ (a : Nat) (τ : nw_S) (x3 : Int), x3 = a → a ≤ n → (∀ j, j ≠ 24 → j ≠ 25 → τ j = σ j) → (∀ i, i < a → τ 24 i = σ 24 i ∧ τ 25 i = σ 25 i) → (∀ i, a ≤ i → i < n → τ 24 (i + 1) = σ 24 i ∧ τ 25 (i + 1) = σ 25 i ∧ key N < σ 25 i) → nw_V G 10 (nw_pv Φ) 16 [some (.inl 23), some (.inr (N : Int)), some (.inr (key N)), some (.inr x3)] [] τ := by
    intro a
    induction a with
    | zero =>
      intro τ x3 h3 ha hj hlo hhi
      subst h3
      refine bk10_16b ⟨by decide, fun _ => ⟨by decide, ?_⟩, fun q => absurd q (by decide)⟩
      exact fin 0 τ ha (fun z => by omega) hj hlo hhi
    | succ a ih =>
      intro τ x3 h3 ha hj hlo hhi
      subst h3
      have ei : (((a + 1 : Nat) : Int) - 1).toNat = a := by omega
      have e2 := hlo a (by omega)
      refine bk10_16b ⟨by omega, fun q => by omega, fun _ => ?_⟩
      rw [ei, e2.1, e2.2, Int.toNat_natCast]
      refine ⟨by omega, kr a (by omega), hk N, fun q => ⟨by omega, fin (a + 1) τ ha (fun _ => q) hj hlo hhi⟩, fun q => ⟨by omega, ih _ _ (by omega) (by omega) (fun j b1 b2 => by rw [nu_ne b2, nu_ne b1]; exact hj j b1 b2) (fun i hi => ?_) (fun i q1 q2 => ?_)⟩⟩
      · refine ⟨?_, ?_⟩
        · rw [nu_ne (by decide), nu_nj (by omega)]; exact (hlo i (by omega)).1
        · rw [nu_nj (by omega), nu_ne (by decide)]; exact (hlo i (by omega)).2
      · by_cases y : i = a
        · subst y
          exact ⟨by rw [nu_ne (by decide), nu_at], by rw [nu_at], q⟩
        · have := hhi i (by omega) q2
          exact ⟨by rw [nu_ne (by decide), nu_nj (by omega)]; exact this.1, by rw [nu_nj (by omega), nu_ne (by decide)]; exact this.2.1, this.2.2⟩
  refine nw_TV_of (by decide) (Nat.le_of_ble_eq_true rfl) (bk10_0b ?_)
  rw [e0]
  exact ⟨by omega, fun _ => key' n σ _ rfl (Nat.le_refl _) (fun _ _ _ => rfl) (fun _ _ => ⟨rfl, rfl⟩) (fun i q q2 => by omega), fun q => by omega⟩
theorem c11b {Φ : Int → nw_S → Prop} {V : Nat → Prop} {key : Nat → Int} {N n : Nat} (e0 : σ 23 0 = n) (l0 : n ≤ 924) {x1 : Int} (h1 : nw_r x1) (h : Φ (if 0 ≤ x1 ∧ x1 < n then σ 24 x1.toNat else -1000004) σ) : nw_TI G 11 [.inl 23, .inr x1] σ Φ := by
  refine nw_TI_of (by decide) (Nat.le_of_ble_eq_true rfl) (bk11_0b ?_)
  rw [e0]
  refine ⟨h1, fun q => ?_, fun q => ⟨by omega, fun q2 => ⟨by omega, ?_⟩, fun q2 => ?_⟩⟩
  · rw [if_neg (by omega)] at h; exact h
  · rw [if_pos ⟨q, q2⟩] at h; exact h
  · rw [if_neg (by omega)] at h; exact h
/-- listSets -/
theorem c62 {Φ : nw_S → Prop} (hw : nd_wf D) (hC : nc_al D σ) (hO : nc_po D σ) {x1 : Int} (h1 : x1 = nd_M D 1) (h : ∀ u : nw_S, (∀ j, j < 20 ∨ 26 ≤ j → u j = σ j) → nc_L (nd_cl D) (fun s => nd_bc s 12) (2 ^ nd_r D) 20 u → nc_L (nd_rx D) (nd_C D) (2 ^ nd_r D) 23 u → Φ u) : nw_TV G 62 [.inl 0, .inr x1] σ Φ := by
  subst h1
  have hR := hw.2.2.2.2.1
  have hpw := nd_pw hR
  have hp0 : 0 < 2 ^ nd_r D := Nat.two_pow_pos _
  have hM := (nd_M_lt hw 1).2
  have eR : σ 6 0 = nd_r D := hC.2.1.1
  have kc : ∀ s, nw_r (nd_C D s) := fun s => by have := nd_C_le hw s; omega
  have kb : ∀ s, nw_r (nd_bc s 12) := fun s => by have := nd_bc_in s 12; omega
  have key : ∀ (w s : Nat) (τ : nw_S) (x3 : Int), s + w = 2 ^ nd_r D → x3 = s → (∀ j, j < 20 ∨ 26 ≤ j → τ j = σ j) → nc_L (nd_cl D) (fun s => nd_bc s 12) s 20 τ → nc_L (nd_rx D) (nd_C D) s 23 τ → nw_V G 62 (nw_pv Φ) 24 [some (.inl 0), some (.inr (nd_M D 1 : Int)), some (.inr ((2 ^ nd_r D : Nat) : Int)), some (.inr x3)] [] τ := by
    intro w
    induction w with
    | zero =>
      intro s τ x3 hs h3 hj hA hB
      subst h3
      have hs : s = 2 ^ nd_r D := by omega
      subst hs
      exact bk62_24 ⟨by omega, by omega, fun _ => h τ hj hA hB, fun q => by omega⟩
    | succ w ih =>
      intro s τ x3 hs h3 hj hA hB
      subst h3
      have hsl : s < 2 ^ nd_r D := by omega
      have keep : ∀ u : nw_S, (∀ j, j < 20 ∨ 26 ≤ j → u j = σ j) → nc_ru D u ∧ nc_po D u ∧ u 13 s = nd_C D s := by
        intro u hu
        refine ⟨⟨by rw [hu 6 (by omega)]; exact eR, fun i r hi hr => by rw [hu (7 + i) (by omega)]; exact hC.2.1.2 i r hi hr⟩, fun t ht => by rw [hu 19 (by omega)]; exact hO t ht, ?_⟩
        rw [hu 13 (by omega)]; exact hC.2.2.2.1 s hsl
      have hsub : (nw_and (s : Int) (nw_xor (nd_M D 1 : Int) (-1)) = 0) ↔ s &&& nd_M D 1 = s := by
        rw [nb_dif (by omega) hM, ← ns_difz (by omega)]
        omega
      -- the relaxation of a set, and on
      have rel : ∀ u : nw_S, (∀ j, j < 20 ∨ 26 ≤ j → u j = σ j) → s &&& nd_M D 1 = s → nc_L (nd_cl D) (fun s => nd_bc s 12) (s + 1) 20 u → nc_L (nd_rx D) (nd_C D) s 23 u → nw_TI G 64 [.inl 0, .inr (s : Int), .inr (nd_M D 1 : Int)] u (fun v2 u2 => (nw_r v2) ∧ ((v2 = 0 → nw_V G 62 (nw_pv Φ) 24 [some (.inl 0), some (.inr (nd_M D 1 : Int)), some (.inr ((2 ^ nd_r D : Nat) : Int)), some (.inr ((s : Int) + 1))] [] u2) ∧ (v2 ≠ 0 → (0 ≤ (s : Int) ∧ (s : Int) < 4096) ∧ (nw_TV G 10 [.inl 23, .inr (s : Int), .inr (u2 13 s)] u2 (fun u3 => nw_V G 62 (nw_pv Φ) 24 [some (.inl 0), some (.inr (nd_M D 1 : Int)), some (.inr ((2 ^ nd_r D : Nat) : Int)), some (.inr ((s : Int) + 1))] [] u3))))) := by
        intro u hu hss hA2 hB2
        obtain ⟨k1, k2, k3⟩ := keep u hu
        refine c64 hw k1 k2 rfl rfl hsl hss (fun z => ?_) (fun z => ?_)
        · refine ⟨by decide, fun y => absurd y (by decide), fun _ => ⟨by omega, c10b hB2 (fun a b => nd_rx_anti hw) z (by omega) kc rfl k3 (fun u3 hu3 hB3 => ih (s + 1) u3 _ (by omega) (by omega) (fun j q => ?_) ?_ hB3)⟩⟩
          · rw [hu3 j (by omega) (by omega) (by omega)]; exact hu j q
          · exact hA2.to (hu3 20 (by decide) (by decide) (by decide)) (hu3 21 (by decide) (by decide) (by decide)) (hu3 22 (by decide) (by decide) (by decide))
        · exact ⟨by decide, fun _ => ih (s + 1) u _ (by omega) (by omega) hu hA2 (hB2.skip z), fun y => absurd rfl y⟩
      refine bk62_24 ⟨by omega, by omega, fun q => by omega, fun _ => ⟨nb_rand _ _, fun q => ?_, fun q => ?_⟩⟩
      · have hno : ¬ s &&& nd_M D 1 = s := fun z => q (hsub.mpr z)
        exact ih (s + 1) τ _ (by omega) (by omega) hj (hA.skip (fun z => hno z.1)) (hB.skip (fun z => hno z.1))
      · have hss := hsub.mp q
        obtain ⟨k1, k2, k3⟩ := keep τ hj
        simp only [Int.toNat_natCast]
        refine c63 hw k1 k2 rfl hsl hss (fun z => ?_) (fun z => ?_)
        · refine ⟨by decide, fun y => absurd y (by decide), fun _ => c115 rfl (by omega) (c10a hA (fun a b => nd_cl_anti hw) z (by omega) kb rfl rfl (fun u hu hA2 => rel u (fun j q => ?_) hss hA2 ?_))⟩
          · rw [hu j (by omega) (by omega) (by omega)]; exact hj j q
          · exact hB.to (hu 23 (by decide) (by decide) (by decide)) (hu 24 (by decide) (by decide) (by decide)) (hu 25 (by decide) (by decide) (by decide))
        · exact ⟨by decide, fun _ => rel τ hj hss (hA.skip z) hB, fun y => absurd rfl y⟩
  refine nw_TV_of (by decide) (Nat.le_of_ble_eq_true rfl) (bk62_0 (c9a (c9b (c14 (by rw [nu_ne (by decide), nu_ne (by decide)]; exact eR) (by omega) (key (2 ^ nd_r D) 0 _ _ (by omega) rfl (fun j q => by rw [nu_ne (by omega), nu_ne (by omega)]) ⟨0, ?_, by omega, rfl, fun i hi => by omega, fun i j _ hj => by omega, fun s hs => by omega⟩ ⟨0, ?_, by omega, rfl, fun i hi => by omega, fun i j _ hj => by omega, fun s hs => by omega⟩)))))
  · rw [nu_ne (by decide), nu_at]; rfl
  · rw [nu_at]; rfl
/-- findSets -/
theorem c60 {Φ : nw_S → Prop} (hw : nd_wf D) (hC : nc_st D σ) (h : ∀ u : nw_S, nc_st D u → nc_li D u → (∀ k, 26 ≤ k → u k = σ k) → Φ u) : nw_TV G 60 [.inl 0] σ Φ := by
  refine nw_TV_of (by decide) (Nat.le_of_ble_eq_true rfl) (bk60_0 ⟨?_, fun q => ?_, fun q => ?_⟩)
  · rcases hC.2.2 with e | e
    · rw [e]; decide
    · rw [e.1]; decide
  · rcases hC.2.2 with e | e
    · rw [e] at q; exact absurd q (by decide)
    · exact h σ hC e.2 (fun _ _ => rfl)
  · refine c17 hw hC.1.2.1 (by decide) (c61 hw hC.1 rfl (fun u1 e1 hO => ?_))
    have hC1 : nc_al D u1 := hC.1.to (fun k a b => e1 k (by omega))
    refine c62 hw hC1 hO rfl (fun u2 e2 hA hB => ?_)
    have hli : nc_li D (nw_up u2 0 11 0) := by
      refine ⟨fun s hs => ?_, hA.to (nu_ne (by decide)) (nu_ne (by decide)) (nu_ne (by decide)), hB.to (nu_ne (by decide)) (nu_ne (by decide)) (nu_ne (by decide))⟩
      rw [nu_ne (by decide), e2 19 (by omega)]
      exact hO s hs
    refine h _ ⟨?_, ?_, Or.inr ⟨nu_at, hli⟩⟩ hli (fun k q => ?_)
    · exact hC1.to (fun k a b => by rw [nu_ne (by omega), e2 k (by omega)])
    · rcases hC.2.1 with y | y
      · exact Or.inl (by rw [nu_nj (by decide), e2 0 (by omega), e1 0 (by omega)]; exact y)
      · exact Or.inr ⟨by rw [nu_nj (by decide), e2 0 (by omega), e1 0 (by omega)]; exact y.1, y.2.to (by rw [nu_ne (by decide), e2 16 (by omega), e1 16 (by omega)])⟩
    · rw [nu_ne (by omega), e2 k (by omega), e1 k (by omega)]
/-! an enumeration of sets in their order; the answers -/
def nd_en (V : Nat → Prop) (key : Nat → Int) (g : Nat → Nat) (n : Nat) : Prop := (n : Int) = nd_cv V 4096 ∧ n ≤ 924 ∧ (∀ i, i < n → V (g i) ∧ g i < 4096) ∧ (∀ i j, i < j → j < n → nd_lt key (g i) (g j)) ∧ ∀ s, s < 4096 → V s → ∃ i, i < n ∧ g i = s
theorem nd_cv_up {V : Nat → Prop} {N : Nat} (hV : ∀ s, N ≤ s → ¬ V s) : ∀ M, N ≤ M → nd_cv V M = nd_cv V N
  | 0, h => by rw [show N = 0 from by omega]
  | M + 1, h => by
    by_cases q : N = M + 1
    · rw [q]
    · rw [nd_cv_f (hV M (by omega))]
      exact nd_cv_up hV M (by omega)
theorem ns_lim (hw : nd_wf D) {s : Nat} (h : s &&& nd_M D 1 = s) : s < 2 ^ nd_r D := Nat.lt_of_le_of_lt (by rw [← h]; exact Nat.and_le_right) (nd_M_lt hw 1).1
theorem nc_L.en (hw : nd_wf D) {V : Nat → Prop} {key : Nat → Int} {k : Nat} (hV : ∀ s, V s → s &&& nd_M D 1 = s) (h : nc_L V key (2 ^ nd_r D) k σ) : ∃ (g : Nat → Nat) (n : Nat), nd_en V key g n ∧ σ k 0 = n ∧ ∀ i, i < n → σ (k + 1) i = g i := by
  have hpw := nd_pw hw.2.2.2.2.1
  obtain ⟨n, a1, a2, a3, a4, a5, a6⟩ := h
  refine ⟨fun i => (σ (k + 1) i).toNat, n, ⟨?_, a2, fun i hi => ?_, a5, fun s hs hv => ?_⟩, a1, fun i hi => ?_⟩
  · rw [nd_cv_up (N := 2 ^ nd_r D) (fun s hs hv => by have := ns_lim hw (hV s hv); omega) 4096 hpw]
    exact a3
  · obtain ⟨s, b1, b2, b3, -⟩ := a4 i hi
    dsimp only
    rw [b1, Int.toNat_natCast]
    exact ⟨b3, by omega⟩
  · obtain ⟨i, hi, e⟩ := a6 s (ns_lim hw (hV s hv)) hv
    exact ⟨i, hi, by dsimp only; rw [e, Int.toNat_natCast]⟩
  · obtain ⟨s, b1, -⟩ := a4 i hi
    dsimp only
    rw [b1, Int.toNat_natCast]
def nd_at (g : Nat → Nat) (n : Nat) (i : Int) : Int := if 0 ≤ i ∧ i < n then (g i.toNat : Int) else -1000004
theorem c44 {Φ : Int → nw_S → Prop} (hw : nd_wf D) (hC : nc_st D σ) {x1 : Int} (h1 : nw_r x1) (h : ∀ (u : nw_S) (g : Nat → Nat) (n : Nat), nd_en (nd_cl D) (fun s => nd_bc s 12) g n → nc_st D u → (∀ k, 26 ≤ k → u k = σ k) → Φ (nd_at g n x1) u) : nw_TI G 44 [.inl 0, .inr x1] σ Φ := by
  refine nw_TI_of (by decide) (Nat.le_of_ble_eq_true rfl) (bk44_0 (c60 hw hC (fun u hu hli hk => ?_)))
  obtain ⟨g, n, hen, e0, e1⟩ := hli.2.1.en hw (fun s hs => hs.1)
  refine c11a (V := nd_cl D) (key := fun s => nd_bc s 12) (N := 0) e0 hen.2.1 h1 ?_
  have := h u g n hen hu hk
  unfold nd_at at this
  by_cases q : 0 ≤ x1 ∧ x1 < n
  · rw [if_pos q] at this ⊢
    have e := e1 x1.toNat (by omega)
    have e : u 21 x1.toNat = g x1.toNat := e
    rw [e]; exact this
  · rw [if_neg q] at this ⊢; exact this
theorem c45 {Φ : Int → nw_S → Prop} (hw : nd_wf D) (hC : nc_st D σ) {x1 : Int} (h1 : nw_r x1) (h : ∀ (u : nw_S) (g : Nat → Nat) (n : Nat), nd_en (nd_rx D) (nd_C D) g n → nc_st D u → (∀ k, 26 ≤ k → u k = σ k) → Φ (nd_at g n x1) u) : nw_TI G 45 [.inl 0, .inr x1] σ Φ := by
  refine nw_TI_of (by decide) (Nat.le_of_ble_eq_true rfl) (bk45_0 (c60 hw hC (fun u hu hli hk => ?_)))
  obtain ⟨g, n, hen, e0, e1⟩ := hli.2.2.en hw (fun s hs => hs.1)
  refine c11b (V := nd_rx D) (key := nd_C D) (N := 0) e0 hen.2.1 h1 ?_
  have := h u g n hen hu hk
  unfold nd_at at this
  by_cases q : 0 ≤ x1 ∧ x1 < n
  · rw [if_pos q] at this ⊢
    have e := e1 x1.toNat (by omega)
    have e : u 24 x1.toNat = g x1.toNat := e
    rw [e]; exact this
  · rw [if_neg q] at this ⊢; exact this
/-- count -/
noncomputable def nq_count (D : nd_D) (a : Int) : Int := if a = 0 then nd_n D else if a = 1 then nd_r D else if a = 2 then nd_P D else if a = 3 then (nd_tw D).1 else if a = 4 then (nd_tw D).2.2.2 else if a = 5 then nd_cv (nd_cl D) 4096 else if a = 6 then nd_cv (nd_rx D) 4096 else -1000002
theorem nq_count_5 : nq_count D 5 = nd_cv (nd_cl D) 4096 := by
  unfold nq_count
  rw [if_neg (by decide), if_neg (by decide), if_neg (by decide), if_neg (by decide), if_neg (by decide), if_pos rfl]
theorem nq_count_6 : nq_count D 6 = nd_cv (nd_rx D) 4096 := by
  unfold nq_count
  rw [if_neg (by decide), if_neg (by decide), if_neg (by decide), if_neg (by decide), if_neg (by decide), if_neg (by decide), if_pos rfl]
theorem c33 {Φ : Int → nw_S → Prop} (hw : nd_wf D) (hC : nc_st D σ) {x1 : Int} (h1 : nw_r x1) (h : ∀ u : nw_S, nc_st D u → (∀ k, 26 ≤ k → u k = σ k) → Φ (nq_count D x1) u) : nw_TI G 33 [.inl 0, .inr x1] σ Φ := by
  refine nw_TI_of (by decide) (Nat.le_of_ble_eq_true rfl) (bk33_0 ⟨h1, fun q => ?_, fun q => ?_, fun q => ?_, fun q => ?_, fun q => ?_, fun q => ?_, fun q => ?_, fun q => ?_⟩)
  · rw [show nq_count D x1 = -1000002 from by unfold nq_count; rw [if_neg (by omega), if_neg (by omega), if_neg (by omega), if_neg (by omega), if_neg (by omega), if_neg (by omega), if_neg (by omega)]] at h
    exact h σ hC (fun _ _ => rfl)
  · subst q; rw [hC.1.1.1]; exact h σ hC (fun _ _ => rfl)
  · subst q; rw [hC.1.2.1.1]; exact h σ hC (fun _ _ => rfl)
  · subst q; rw [hC.1.1.2.1]; exact h σ hC (fun _ _ => rfl)
  · subst q
    refine c58 hw hC.1 hC.2.1 (fun u e e0 e5 ht => ?_)
    rw [ht.1]
    exact h u (hC.whole e e0 e5 ht) (fun k q => e k (by omega) (by omega))
  · subst q
    refine c58 hw hC.1 hC.2.1 (fun u e e0 e5 ht => ?_)
    rw [ht.2.2.2]
    exact h u (hC.whole e e0 e5 ht) (fun k q => e k (by omega) (by omega))
  · subst q
    refine c60 hw hC (fun u hu hli hk => ?_)
    obtain ⟨g, n, hen, e0, -⟩ := hli.2.1.en hw (fun s hs => hs.1)
    rw [e0, hen.1, ← nq_count_5]
    exact h u hu hk
  · subst q
    refine c60 hw hC (fun u hu hli hk => ?_)
    obtain ⟨g, n, hen, e0, -⟩ := hli.2.2.en hw (fun s hs => hs.1)
    rw [e0, hen.1, ← nq_count_6]
    exact h u hu hk
/-- clash: one rule after the other -/
noncomputable def nd_lf (D : nd_D) : Nat → Nat
  | 0 => nd_M D 1
  | r + 1 => @ite Nat (nd_can D (nd_lf D r &&& (4095 ^^^ 2 ^ r))) (Classical.propDecidable _) (nd_lf D r) (nd_lf D r &&& (4095 ^^^ 2 ^ r))
theorem nd_lf_t {r : Nat} (h : nd_can D (nd_lf D r &&& (4095 ^^^ 2 ^ r))) : nd_lf D (r + 1) = nd_lf D r := if_pos h
theorem nd_lf_f {r : Nat} (h : ¬ nd_can D (nd_lf D r &&& (4095 ^^^ 2 ^ r))) : nd_lf D (r + 1) = nd_lf D r &&& (4095 ^^^ 2 ^ r) := if_neg h
theorem nd_lf_le : ∀ r, nd_lf D r ≤ nd_M D 1
  | 0 => Nat.le_refl _
  | r + 1 => by
    have ih := nd_lf_le r
    rcases Classical.em (nd_can D (nd_lf D r &&& (4095 ^^^ 2 ^ r))) with q | q
    · rw [nd_lf_t q]; exact ih
    · rw [nd_lf_f q]; exact Nat.le_trans Nat.and_le_left ih
noncomputable def nq_clash (D : nd_D) : Int := nd_it (nd_can D (nd_M D 1)) 0 (nd_lf D (nd_r D))
theorem c43 {Φ : Int → nw_S → Prop} (hw : nd_wf D) (hC : nc_st D σ) (h : ∀ u : nw_S, nc_st D u → (∀ k, 26 ≤ k → u k = σ k) → Φ (nq_clash D) u) : nw_TI G 43 [.inl 0] σ Φ := by
  have hR := hw.2.2.2.2.1
  have hM := nd_M_lt hw 1
  have hpw := nd_pw hR
  refine nw_TI_of (by decide) (Nat.le_of_ble_eq_true rfl) (bk43_0 (c60 hw hC (fun u hu hli hk => c17 hw hu.1.2.1 (by decide) ?_)))
  have hO := hli.1
  simp only [Int.toNat_natCast]
  have key : ∀ (w r : Nat) (x1 x2 : Int), ¬ nd_can D (nd_M D 1) → r + w = nd_r D → x2 = r → x1 = (nd_lf D r : Nat) → nw_V G 43 (nw_pi Φ) 26 [some (.inl 0), some (.inr x1), some (.inr x2), none] [] u := by
    intro w
    induction w with
    | zero =>
      intro r x1 x2 hno hr h2 h1
      subst h2
      subst h1
      have hr : r = nd_r D := by omega
      subst hr
      have e := hu.1.2.1.1
      rw [nq_clash, nd_it_f hno] at h
      exact bk43_26 ⟨by omega, by omega, fun _ => h u hu hk, fun q => by omega⟩
    | succ w ih =>
      intro r x1 x2 hno hr h2 h1
      subst h2
      subst h1
      have e := hu.1.2.1.1
      have h2r := nd_bit (r := r) (by omega)
      have hlf := nd_lf_le (D := D) r
      have hd : nd_lf D r &&& (4095 ^^^ 2 ^ r) < 2 ^ nd_r D := Nat.lt_of_le_of_lt (Nat.le_trans Nat.and_le_left hlf) hM.1
      refine bk43_26 ⟨by omega, by omega, fun q => by omega, fun _ => ?_⟩
      rw [nb_shl (by omega), nb_dif (by omega) h2r]
      simp only [Int.toNat_natCast]
      exact ⟨by omega, nc_tr.r (hO _ hd), fun q => ih (r + 1) _ _ hno (by omega) (by omega) (by rw [nd_lf_t (nc_tr.t (hO _ hd) q)]), fun q => ih (r + 1) _ _ hno (by omega) (by omega) (by rw [nd_lf_f (nc_tr.f (hO _ hd) q)])⟩
  refine ⟨by omega, nc_tr.r (hO _ hM.1), fun q => key (nd_r D) 0 _ _ (nc_tr.f (hO _ hM.1) q) (by omega) rfl rfl, fun q => ?_⟩
  rw [nq_clash, nd_it_t (nc_tr.t (hO _ hM.1) q)] at h
  exact h u hu hk
end NC17
