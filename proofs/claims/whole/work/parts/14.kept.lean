section NC2
variable {G : nw_G} {σ : nw_S} {D : nd_D}
theorem nb_r (x : Int32) : nw_r x.toInt := ⟨x.le_toInt, x.toInt_lt⟩
theorem nb_rand (a b : Int) : nw_r (nw_and a b) := nb_r _
theorem nd_sm_le {x : Nat → Nat} : ∀ n : Nat, (∀ c, c < n → x c < 6) → 0 ≤ nd_sm x n ∧ nd_sm x n ≤ 5 * n
  | 0, _ => by simp [nd_sm]
  | n + 1, h => by
    obtain ⟨h1, h2⟩ := nd_sm_le n (fun c hc => h c (by omega))
    have h3 := h n (by omega)
    unfold nd_sm
    omega
theorem nd_ct_le {x : Nat → Nat} {a : Int} : ∀ n : Nat, 0 ≤ nd_ct x a n ∧ nd_ct x a n ≤ n
  | 0 => by simp [nd_ct]
  | n + 1 => by
    obtain ⟨h1, h2⟩ := nd_ct_le (x := x) (a := a) n
    unfold nd_ct
    split <;> omega
theorem c20 {Φ : Int → nw_S → Prop} {x : Nat → Nat} {n : Nat} (hn : n ≤ 5) (hx : ∀ c, c < n → σ 15 c = x c ∧ x c < 6) {x0 x2 : Int} (h0 : nw_r x0) (h2 : x2 = n) (h : Φ (nd_ct x x0 n) σ) : nw_TI G 20 [.inr x0, .inl 15, .inr x2] σ Φ := by
  subst h2
  have key : ∀ (k i : Nat) (x3 x4 : Int), i + k = n → x4 = i → x3 = nd_ct x x0 i → nw_V G 20 (nw_pi Φ) 5 [some (.inr x0), some (.inl 15), some (.inr (n : Int)), some (.inr x3), some (.inr x4)] [] σ := by
    intro k
    induction k with
    | zero =>
      intro i x3 x4 hi h4 h3
      subst h4
      refine bk20_5 ⟨by omega, by omega, fun _ => ?_, fun q => by omega⟩
      rw [h3, show i = n from by omega]
      exact h
    | succ k ih =>
      intro i x3 x4 hi h4 h3
      subst h4
      obtain ⟨e, l⟩ := hx i (by omega)
      refine bk20_5 ⟨by omega, by omega, fun q => by omega, fun _ => ⟨by omega, ?_⟩⟩
      simp only [Int.toNat_natCast]
      rw [e]
      refine ⟨by omega, h0, fun q => ih (i + 1) _ _ (by omega) (by omega) ?_, fun q => ih (i + 1) _ _ (by omega) (by omega) ?_⟩
      · simp [nd_ct, q, h3]
      · simp [nd_ct, q, h3]
  exact nw_TI_of (by decide) (Nat.le_of_ble_eq_true rfl) (bk20_0 (key n 0 _ _ (by omega) rfl rfl))
theorem c21 {Φ : Int → nw_S → Prop} {x : Nat → Nat} {n : Nat} (hn : n ≤ 5) (hx : ∀ c, c < n → σ 15 c = x c ∧ x c < 6) {x1 : Int} (h1 : x1 = n) (h : Φ (nd_sm x n) σ) : nw_TI G 21 [.inl 15, .inr x1] σ Φ := by
  subst h1
  have key : ∀ (k i : Nat) (x2 x3 : Int), i + k = n → x3 = i → x2 = nd_sm x i → nw_V G 21 (nw_pi Φ) 4 [some (.inl 15), some (.inr (n : Int)), some (.inr x2), some (.inr x3)] [] σ := by
    intro k
    induction k with
    | zero =>
      intro i x2 x3 hi h3 h2
      subst h3
      refine bk21_4 ⟨by omega, by omega, fun _ => ?_, fun q => by omega⟩
      rw [h2, show i = n from by omega]
      exact h
    | succ k ih =>
      intro i x2 x3 hi h3 h2
      subst h3
      obtain ⟨e, l⟩ := hx i (by omega)
      refine bk21_4 ⟨by omega, by omega, fun q => by omega, fun _ => ⟨by omega, ih (i + 1) _ _ (by omega) (by omega) ?_⟩⟩
      simp only [Int.toNat_natCast]
      rw [e, h2]
      rfl
  exact nw_TI_of (by decide) (Nat.le_of_ble_eq_true rfl) (bk21_0 (key n 0 _ _ (by omega) rfl rfl))
set_option maxHeartbeats 4000000 in
theorem c19 {Φ : Int → nw_S → Prop} (hw : nd_wf D) (hC : nc_ru D σ) {x : Nat → Nat} (hx : ∀ c, c < nd_n D → σ 15 c = x c ∧ x c < 6) {x1 x3 : Int} {r : Nat} (h1 : x1 = r) (hr : r < nd_r D) (h3 : x3 = nd_n D) (ht : nd_kp (nd_n D) x (fun i => nd_f D i r) = true → Φ 1 σ) (hf : nd_kp (nd_n D) x (fun i => nd_f D i r) = false → Φ 0 σ) : nw_TI G 19 [.inl 6, .inr x1, .inl 15, .inr x3] σ Φ := by
  subst h1
  subst h3
  have e0 : σ 7 r = nd_f D 0 r := hC.2 0 r (by omega) hr
  have e1 : σ 8 r = nd_f D 1 r := hC.2 1 r (by omega) hr
  have e2 : σ 9 r = nd_f D 2 r := hC.2 2 r (by omega) hr
  have e3 : σ 10 r = nd_f D 3 r := hC.2 3 r (by omega) hr
  have hok := hw.2.2.2.2.2 r hr
  dsimp only [nd_ok] at hok
  obtain ⟨k1, k2, k3, k4, k5, k6, k7, -, -⟩ := hok
  have r1 := k1 1 (by omega)
  have r2 := k1 2 (by omega)
  have r3 := k1 3 (by omega)
  have hn := hw.1
  have hR := hw.2.2.2.2.1
  have hsm := nd_sm_le (x := x) (nd_n D) (fun c hc => (hx c hc).2)
  have hct := nd_ct_le (x := x) (a := nd_f D 1 r) (nd_n D)
  have ha : nd_f D 0 r ≤ 5 → σ 15 (nd_f D 1 r).toNat = x (nd_f D 1 r).toNat ∧ x (nd_f D 1 r).toNat < 6 ∧ 0 ≤ nd_f D 1 r ∧ nd_f D 1 r < 5 := fun q => by
    have := k3 q
    have h := hx (nd_f D 1 r).toNat (by omega)
    exact ⟨h.1, h.2, by omega, by omega⟩
  have hb : 1 ≤ nd_f D 0 r → nd_f D 0 r ≤ 5 → σ 15 (nd_f D 2 r).toNat = x (nd_f D 2 r).toNat ∧ x (nd_f D 2 r).toNat < 6 ∧ 0 ≤ nd_f D 2 r ∧ nd_f D 2 r < 5 := fun q q' => by
    have := k4 q q'
    have h := hx (nd_f D 2 r).toNat (by omega)
    exact ⟨h.1, h.2, by omega, by omega⟩
  refine nw_TI_of (by decide) (Nat.le_of_ble_eq_true rfl) (bk19_0 ?_)
  simp only [Int.toNat_natCast, e0, e1, e2, e3]
  refine ⟨by omega, k1 0 (by omega), fun q => ?_, fun q => ?_, fun q => ?_, fun q => ?_, fun q => ?_, fun q => ?_, fun q => ?_, fun q => ?_, fun q => ?_⟩
  · have q8 : nd_f D 0 r = 8 := by omega
    refine c21 hn hx rfl ⟨by omega, r1, fun q2 => hf ?_, fun q2 => ⟨r2, fun q3 => hf ?_, fun q3 => ht ?_⟩⟩
    · simp [nd_kp, q8]; omega
    · simp [nd_kp, q8]; omega
    · simp [nd_kp, q8]; omega
  · obtain ⟨a1, a2, a3, a4⟩ := ha (by omega)
    rw [a1]
    refine ⟨by omega, nb_rand _ _, fun q2 => hf ?_, fun q2 => ht ?_⟩
    · simp [nd_kp, q, q2]
    · simp [nd_kp, q, q2]
  · obtain ⟨a1, a2, a3, a4⟩ := ha (by omega)
    obtain ⟨b1, b2, b3, b4⟩ := hb (by omega) (by omega)
    rw [a1, b1]
    refine ⟨by omega, by omega, by omega, by omega, fun q2 => hf ?_, fun q2 => ht ?_⟩
    · simp [nd_kp, q]; omega
    · simp [nd_kp, q]; omega
  · obtain ⟨a1, a2, a3, a4⟩ := ha (by omega)
    obtain ⟨b1, b2, b3, b4⟩ := hb (by omega) (by omega)
    rw [a1, b1]
    refine ⟨by omega, by omega, by omega, by omega, fun q2 => hf ?_, fun q2 => ht ?_⟩
    · simp [nd_kp, q]; omega
    · simp [nd_kp, q]; omega
  · obtain ⟨a1, a2, a3, a4⟩ := ha (by omega)
    obtain ⟨b1, b2, b3, b4⟩ := hb (by omega) (by omega)
    have := k6 q
    rw [a1, b1]
    refine ⟨by omega, by omega, by omega, by omega, fun q2 => hf ?_, fun q2 => ht ?_⟩
    · simp [nd_kp, q]; omega
    · simp [nd_kp, q]; omega
  · obtain ⟨a1, a2, a3, a4⟩ := ha (by omega)
    obtain ⟨b1, b2, b3, b4⟩ := hb (by omega) (by omega)
    rw [a1, b1]
    refine ⟨by omega, by omega, by omega, ?_, r3, fun q2 => hf ?_, fun q2 => ht ?_⟩
    · split <;> omega
    · simp [nd_kp, q]
      split at q2 <;> omega
    · simp [nd_kp, q]
      split at q2 <;> omega
  · obtain ⟨a1, a2, a3, a4⟩ := ha (by omega)
    obtain ⟨b1, b2, b3, b4⟩ := hb (by omega) (by omega)
    have := k7 q
    rw [a1, b1]
    refine ⟨by omega, by omega, by omega, by omega, fun q2 => ht ?_, fun q2 => ⟨by omega, by omega, by omega, fun q3 => hf ?_, fun q3 => ht ?_⟩⟩
    · simp [nd_kp, q]; omega
    · simp [nd_kp, q]; omega
    · simp [nd_kp, q]; omega
  · refine c20 hn hx r1 rfl ⟨by omega, r3, fun q2 => hf ?_, fun q2 => ht ?_⟩
    · simp [nd_kp, q]; omega
    · simp [nd_kp, q]; omega
  · refine c20 hn hx r1 rfl ⟨by omega, r3, fun q2 => hf ?_, fun q2 => ht ?_⟩
    · simp [nd_kp, q]; omega
    · simp [nd_kp, q]; omega
set_option maxHeartbeats 4000000 in
theorem c79 {Φ : Int → nw_S → Prop} (hw : nd_wf D) (hC : nc_mo D σ) {x : Nat → Nat} (hx : ∀ c, c < nd_n D → σ 37 c = x c ∧ x c < 6) {x1 : Int} {r : Nat} (h1 : x1 = r) (hr : r < nd_r D) (ht : nd_kp (nd_n D) x (fun i => nd_f D i r) = true → Φ 1 σ) (hf : nd_kp (nd_n D) x (fun i => nd_f D i r) = false → Φ 0 σ) : nw_TI G 79 [.inl 26, .inr x1] σ Φ := by
  subst h1
  have e0 : σ 29 r = nd_f D 0 r := hC.2.2.2.2 0 r (by omega) hr
  have e1 : σ 30 r = nd_f D 1 r := hC.2.2.2.2 1 r (by omega) hr
  have e2 : σ 31 r = nd_f D 2 r := hC.2.2.2.2 2 r (by omega) hr
  have e3 : σ 32 r = nd_f D 3 r := hC.2.2.2.2 3 r (by omega) hr
  have en := hC.1
  have hok := hw.2.2.2.2.2 r hr
  dsimp only [nd_ok] at hok
  obtain ⟨k1, k2, k3, k4, k5, k6, k7, -, -⟩ := hok
  have r1 := k1 1 (by omega)
  have r2 := k1 2 (by omega)
  have r3 := k1 3 (by omega)
  have hn := hw.1
  have hR := hw.2.2.2.2.1
  have hsm := nd_sm_le (x := x) (nd_n D) (fun c hc => (hx c hc).2)
  have hct := nd_ct_le (x := x) (a := nd_f D 1 r) (nd_n D)
  have ha : nd_f D 0 r ≤ 5 → σ 37 (nd_f D 1 r).toNat = x (nd_f D 1 r).toNat ∧ x (nd_f D 1 r).toNat < 6 ∧ 0 ≤ nd_f D 1 r ∧ nd_f D 1 r < 5 := fun q => by
    have := k3 q
    have h := hx (nd_f D 1 r).toNat (by omega)
    exact ⟨h.1, h.2, by omega, by omega⟩
  have hb : 1 ≤ nd_f D 0 r → nd_f D 0 r ≤ 5 → σ 37 (nd_f D 2 r).toNat = x (nd_f D 2 r).toNat ∧ x (nd_f D 2 r).toNat < 6 ∧ 0 ≤ nd_f D 2 r ∧ nd_f D 2 r < 5 := fun q q' => by
    have := k4 q q'
    have h := hx (nd_f D 2 r).toNat (by omega)
    exact ⟨h.1, h.2, by omega, by omega⟩
  have key : ∀ (k i : Nat) (x5 x6 x7 : Int), i + k = nd_n D → x7 = i → x5 = nd_ct x (nd_f D 1 r) i → x6 = nd_sm x i → nw_V G 79 (nw_pi Φ) 31 [some (.inl 26), some (.inr (r : Int)), some (.inr (nd_f D 1 r)), some (.inr (nd_f D 2 r)), some (.inr (nd_f D 3 r)), some (.inr x5), some (.inr x6), some (.inr x7)] [] σ := by
    intro k
    induction k with
    | zero =>
      intro i x5 x6 x7 hi h7 h5 h6
      subst h7
      have hin : i = nd_n D := by omega
      subst hin
      subst h5
      subst h6
      refine bk79_31 ⟨by omega, by omega, fun _ => ?_, fun q => by omega⟩
      simp only [Int.toNat_natCast, e0]
      refine ⟨by omega, k1 0 (by omega), fun q => ?_, fun q => ?_, fun q => ?_, fun q => ?_, fun q => ?_, fun q => ?_, fun q => ?_, fun q => ?_, fun q => ?_⟩
      · have q8 : nd_f D 0 r = 8 := by omega
        refine ⟨by omega, r1, fun q2 => hf ?_, fun q2 => ⟨r2, fun q3 => hf ?_, fun q3 => ht ?_⟩⟩
        · simp [nd_kp, q8]; omega
        · simp [nd_kp, q8]; omega
        · simp [nd_kp, q8]; omega
      · obtain ⟨a1, a2, a3, a4⟩ := ha (by omega)
        rw [a1]
        refine ⟨by omega, nb_rand _ _, fun q2 => hf ?_, fun q2 => ht ?_⟩
        · simp [nd_kp, q, q2]
        · simp [nd_kp, q, q2]
      · obtain ⟨a1, a2, a3, a4⟩ := ha (by omega)
        obtain ⟨b1, b2, b3, b4⟩ := hb (by omega) (by omega)
        rw [a1, b1]
        refine ⟨by omega, by omega, by omega, by omega, fun q2 => hf ?_, fun q2 => ht ?_⟩
        · simp [nd_kp, q]; omega
        · simp [nd_kp, q]; omega
      · obtain ⟨a1, a2, a3, a4⟩ := ha (by omega)
        obtain ⟨b1, b2, b3, b4⟩ := hb (by omega) (by omega)
        rw [a1, b1]
        refine ⟨by omega, by omega, by omega, by omega, fun q2 => hf ?_, fun q2 => ht ?_⟩
        · simp [nd_kp, q]; omega
        · simp [nd_kp, q]; omega
      · obtain ⟨a1, a2, a3, a4⟩ := ha (by omega)
        obtain ⟨b1, b2, b3, b4⟩ := hb (by omega) (by omega)
        have := k6 q
        rw [a1, b1]
        refine ⟨by omega, by omega, by omega, by omega, fun q2 => hf ?_, fun q2 => ht ?_⟩
        · simp [nd_kp, q]; omega
        · simp [nd_kp, q]; omega
      · obtain ⟨a1, a2, a3, a4⟩ := ha (by omega)
        obtain ⟨b1, b2, b3, b4⟩ := hb (by omega) (by omega)
        rw [a1, b1]
        refine ⟨by omega, by omega, by omega, r3, fun q2 => hf ?_, fun q2 => ⟨by omega, fun q3 => hf ?_, fun q3 => ht ?_⟩⟩
        · simp [nd_kp, q]; omega
        · simp [nd_kp, q]; omega
        · simp [nd_kp, q]; omega
      · obtain ⟨a1, a2, a3, a4⟩ := ha (by omega)
        obtain ⟨b1, b2, b3, b4⟩ := hb (by omega) (by omega)
        have := k7 q
        rw [a1, b1]
        refine ⟨by omega, by omega, by omega, by omega, fun q2 => ht ?_, fun q2 => ⟨by omega, by omega, by omega, fun q3 => hf ?_, fun q3 => ht ?_⟩⟩
        · simp [nd_kp, q]; omega
        · simp [nd_kp, q]; omega
        · simp [nd_kp, q]; omega
      · refine ⟨by omega, r3, fun q2 => hf ?_, fun q2 => ht ?_⟩
        · simp [nd_kp, q]; omega
        · simp [nd_kp, q]; omega
      · refine ⟨by omega, r3, fun q2 => hf ?_, fun q2 => ht ?_⟩
        · simp [nd_kp, q]; omega
        · simp [nd_kp, q]; omega
    | succ k ih =>
      intro i x5 x6 x7 hi h7 h5 h6
      subst h7
      obtain ⟨e, l⟩ := hx i (by omega)
      refine bk79_31 ⟨by omega, by omega, fun q => by omega, fun _ => ⟨by omega, ?_⟩⟩
      simp only [Int.toNat_natCast]
      rw [e]
      refine ⟨by omega, r1, fun q => ih (i + 1) _ _ _ (by omega) (by omega) ?_ ?_, fun q => ih (i + 1) _ _ _ (by omega) (by omega) ?_ ?_⟩
      · simp [nd_ct, q, h5]
      · rw [h6]; rfl
      · simp [nd_ct, q, h5]
      · rw [h6]; rfl
  refine nw_TI_of (by decide) (Nat.le_of_ble_eq_true rfl) (bk79_0 ?_)
  simp only [Int.toNat_natCast, e1, e2, e3]
  exact ⟨by omega, key (nd_n D) 0 _ _ _ (by omega) rfl rfl rfl⟩
end NC2
