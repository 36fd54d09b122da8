section NC4
variable {G : nw_G} {σ : nw_S} {D : nd_D}
/-! the best of the plans: seen, greatest, first, alike -/
abbrev nd_T : Type := Int × Int × Int × Int
def nd_see (t : nd_T) (p x : Int) : nd_T := if t.1 = 0 ∨ t.2.1 < x then (t.1 + 1, x, p, 1) else if x = t.2.1 then (t.1 + 1, t.2.1, t.2.2.1, t.2.2.2 + 1) else (t.1 + 1, t.2.1, t.2.2.1, t.2.2.2)
def nd_tp (S : Nat → Bool) (sc : Nat → Int) : Nat → nd_T
  | 0 => (0, 0, 0, 0)
  | i + 1 => if S i then nd_see (nd_tp S sc i) i (sc i) else nd_tp S sc i
/-- the plans that keep the set h; how 0: all of them, 1: that take k for c, 2: that don't -/
def nd_Se (D : nd_D) (h c k how : Nat) (p : Nat) : Bool := decide (nd_B D p &&& h = 0) && (decide (how = 0) || (decide (nd_x D p c = k) == decide (how = 1)))
def nd_tq (D : nd_D) (h s c k how : Nat) : nd_T := nd_tp (nd_Se D h c k how) (nd_sc D s) (nd_P D)
def nd_tw (D : nd_D) : nd_T := nd_tq D (nd_M D 1) (nd_M D 2) 0 0 0
theorem nd_tp_in {S : Nat → Bool} {sc : Nat → Int} (hs : ∀ p, -17000 ≤ sc p ∧ sc p ≤ 5000) : ∀ i : Nat, (0 ≤ (nd_tp S sc i).1 ∧ (nd_tp S sc i).1 ≤ i) ∧ (-17000 ≤ (nd_tp S sc i).2.1 ∧ (nd_tp S sc i).2.1 ≤ 5000) ∧ (0 ≤ (nd_tp S sc i).2.2.1 ∧ ((nd_tp S sc i).1 ≠ 0 → (nd_tp S sc i).2.2.1 < i) ∧ (nd_tp S sc i).2.2.1 ≤ i) ∧ (0 ≤ (nd_tp S sc i).2.2.2 ∧ (nd_tp S sc i).2.2.2 ≤ i)
  | 0 => by simp [nd_tp]
  | i + 1 => by
    obtain ⟨⟨a1, a2⟩, ⟨b1, b2⟩, ⟨c1, c2, c3⟩, ⟨d1, d2⟩⟩ := nd_tp_in (S := S) hs i
    have h := hs i
    unfold nd_tp
    split
    · unfold nd_see
      generalize nd_tp S sc i = t at *
      split
      · dsimp only
        refine ⟨⟨by omega, by omega⟩, ⟨by omega, by omega⟩, ⟨by omega, by omega, by omega⟩, ⟨by omega, by omega⟩⟩
      · rename_i q
        have q1 : t.1 ≠ 0 := fun z => q (Or.inl z)
        have := c2 q1
        split
        · dsimp only
          refine ⟨⟨by omega, by omega⟩, ⟨by omega, by omega⟩, ⟨by omega, by omega, by omega⟩, ⟨by omega, by omega⟩⟩
        · dsimp only
          refine ⟨⟨by omega, by omega⟩, ⟨by omega, by omega⟩, ⟨by omega, by omega, by omega⟩, ⟨by omega, by omega⟩⟩
    · generalize nd_tp S sc i = t at *
      refine ⟨⟨by omega, by omega⟩, ⟨by omega, by omega⟩, ⟨by omega, fun q => by have := c2 q; omega, by omega⟩, ⟨by omega, by omega⟩⟩
def nd_cq (S : Nat → Bool) (sc : Nat → Int) (g : Int) : Nat → Int
  | 0 => 0
  | i + 1 => nd_cq S sc g i + (if S i = true ∧ sc i = g then 1 else 0)
theorem nd_tp_alike {S : Nat → Bool} {sc : Nat → Int} (hs : ∀ p, -17000 ≤ sc p ∧ sc p ≤ 5000) : ∀ i : Nat, ((nd_tp S sc i).1 = 0 → (nd_tp S sc i).2.2.2 = 0 ∧ ∀ g, nd_cq S sc g i = 0) ∧ ((nd_tp S sc i).1 ≠ 0 → (nd_tp S sc i).2.2.2 = nd_cq S sc (nd_tp S sc i).2.1 i ∧ ∀ g, (nd_tp S sc i).2.1 < g → nd_cq S sc g i = 0)
  | 0 => by simp [nd_tp, nd_cq]
  | i + 1 => by
    obtain ⟨h0, h1⟩ := nd_tp_alike (S := S) hs i
    have hp := (nd_tp_in (S := S) hs i).1.1
    unfold nd_tp
    by_cases hS : S i = true
    · rw [if_pos hS]
      unfold nd_see
      generalize nd_tp S sc i = t at *
      split
      · rename_i q
        dsimp only
        refine ⟨fun z => by omega, fun _ => ⟨?_, fun g hg => ?_⟩⟩
        · unfold nd_cq
          rw [if_pos ⟨hS, rfl⟩]
          rcases q with q | q
          · rw [(h0 q).2]; rfl
          · by_cases z : t.1 = 0
            · rw [(h0 z).2]; rfl
            · rw [(h1 z).2 _ q]; rfl
        · unfold nd_cq
          rw [if_neg (fun z => by omega)]
          rcases q with q | q
          · rw [(h0 q).2]; rfl
          · by_cases z : t.1 = 0
            · rw [(h0 z).2]; rfl
            · rw [(h1 z).2 _ (by omega)]; rfl
      · rename_i q
        have q1 : t.1 ≠ 0 := fun z => q (Or.inl z)
        have q2 : ¬ t.2.1 < sc i := fun z => q (Or.inr z)
        obtain ⟨e1, e2⟩ := h1 q1
        split
        · rename_i q3
          dsimp only
          refine ⟨fun z => by omega, fun _ => ⟨?_, fun g hg => ?_⟩⟩
          · unfold nd_cq
            rw [if_pos ⟨hS, q3⟩, e1]
          · unfold nd_cq
            rw [if_neg (fun z => by omega), e2 g hg]; rfl
        · rename_i q3
          dsimp only
          refine ⟨fun z => by omega, fun _ => ⟨?_, fun g hg => ?_⟩⟩
          · unfold nd_cq
            rw [if_neg (fun z => q3 z.2), e1, Int.add_zero]
          · unfold nd_cq
            rw [if_neg (fun z => by omega), e2 g hg]; rfl
    · rw [if_neg hS]
      generalize nd_tp S sc i = t at *
      refine ⟨fun z => ⟨(h0 z).1, fun g => ?_⟩, fun z => ⟨?_, fun g hg => ?_⟩⟩
      · unfold nd_cq; rw [if_neg (fun z => hS z.1), (h0 z).2]; rfl
      · unfold nd_cq; rw [if_neg (fun z => hS z.1), Int.add_zero]; exact (h1 z).1
      · unfold nd_cq; rw [if_neg (fun z => hS z.1), (h1 z).2 g hg]; rfl
theorem nd_tq_in (hw : nd_wf D) (h s c k how : Nat) : (0 ≤ (nd_tq D h s c k how).1 ∧ (nd_tq D h s c k how).1 ≤ 7776) ∧ (-17000 ≤ (nd_tq D h s c k how).2.1 ∧ (nd_tq D h s c k how).2.1 ≤ 5000) ∧ (0 ≤ (nd_tq D h s c k how).2.2.1 ∧ ((nd_tq D h s c k how).1 ≠ 0 → (nd_tq D h s c k how).2.2.1 < nd_P D) ∧ (nd_tq D h s c k how).2.2.1 ≤ 7776) ∧ (0 ≤ (nd_tq D h s c k how).2.2.2 ∧ (nd_tq D h s c k how).2.2.2 ≤ 7776) := by
  have hP := nd_P_le hw
  obtain ⟨⟨a1, a2⟩, ⟨b1, b2⟩, ⟨c1, c2, c3⟩, ⟨d1, d2⟩⟩ := nd_tp_in (S := nd_Se D h c k how) (nd_sc_le hw s) (nd_P D)
  exact ⟨⟨a1, by unfold nd_tq; omega⟩, ⟨b1, b2⟩, ⟨c1, c2, by unfold nd_tq; omega⟩, ⟨d1, by unfold nd_tq; omega⟩⟩
def nc_sc (D : nd_D) (σ : nw_S) : Prop := (∀ p, p < nd_P D → σ 5 p = nd_U D p) ∧ (∀ s, s < 2 ^ nd_r D → σ 13 s = nd_C D s) ∧ ∀ p, p < nd_P D → σ 14 p = nd_B D p
def nc_al (D : nd_D) (σ : nw_S) : Prop := nc_ch D σ ∧ nc_ru D σ ∧ nc_sc D σ
/-- what is read of the class: the cells 1 to 14 -/
theorem nc_al.to {u : nw_S} (h : nc_al D σ) (e : ∀ k, 1 ≤ k → k < 15 → u k = σ k) : nc_al D u := by
  obtain ⟨⟨h1, h2, h3, h4, h5⟩, ⟨h6, h7⟩, h8, h9, h10⟩ := h
  have e1 := e 1 (by omega) (by omega)
  have e6 := e 6 (by omega) (by omega)
  refine ⟨⟨by rw [e1]; exact h1, by rw [e1]; exact h2, fun c hc => ?_, fun c hc => ?_, fun c hc => ?_⟩, ⟨by rw [e6]; exact h6, fun i r hi hr => ?_⟩, fun p hp => ?_, fun s hs => ?_, fun p hp => ?_⟩
  · rw [e 2 (by omega) (by omega)]; exact h3 c hc
  · rw [e 3 (by omega) (by omega)]; exact h4 c hc
  · rw [e 4 (by omega) (by omega)]; exact h5 c hc
  · rw [e (7 + i) (by omega) (by omega)]; exact h7 i r hi hr
  · rw [e 5 (by omega) (by omega)]; exact h8 p hp
  · rw [e 13 (by omega) (by omega)]; exact h9 s hs
  · rw [e 14 (by omega) (by omega)]; exact h10 p hp
def nc_tp (k : Nat) (u : nw_S) (t : nd_T) : Prop := u k 0 = t.1 ∧ u k 1 = t.2.1 ∧ u k 2 = t.2.2.1 ∧ u k 3 = t.2.2.2
theorem nc_tp.to {k : Nat} {u : nw_S} {t : nd_T} (h : nc_tp k σ t) (e : u k = σ k) : nc_tp k u t := by
  unfold nc_tp
  rw [e]
  exact h
theorem c56 {Φ : Int → nw_S → Prop} (hw : nd_wf D) (hC : nc_al D σ) {x1 x2 : Int} {p s : Nat} (h1 : x1 = p) (h2 : x2 = s) (hp : p < nd_P D) (hs : s < 4096) (h : Φ (nd_sc D s p) σ) : nw_TI G 56 [.inl 0, .inr x1, .inr x2] σ Φ := by
  subst h1
  subst h2
  obtain ⟨-, -, e5, e13, e14⟩ := hC
  have hP := nd_P_le hw
  have hB := nd_B_lt hw p
  refine nw_TI_of (by decide) (Nat.le_of_ble_eq_true rfl) (bk56_0 ?_)
  simp only [Int.toNat_natCast]
  have hle : nd_B D p &&& s ≤ nd_B D p := Nat.and_le_left
  rw [e14 p hp, nb_and (by omega) (by omega)]
  simp only [Int.toNat_natCast]
  rw [e5 p hp, e13 _ (by omega)]
  exact ⟨by omega, by omega, h⟩
theorem c23_16 {Φ : nw_S → Prop} (h : ∀ u : nw_S, (∀ j, j ≠ 16 → u j = σ j) → nc_tp 16 u (0, 0, 0, 0) → Φ u) : nw_TV G 23 [.inl 16] σ Φ :=
  nw_TV_of (by decide) (Nat.le_of_ble_eq_true rfl) (bk23_0_16 (h _ (fun j q => by rw [nu_ne q, nu_ne q, nu_ne q, nu_ne q]) ⟨by simp [nw_up], by simp [nw_up], by simp [nw_up], by simp [nw_up]⟩))
theorem c24_16 {Φ : nw_S → Prop} {t : nd_T} {x1 x2 : Int} (ht : nc_tp 16 σ t) (r0 : nw_r t.1) (r1 : nw_r t.2.1) (r2 : nw_r x2) (h : ∀ u : nw_S, (∀ j, j ≠ 16 → u j = σ j) → nc_tp 16 u (nd_see t x1 x2) → Φ u) : nw_TV G 24 [.inl 16, .inr x1, .inr x2] σ Φ := by
  obtain ⟨t0, t1, t2, t3⟩ := ht
  refine nw_TV_of (by decide) (Nat.le_of_ble_eq_true rfl) (bk24_0_16 ?_)
  rw [t0, t1, t3]
  refine ⟨r0, fun q => ?_, fun q => ⟨r2, r1, fun q2 => ⟨fun q3 => ?_, fun q3 => ?_⟩, fun q2 => ?_⟩⟩
  · refine h _ (fun j q => by rw [nu_ne q, nu_ne q, nu_ne q, nu_ne q]) ?_
    unfold nd_see
    rw [if_pos (Or.inl q)]
    exact ⟨by simp [nw_up], by simp [nw_up], by simp [nw_up], by simp [nw_up]⟩
  · refine h _ (fun j q => by rw [nu_ne q]) ?_
    unfold nd_see
    rw [if_neg (fun z => by omega), if_neg q3]
    exact ⟨by simp [nw_up], by simp [nw_up, t1], by simp [nw_up, t2], by simp [nw_up, t3]⟩
  · refine h _ (fun j q => by rw [nu_ne q, nu_ne q]) ?_
    unfold nd_see
    rw [if_neg (fun z => by omega), if_pos q3]
    exact ⟨by simp [nw_up], by simp [nw_up, t1], by simp [nw_up, t2], by simp [nw_up]⟩
  · refine h _ (fun j q => by rw [nu_ne q, nu_ne q, nu_ne q, nu_ne q]) ?_
    unfold nd_see
    rw [if_pos (Or.inr q2)]
    exact ⟨by simp [nw_up], by simp [nw_up], by simp [nw_up], by simp [nw_up]⟩
theorem c23_17 {Φ : nw_S → Prop} (h : ∀ u : nw_S, (∀ j, j ≠ 17 → u j = σ j) → nc_tp 17 u (0, 0, 0, 0) → Φ u) : nw_TV G 23 [.inl 17] σ Φ :=
  nw_TV_of (by decide) (Nat.le_of_ble_eq_true rfl) (bk23_0_17 (h _ (fun j q => by rw [nu_ne q, nu_ne q, nu_ne q, nu_ne q]) ⟨by simp [nw_up], by simp [nw_up], by simp [nw_up], by simp [nw_up]⟩))
theorem c24_17 {Φ : nw_S → Prop} {t : nd_T} {x1 x2 : Int} (ht : nc_tp 17 σ t) (r0 : nw_r t.1) (r1 : nw_r t.2.1) (r2 : nw_r x2) (h : ∀ u : nw_S, (∀ j, j ≠ 17 → u j = σ j) → nc_tp 17 u (nd_see t x1 x2) → Φ u) : nw_TV G 24 [.inl 17, .inr x1, .inr x2] σ Φ := by
  obtain ⟨t0, t1, t2, t3⟩ := ht
  refine nw_TV_of (by decide) (Nat.le_of_ble_eq_true rfl) (bk24_0_17 ?_)
  rw [t0, t1, t3]
  refine ⟨r0, fun q => ?_, fun q => ⟨r2, r1, fun q2 => ⟨fun q3 => ?_, fun q3 => ?_⟩, fun q2 => ?_⟩⟩
  · refine h _ (fun j q => by rw [nu_ne q, nu_ne q, nu_ne q, nu_ne q]) ?_
    unfold nd_see
    rw [if_pos (Or.inl q)]
    exact ⟨by simp [nw_up], by simp [nw_up], by simp [nw_up], by simp [nw_up]⟩
  · refine h _ (fun j q => by rw [nu_ne q]) ?_
    unfold nd_see
    rw [if_neg (fun z => by omega), if_neg q3]
    exact ⟨by simp [nw_up], by simp [nw_up, t1], by simp [nw_up, t2], by simp [nw_up, t3]⟩
  · refine h _ (fun j q => by rw [nu_ne q, nu_ne q]) ?_
    unfold nd_see
    rw [if_neg (fun z => by omega), if_pos q3]
    exact ⟨by simp [nw_up], by simp [nw_up, t1], by simp [nw_up, t2], by simp [nw_up]⟩
  · refine h _ (fun j q => by rw [nu_ne q, nu_ne q, nu_ne q, nu_ne q]) ?_
    unfold nd_see
    rw [if_pos (Or.inr q2)]
    exact ⟨by simp [nw_up], by simp [nw_up], by simp [nw_up], by simp [nw_up]⟩
theorem c23_18 {Φ : nw_S → Prop} (h : ∀ u : nw_S, (∀ j, j ≠ 18 → u j = σ j) → nc_tp 18 u (0, 0, 0, 0) → Φ u) : nw_TV G 23 [.inl 18] σ Φ :=
  nw_TV_of (by decide) (Nat.le_of_ble_eq_true rfl) (bk23_0_18 (h _ (fun j q => by rw [nu_ne q, nu_ne q, nu_ne q, nu_ne q]) ⟨by simp [nw_up], by simp [nw_up], by simp [nw_up], by simp [nw_up]⟩))
theorem c24_18 {Φ : nw_S → Prop} {t : nd_T} {x1 x2 : Int} (ht : nc_tp 18 σ t) (r0 : nw_r t.1) (r1 : nw_r t.2.1) (r2 : nw_r x2) (h : ∀ u : nw_S, (∀ j, j ≠ 18 → u j = σ j) → nc_tp 18 u (nd_see t x1 x2) → Φ u) : nw_TV G 24 [.inl 18, .inr x1, .inr x2] σ Φ := by
  obtain ⟨t0, t1, t2, t3⟩ := ht
  refine nw_TV_of (by decide) (Nat.le_of_ble_eq_true rfl) (bk24_0_18 ?_)
  rw [t0, t1, t3]
  refine ⟨r0, fun q => ?_, fun q => ⟨r2, r1, fun q2 => ⟨fun q3 => ?_, fun q3 => ?_⟩, fun q2 => ?_⟩⟩
  · refine h _ (fun j q => by rw [nu_ne q, nu_ne q, nu_ne q, nu_ne q]) ?_
    unfold nd_see
    rw [if_pos (Or.inl q)]
    exact ⟨by simp [nw_up], by simp [nw_up], by simp [nw_up], by simp [nw_up]⟩
  · refine h _ (fun j q => by rw [nu_ne q]) ?_
    unfold nd_see
    rw [if_neg (fun z => by omega), if_neg q3]
    exact ⟨by simp [nw_up], by simp [nw_up, t1], by simp [nw_up, t2], by simp [nw_up, t3]⟩
  · refine h _ (fun j q => by rw [nu_ne q, nu_ne q]) ?_
    unfold nd_see
    rw [if_neg (fun z => by omega), if_pos q3]
    exact ⟨by simp [nw_up], by simp [nw_up, t1], by simp [nw_up, t2], by simp [nw_up]⟩
  · refine h _ (fun j q => by rw [nu_ne q, nu_ne q, nu_ne q, nu_ne q]) ?_
    unfold nd_see
    rw [if_pos (Or.inr q2)]
    exact ⟨by simp [nw_up], by simp [nw_up], by simp [nw_up], by simp [nw_up]⟩
theorem c57a {Φ : nw_S → Prop} (hw : nd_wf D) (hC : nc_al D σ) {x2 x3 : Int} {hd s : Nat} (h2 : x2 = hd) (h3 : x3 = s) (hh : hd < 4096) (hs : s < 4096) (h : ∀ u : nw_S, (∀ j, j ≠ 16 → u j = σ j) → nc_tp 16 u (nd_tq D hd s 0 0 0) → Φ u) : nw_TV G 57 [.inl 0, .inl 16, .inr x2, .inr x3] σ Φ := by
  subst h2
  subst h3
  have hP := nd_P_le hw
  have key : ∀ (k i : Nat) (τ : nw_S) (x4 : Int), i + k = nd_P D → x4 = i → (∀ j, j ≠ 16 → τ j = σ j) → nc_tp 16 τ (nd_tp (nd_Se D hd 0 0 0) (nd_sc D s) i) → nw_V G 57 (nw_pv Φ) 7 [some (.inl 0), some (.inl 16), some (.inr (hd : Int)), some (.inr (s : Int)), some (.inr x4)] [] τ := by
    intro k
    induction k with
    | zero =>
      intro i τ x4 hi h4 hj ht
      subst h4
      have e : τ 1 1 = nd_P D := by rw [hj 1 (by decide)]; exact hC.1.2.1
      refine bk57_7a ⟨by omega, by omega, fun _ => h τ hj ?_, fun q => by omega⟩
      rw [show i = nd_P D from by omega] at ht
      exact ht
    | succ k ih =>
      intro i τ x4 hi h4 hj ht
      subst h4
      have hT : nc_al D τ := hC.to (fun k _ _ => hj k (by omega))
      have e : τ 1 1 = nd_P D := hT.1.2.1
      have eB := hT.2.2.2.2 i (by omega)
      have hB := nd_B_lt hw i
      have hsc := nd_sc_le hw s i
      have htp := nd_tp_in (S := nd_Se D hd 0 0 0) (nd_sc_le hw s) i
      refine bk57_7a ⟨by omega, by omega, fun q => by omega, fun _ => ⟨by omega, nb_rand _ _, ?_⟩⟩
      simp only [Int.toNat_natCast]
      rw [eB, nb_and (by omega) (by omega)]
      refine ⟨fun q => ih (i + 1) _ _ (by omega) (by omega) hj ?_, fun q => c56 hw hT rfl rfl (by omega) hs (c24_16 ht (by omega) (by omega) (by omega) (fun u hu hu2 => ih (i + 1) _ _ (by omega) (by omega) (fun j qj => by rw [hu j qj]; exact hj j qj) ?_))⟩
      · have : nd_Se D hd 0 0 0 i = false := by simp [nd_Se]; omega
        simp [nd_tp, this]
        exact ht
      · have : nd_Se D hd 0 0 0 i = true := by simp [nd_Se]; omega
        simp [nd_tp, this]
        exact hu2
  exact nw_TV_of (by decide) (Nat.le_of_ble_eq_true rfl) (bk57_0a (c23_16 (fun u hu ht => key (nd_P D) 0 u _ (by omega) rfl hu ht)))
theorem c57b {Φ : nw_S → Prop} (hw : nd_wf D) (hC : nc_al D σ) {x2 x3 : Int} {hd s : Nat} (h2 : x2 = hd) (h3 : x3 = s) (hh : hd < 4096) (hs : s < 4096) (h : ∀ u : nw_S, (∀ j, j ≠ 18 → u j = σ j) → nc_tp 18 u (nd_tq D hd s 0 0 0) → Φ u) : nw_TV G 57 [.inl 0, .inl 18, .inr x2, .inr x3] σ Φ := by
  subst h2
  subst h3
  have hP := nd_P_le hw
  have key : ∀ (k i : Nat) (τ : nw_S) (x4 : Int), i + k = nd_P D → x4 = i → (∀ j, j ≠ 18 → τ j = σ j) → nc_tp 18 τ (nd_tp (nd_Se D hd 0 0 0) (nd_sc D s) i) → nw_V G 57 (nw_pv Φ) 7 [some (.inl 0), some (.inl 18), some (.inr (hd : Int)), some (.inr (s : Int)), some (.inr x4)] [] τ := by
    intro k
    induction k with
    | zero =>
      intro i τ x4 hi h4 hj ht
      subst h4
      have e : τ 1 1 = nd_P D := by rw [hj 1 (by decide)]; exact hC.1.2.1
      refine bk57_7b ⟨by omega, by omega, fun _ => h τ hj ?_, fun q => by omega⟩
      rw [show i = nd_P D from by omega] at ht
      exact ht
    | succ k ih =>
      intro i τ x4 hi h4 hj ht
      subst h4
      have hT : nc_al D τ := hC.to (fun k _ _ => hj k (by omega))
      have e : τ 1 1 = nd_P D := hT.1.2.1
      have eB := hT.2.2.2.2 i (by omega)
      have hB := nd_B_lt hw i
      have hsc := nd_sc_le hw s i
      have htp := nd_tp_in (S := nd_Se D hd 0 0 0) (nd_sc_le hw s) i
      refine bk57_7b ⟨by omega, by omega, fun q => by omega, fun _ => ⟨by omega, nb_rand _ _, ?_⟩⟩
      simp only [Int.toNat_natCast]
      rw [eB, nb_and (by omega) (by omega)]
      refine ⟨fun q => ih (i + 1) _ _ (by omega) (by omega) hj ?_, fun q => c56 hw hT rfl rfl (by omega) hs (c24_18 ht (by omega) (by omega) (by omega) (fun u hu hu2 => ih (i + 1) _ _ (by omega) (by omega) (fun j qj => by rw [hu j qj]; exact hj j qj) ?_))⟩
      · have : nd_Se D hd 0 0 0 i = false := by simp [nd_Se]; omega
        simp [nd_tp, this]
        exact ht
      · have : nd_Se D hd 0 0 0 i = true := by simp [nd_Se]; omega
        simp [nd_tp, this]
        exact hu2
  exact nw_TV_of (by decide) (Nat.le_of_ble_eq_true rfl) (bk57_0b (c23_18 (fun u hu ht => key (nd_P D) 0 u _ (by omega) rfl hu ht)))
def nc_wh (D : nd_D) (σ : nw_S) : Prop := σ 0 5 = 1 ∨ (σ 0 5 = 0 ∧ nc_tp 16 σ (nd_tw D))
theorem c58 {Φ : nw_S → Prop} (hw : nd_wf D) (hC : nc_al D σ) (hW : nc_wh D σ) (h : ∀ u : nw_S, (∀ j, j ≠ 0 → j ≠ 16 → u j = σ j) → (∀ j, j ≠ 5 → u 0 j = σ 0 j) → u 0 5 = 0 → nc_tp 16 u (nd_tw D) → Φ u) : nw_TV G 58 [.inl 0] σ Φ := by
  refine nw_TV_of (by decide) (Nat.le_of_ble_eq_true rfl) (bk58_0 ⟨?_, fun q => ?_, fun q => ?_⟩)
  · rcases hW with e | e
    · rw [e]; decide
    · rw [e.1]; decide
  · rcases hW with e | e
    · rw [e] at q; exact absurd q (by decide)
    · exact h σ (fun _ _ _ => rfl) (fun _ _ => rfl) e.1 e.2
  · refine c17 hw hC.2.1 (by decide) (c17 hw hC.2.1 (by decide) (c57a hw hC rfl rfl (nd_M_lt hw 1).2 (nd_M_lt hw 2).2 (fun u hu ht => h _ (fun j q0 q16 => ?_) (fun j qj => ?_) nu_at (ht.to (nu_ne (by decide))))))
    · rw [nu_ne q0]; exact hu j q16
    · rw [nu_nj qj, hu 0 (by decide)]
set_option maxHeartbeats 1000000 in
theorem c59 {Φ : nw_S → Prop} (hw : nd_wf D) (hC : nc_al D σ) {x1 x2 : Int} {c k : Nat} (h1 : x1 = c) (h2 : x2 = k) (hc : c < nd_n D) (hk : k < nd_m D c) (h : ∀ u : nw_S, (∀ j, j ≠ 17 → j ≠ 18 → u j = σ j) → nc_tp 17 u (nd_tq D (nd_M D 1) (nd_M D 2) c k 1) → nc_tp 18 u (nd_tq D (nd_M D 1) (nd_M D 2) c k 2) → Φ u) : nw_TV G 59 [.inl 0, .inr x1, .inr x2] σ Φ := by
  subst h1
  subst h2
  have hP := nd_P_le hw
  have hh := (nd_M_lt hw 1).2
  have hs := (nd_M_lt hw 2).2
  have hm := hw.2.1 c hc
  have key : ∀ (q i : Nat) (τ : nw_S) (x5 : Int), i + q = nd_P D → x5 = i → (∀ j, j ≠ 17 → j ≠ 18 → τ j = σ j) → nc_tp 17 τ (nd_tp (nd_Se D (nd_M D 1) c k 1) (nd_sc D (nd_M D 2)) i) → nc_tp 18 τ (nd_tp (nd_Se D (nd_M D 1) c k 2) (nd_sc D (nd_M D 2)) i) → nw_V G 59 (nw_pv Φ) 36 [some (.inl 0), some (.inr (c : Int)), some (.inr (k : Int)), some (.inr (nd_M D 1 : Int)), some (.inr (nd_M D 2 : Int)), some (.inr x5), none] [] τ := by
    intro q
    induction q with
    | zero =>
      intro i τ x5 hi h5 hj ht1 ht2
      subst h5
      have e : τ 1 1 = nd_P D := by rw [hj 1 (by decide) (by decide)]; exact hC.1.2.1
      have hi : i = nd_P D := by omega
      subst hi
      exact bk59_36 ⟨by omega, by omega, fun _ => h τ hj ht1 ht2, fun q => by omega⟩
    | succ q ih =>
      intro i τ x5 hi h5 hj ht1 ht2
      subst h5
      have hT : nc_al D τ := hC.to (fun k _ _ => hj k (by omega) (by omega))
      have e : τ 1 1 = nd_P D := hT.1.2.1
      have eB := hT.2.2.2.2 i (by omega)
      have hB := nd_B_lt hw i
      have hsc := nd_sc_le hw (nd_M D 2) i
      have hx := nd_x_lt hw (p := i) hc
      have htp1 := nd_tp_in (S := nd_Se D (nd_M D 1) c k 1) (nd_sc_le hw (nd_M D 2)) i
      have htp2 := nd_tp_in (S := nd_Se D (nd_M D 1) c k 2) (nd_sc_le hw (nd_M D 2)) i
      refine bk59_36 ⟨by omega, by omega, fun q => by omega, fun _ => ⟨by omega, nb_rand _ _, ?_⟩⟩
      simp only [Int.toNat_natCast]
      rw [eB, nb_and (by omega) (by omega)]
      refine ⟨fun q => ih (i + 1) _ _ (by omega) (by omega) hj ?_ ?_, fun q => c5 hw hT.1 rfl rfl (by omega) hc ⟨by omega, by omega, fun q2 => c56 hw hT rfl rfl (by omega) hs (c24_18 ht2 (by omega) (by omega) (by omega) (fun u hu hu2 => ih (i + 1) _ _ (by omega) (by omega) (fun j a b => by rw [hu j b]; exact hj j a b) ?_ ?_)), fun q2 => c56 hw hT rfl rfl (by omega) hs (c24_17 ht1 (by omega) (by omega) (by omega) (fun u hu hu2 => ih (i + 1) _ _ (by omega) (by omega) (fun j a b => by rw [hu j a]; exact hj j a b) ?_ ?_))⟩⟩
      · have : nd_Se D (nd_M D 1) c k 1 i = false := by simp [nd_Se]; intro z; omega
        simp [nd_tp, this]
        exact ht1
      · have : nd_Se D (nd_M D 1) c k 2 i = false := by simp [nd_Se]; intro z; omega
        simp [nd_tp, this]
        exact ht2
      · have : nd_Se D (nd_M D 1) c k 1 i = false := by simp [nd_Se]; omega
        simp [nd_tp, this]
        exact ht1.to (hu 17 (by decide))
      · have : nd_Se D (nd_M D 1) c k 2 i = true := by simp [nd_Se]; omega
        simp [nd_tp, this]
        exact hu2
      · have : nd_Se D (nd_M D 1) c k 1 i = true := by simp [nd_Se]; omega
        simp [nd_tp, this]
        exact hu2
      · have : nd_Se D (nd_M D 1) c k 2 i = false := by simp [nd_Se]; omega
        simp [nd_tp, this]
        exact ht2.to (hu 18 (by decide))
  refine nw_TV_of (by decide) (Nat.le_of_ble_eq_true rfl) (bk59_0 (c17 hw hC.2.1 (by decide) (c17 hw hC.2.1 (by decide) (c23_17 (fun u hu ht => c23_18 (fun u2 hu2 ht2 => key (nd_P D) 0 u2 _ (by omega) rfl (fun j a b => by rw [hu2 j b]; exact hu j a) (ht.to (hu2 17 (by decide))) ht2))))))
end NC4
