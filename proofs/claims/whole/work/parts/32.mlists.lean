section NC19
variable {G : nw_G} {σ : nw_S} {D : nd_D}
/-- the least one seen so far among those behind -/
def nv_I (V Bh : Nat → Prop) (key : Nat → Int) (s : Nat) (x : Int) : Prop := (x = -1 ∧ ∀ t, t < s → V t → ¬ Bh t) ∨ ∃ a : Nat, x = a ∧ a < s ∧ V a ∧ Bh a ∧ ∀ t, t < s → V t → Bh t → ¬ nd_lt key t a
theorem nv_I.r {V Bh : Nat → Prop} {key : Nat → Int} {s : Nat} {x : Int} (h : nv_I V Bh key s x) (hs : s ≤ 4096) : nw_r x := by
  rcases h with ⟨a, -⟩ | ⟨a, e, b, -⟩ <;> omega
theorem nv_I.skip {V Bh : Nat → Prop} {key : Nat → Int} {s : Nat} {x : Int} (h : nv_I V Bh key s x) (hn : ¬ (V s ∧ Bh s)) : nv_I V Bh key (s + 1) x := by
  rcases h with ⟨a, b⟩ | ⟨a, e, b, c, d, f⟩
  · refine Or.inl ⟨a, fun t ht v w => ?_⟩
    by_cases q : t = s
    · subst q; exact hn ⟨v, w⟩
    · exact b t (by omega) v w
  · refine Or.inr ⟨a, e, by omega, c, d, fun t ht v w => ?_⟩
    by_cases q : t = s
    · subst q; exact absurd ⟨v, w⟩ hn
    · exact f t (by omega) v w
theorem nv_I.new {V Bh : Nat → Prop} {key : Nat → Int} {s : Nat} {x : Int} (h : nv_I V Bh key s x) (hx : x = -1) (hV : V s) (hB : Bh s) : nv_I V Bh key (s + 1) s := by
  rcases h with ⟨a, b⟩ | ⟨a, e, b, c, d, f⟩
  · refine Or.inr ⟨s, rfl, by omega, hV, hB, fun t ht v w => ?_⟩
    by_cases q : t = s
    · subst q; intro z; exact absurd rfl (nd_lt_ne z)
    · exact absurd w (b t (by omega) v)
  · omega
theorem nv_I.keep {V Bh : Nat → Prop} {key : Nat → Int} {s : Nat} {x : Int} (h : nv_I V Bh key s x) (hx : x ≠ -1) (hk : key x.toNat ≤ key s) : nv_I V Bh key (s + 1) x := by
  rcases h with ⟨a, b⟩ | ⟨a, e, b, c, d, f⟩
  · exact absurd a hx
  · subst e
    rw [Int.toNat_natCast] at hk
    refine Or.inr ⟨a, rfl, by omega, c, d, fun t ht v w => ?_⟩
    by_cases q : t = s
    · subst q; intro z; rcases z with z | z <;> omega
    · exact f t (by omega) v w
theorem nv_I.rep {V Bh : Nat → Prop} {key : Nat → Int} {s : Nat} {x : Int} (h : nv_I V Bh key s x) (hx : x ≠ -1) (hV : V s) (hB : Bh s) (hk : key s < key x.toNat) : nv_I V Bh key (s + 1) s := by
  rcases h with ⟨a, b⟩ | ⟨a, e, b, c, d, f⟩
  · exact absurd a hx
  · subst e
    rw [Int.toNat_natCast] at hk
    refine Or.inr ⟨s, rfl, by omega, hV, hB, fun t ht v w => ?_⟩
    by_cases q : t = s
    · subst q; intro z; exact absurd rfl (nd_lt_ne z)
    · intro z
      refine f t (by omega) v w (Or.inl ?_)
      rcases z with z | z <;> omega
theorem nv_I.lt {V Bh : Nat → Prop} {key : Nat → Int} {s : Nat} {x : Int} (h : nv_I V Bh key s x) (hx : x ≠ -1) : x = (x.toNat : Int) ∧ x.toNat < s := by
  rcases h with ⟨a, b⟩ | ⟨a, e, b, c, d, f⟩
  · exact absurd a hx
  · subst e; exact ⟨by rw [Int.toNat_natCast], by rw [Int.toNat_natCast]; exact b⟩
/-- behind the last one -/
def nv_B (key : Nat → Int) (g : Nat → Nat) (k t : Nat) : Prop := ∀ j, k = j + 1 → nd_lt key (g j) t
theorem nd_at_no {g : Nat → Nat} {n : Nat} {x : Int} (h : ¬ (0 ≤ x ∧ x < n)) : nd_at g n x = -1000004 := if_neg h
theorem nd_at_yes {g : Nat → Nat} {n : Nat} {x : Int} (h : 0 ≤ x ∧ x < n) : nd_at g n x = g x.toNat := if_pos h
theorem nd_lt_as {key : Nat → Int} {a b : Nat} (h : nd_lt key a b) (q : nd_lt key b a) : False := by
  rcases h with h | h <;> rcases q with q | q <;> omega
theorem c95 {Φ : Int → nw_S → Prop} (hw : nd_wf D) (hC : nm_st D σ) {x1 x2 : Int} (h1 : nw_r x1) (h2 : x2 = 0 ∨ x2 = 1) {g : Nat → Nat} {n : Nat} (hen : nd_en (nd_vv D x2) (nd_rk D x2) g n) (h : ∀ u : nw_S, nm_st D u → (∀ k, k < 26 → u k = σ k) → Φ (nd_at g n x1) u) : nw_TI G 95 [.inl 26, .inr x1, .inr x2] σ Φ := by
  obtain ⟨-, hn, hg, hlt, hall⟩ := hen
  refine nw_TI_of (by decide) (Nat.le_of_ble_eq_true rfl) (bk95_0 ⟨h1, fun q0 => c89 hw hC (fun u hu hO hk => c82 hw hu.1 (by decide) ?_), fun q => ?_⟩)
  case refine_2 =>
    rw [nd_at_no (by omega)] at h
    exact h σ hC (fun _ _ => rfl)
  have h := h u hu hk
  have rkr : ∀ s, nw_r (nd_rk D x2 s) := fun s => nd_rk_r hw x2 s
  have outer : ∀ (w k : Nat) (x4 x5 : Int), k + w = x1.toNat + 1 → x5 = k → k ≤ n → (k = 0 → x4 = -1) → (∀ j, k = j + 1 → x4 = g j) → nw_V G 95 (nw_pi Φ) 23 [some (.inl 26), some (.inr x1), some (.inr x2), some (.inr (nd_M D 1 : Int)), some (.inr x4), some (.inr x5), none, none, none, none] [] u := by
    intro w
    induction w with
    | zero =>
      intro k x4 x5 hkw h5 hkn h40 h4j
      subst h5
      rw [nd_at_yes (by omega), ← h4j x1.toNat (by omega)] at h
      exact bk95_23 ⟨by omega, h1, fun _ => h, fun q => by omega⟩
    | succ w wh =>
      intro k x4 x5 hkw h5 hkn h40 h4j
      subst h5
      have inner : ∀ (v s : Nat) (x6 x7 : Int), s + v = 4096 → x7 = s → nv_I (nd_vv D x2) (nv_B (nd_rk D x2) g k) (nd_rk D x2) s x6 → nw_V G 95 (nw_pi Φ) 35 [some (.inl 26), some (.inr x1), some (.inr x2), some (.inr (nd_M D 1 : Int)), some (.inr x4), some (.inr (k : Int)), some (.inr x6), some (.inr x7), none, none] [] u := by
        intro v
        induction v with
        | zero =>
          intro s x6 x7 hsv h7 hI
          subst h7
          refine bk95_35 ⟨by omega, fun _ => ⟨hI.r (by omega), fun q => ?_, fun q => ?_⟩, fun q => by omega⟩
          · rcases hI with ⟨a, b⟩ | ⟨a, e, b, c, d, f⟩
            · exact absurd a q
            · obtain ⟨i, hi, ei⟩ := hall a (by omega) c
              have hik : i = k := by
                rcases Nat.lt_trichotomy i k with z | z | z
                · obtain ⟨j, hj⟩ : ∃ j, k = j + 1 := ⟨k - 1, by omega⟩
                  have hb := d j hj
                  rw [← ei] at hb
                  rcases Nat.lt_or_ge i j with y | y
                  · exact (nd_lt_as hb (hlt i j y (by omega))).elim
                  · have : i = j := by omega
                    rw [this] at hb
                    exact absurd rfl (nd_lt_ne hb)
                · exact z
                · have hk2 := hg k (by omega)
                  refine absurd (hlt k i z hi) ?_
                  rw [ei]
                  exact f (g k) (by omega) hk2.1 (fun j hj => hlt j k (by omega) (by omega))
              subst hik
              exact wh (i + 1) _ _ (by omega) (by omega) (by omega) (fun y => by omega) (fun j hj => by
                have : j = i := by omega
                rw [this, ei]; exact e)
          · rcases hI with ⟨a, b⟩ | ⟨a, e, b, c, d, f⟩
            · have hkn2 : ¬ k < n := fun z => by
                have hk2 := hg k z
                exact b (g k) (by omega) hk2.1 (fun j hj => hlt j k (by omega) z)
              rw [nd_at_no (by omega)] at h
              exact h
            · omega
        | succ v ih =>
          intro s x6 x7 hsv h7 hI
          subst h7
          have go : ∀ x, nv_I (nd_vv D x2) (nv_B (nd_rk D x2) g k) (nd_rk D x2) (s + 1) x → nw_V G 95 (nw_pi Φ) 35 [some (.inl 26), some (.inr x1), some (.inr x2), some (.inr (nd_M D 1 : Int)), some (.inr x4), some (.inr (k : Int)), some (.inr x), some (.inr ((s : Int) + 1)), none, none] [] u := fun x hx => ih (s + 1) x _ (by omega) (by omega) hx
          have hr6 := hI.r (by omega)
          have pk : nd_vv D x2 s → nv_B (nd_rk D x2) g k s → (nw_r x6) ∧ ((x6 = (-1) → nw_V G 95 (nw_pi Φ) 35 [some (.inl 26), some (.inr x1), some (.inr x2), some (.inr (nd_M D 1 : Int)), some (.inr x4), some (.inr (k : Int)), some (.inr (s : Int)), some (.inr ((s : Int) + 1)), none, none] [] u) ∧ (x6 ≠ (-1) → nw_TI G 93 [.inl 26, .inr x6, .inr x2] u (fun v5 v5u => (nw_r v5) ∧ ((v5 ≤ nd_rk D x2 s → nw_V G 95 (nw_pi Φ) 35 [some (.inl 26), some (.inr x1), some (.inr x2), some (.inr (nd_M D 1 : Int)), some (.inr x4), some (.inr (k : Int)), some (.inr x6), some (.inr ((s : Int) + 1)), none, none] [] v5u) ∧ (nd_rk D x2 s < v5 → nw_V G 95 (nw_pi Φ) 35 [some (.inl 26), some (.inr x1), some (.inr x2), some (.inr (nd_M D 1 : Int)), some (.inr x4), some (.inr (k : Int)), some (.inr (s : Int)), some (.inr ((s : Int) + 1)), none, none] [] v5u))))) := by
            intro hV hB
            refine ⟨hr6, fun q => go _ (hI.new q hV hB), fun q => ?_⟩
            obtain ⟨a, b⟩ := hI.lt q
            exact c93 hw hu a (by omega) h2 ⟨rkr _, fun y => go _ (hI.keep q y), fun y => go _ (hI.rep q hV hB y)⟩
          have body : nd_vv D x2 s → (nw_r x4) ∧ ((x4 = (-1) → (nw_r x6) ∧ ((x6 = (-1) → nw_V G 95 (nw_pi Φ) 35 [some (.inl 26), some (.inr x1), some (.inr x2), some (.inr (nd_M D 1 : Int)), some (.inr x4), some (.inr (k : Int)), some (.inr (s : Int)), some (.inr ((s : Int) + 1)), none, none] [] u) ∧ (x6 ≠ (-1) → nw_TI G 93 [.inl 26, .inr x6, .inr x2] u (fun v3 v3u => (nw_r (nd_rk D x2 s)) ∧ ((nw_r v3) ∧ ((v3 ≤ nd_rk D x2 s → nw_V G 95 (nw_pi Φ) 35 [some (.inl 26), some (.inr x1), some (.inr x2), some (.inr (nd_M D 1 : Int)), some (.inr x4), some (.inr (k : Int)), some (.inr x6), some (.inr ((s : Int) + 1)), none, none] [] v3u) ∧ (nd_rk D x2 s < v3 → nw_V G 95 (nw_pi Φ) 35 [some (.inl 26), some (.inr x1), some (.inr x2), some (.inr (nd_M D 1 : Int)), some (.inr x4), some (.inr (k : Int)), some (.inr (s : Int)), some (.inr ((s : Int) + 1)), none, none] [] v3u))))))) ∧ (x4 ≠ (-1) → nw_TI G 93 [.inl 26, .inr x4, .inr x2] u (fun v4 u4 => (nw_r (nd_rk D x2 s)) ∧ ((nw_r v4) ∧ ((v4 < nd_rk D x2 s → (nw_r x6) ∧ ((x6 = (-1) → nw_V G 95 (nw_pi Φ) 35 [some (.inl 26), some (.inr x1), some (.inr x2), some (.inr (nd_M D 1 : Int)), some (.inr x4), some (.inr (k : Int)), some (.inr (s : Int)), some (.inr ((s : Int) + 1)), none, none] [] u4) ∧ (x6 ≠ (-1) → nw_TI G 93 [.inl 26, .inr x6, .inr x2] u4 (fun v5 v5u => (nw_r v5) ∧ ((v5 ≤ nd_rk D x2 s → nw_V G 95 (nw_pi Φ) 35 [some (.inl 26), some (.inr x1), some (.inr x2), some (.inr (nd_M D 1 : Int)), some (.inr x4), some (.inr (k : Int)), some (.inr x6), some (.inr ((s : Int) + 1)), none, none] [] v5u) ∧ (nd_rk D x2 s < v5 → nw_V G 95 (nw_pi Φ) 35 [some (.inl 26), some (.inr x1), some (.inr x2), some (.inr (nd_M D 1 : Int)), some (.inr x4), some (.inr (k : Int)), some (.inr (s : Int)), some (.inr ((s : Int) + 1)), none, none] [] v5u)))))) ∧ (nd_rk D x2 s ≤ v4 → nw_TI G 93 [.inl 26, .inr x4, .inr x2] u4 (fun v6 u6 => (nw_r v6) ∧ ((nd_rk D x2 s ≠ v6 → nw_V G 95 (nw_pi Φ) 35 [some (.inl 26), some (.inr x1), some (.inr x2), some (.inr (nd_M D 1 : Int)), some (.inr x4), some (.inr (k : Int)), some (.inr x6), some (.inr ((s : Int) + 1)), none, none] [] u6) ∧ (nd_rk D x2 s = v6 → ((s : Int) ≤ x4 → nw_V G 95 (nw_pi Φ) 35 [some (.inl 26), some (.inr x1), some (.inr x2), some (.inr (nd_M D 1 : Int)), some (.inr x4), some (.inr (k : Int)), some (.inr x6), some (.inr ((s : Int) + 1)), none, none] [] u6) ∧ (x4 < (s : Int) → (nw_r x6) ∧ ((x6 = (-1) → nw_V G 95 (nw_pi Φ) 35 [some (.inl 26), some (.inr x1), some (.inr x2), some (.inr (nd_M D 1 : Int)), some (.inr x4), some (.inr (k : Int)), some (.inr (s : Int)), some (.inr ((s : Int) + 1)), none, none] [] u6) ∧ (x6 ≠ (-1) → nw_TI G 93 [.inl 26, .inr x6, .inr x2] u6 (fun v7 v7u => (nw_r v7) ∧ ((v7 ≤ nd_rk D x2 s → nw_V G 95 (nw_pi Φ) 35 [some (.inl 26), some (.inr x1), some (.inr x2), some (.inr (nd_M D 1 : Int)), some (.inr x4), some (.inr (k : Int)), some (.inr x6), some (.inr ((s : Int) + 1)), none, none] [] v7u) ∧ (nd_rk D x2 s < v7 → nw_V G 95 (nw_pi Φ) 35 [some (.inl 26), some (.inr x1), some (.inr x2), some (.inr (nd_M D 1 : Int)), some (.inr x4), some (.inr (k : Int)), some (.inr (s : Int)), some (.inr ((s : Int) + 1)), none, none] [] v7u))))))))))))))) := by
            intro hV
            rcases Nat.eq_zero_or_pos k with k0 | k0
            · have e4 := h40 k0
              have hB : nv_B (nd_rk D x2) g k s := fun j hj => by omega
              refine ⟨by omega, fun _ => ⟨hr6, fun q => go _ (hI.new q hV hB), fun q => ?_⟩, fun q => absurd e4 q⟩
              obtain ⟨a, b⟩ := hI.lt q
              exact c93 hw hu a (by omega) h2 ⟨rkr _, rkr _, fun y => go _ (hI.keep q y), fun y => go _ (hI.rep q hV hB y)⟩
            · obtain ⟨j, hj⟩ : ∃ j, k = j + 1 := ⟨k - 1, by omega⟩
              have e4 := h4j j hj
              have hgj := hg j (by omega)
              have no : nd_rk D x2 s < nd_rk D x2 (g j) ∨ (nd_rk D x2 s = nd_rk D x2 (g j) ∧ s ≤ g j) → ¬ (nd_vv D x2 s ∧ nv_B (nd_rk D x2) g k s) := fun z y => by
                have := y.2 j hj
                rcases this with t | t <;> omega
              have yes : nd_lt (nd_rk D x2) (g j) s → nv_B (nd_rk D x2) g k s := fun z i hi => by
                have : i = j := by omega
                rw [this]; exact z
              exact ⟨by omega, fun q => by omega, fun _ => c93 hw hu e4 hgj.2 h2 ⟨rkr _, rkr _, fun y => pk hV (yes (Or.inl y)), fun y => c93 hw hu e4 hgj.2 h2 ⟨rkr _, fun z => go _ (hI.skip (no (Or.inl (by omega)))), fun z => ⟨fun t => go _ (hI.skip (no (Or.inr ⟨z, by omega⟩))), fun t => pk hV (yes (Or.inr ⟨z.symm, by omega⟩))⟩⟩⟩⟩
          refine bk95_35 ⟨by omega, fun q => by omega, fun _ => ⟨by omega, fun q => c91 hw hO rfl rfl (by omega) (fun z => ?_) (fun z => ?_), fun q => c90 hw hO rfl rfl (by omega) (fun z => ?_) (fun z => ?_)⟩⟩
          · exact ⟨by decide, fun y => absurd y (by decide), fun _ => c93 hw hu rfl (by omega) h2 (body ⟨fun _ => z, fun y => absurd q y⟩)⟩
          · exact ⟨by decide, fun _ => go _ (hI.skip (fun y => z (y.1.1 q))), fun y => absurd rfl y⟩
          · exact ⟨by decide, fun y => absurd y (by decide), fun _ => c93 hw hu rfl (by omega) h2 (body ⟨fun y => absurd y q, fun _ => z⟩)⟩
          · exact ⟨by decide, fun _ => go _ (hI.skip (fun y => z (y.1.2 q))), fun y => absurd rfl y⟩
      exact bk95_23 ⟨by omega, h1, fun q => by omega, fun _ => inner 4096 0 _ _ (by omega) rfl (Or.inl ⟨rfl, fun t ht => by omega⟩)⟩
  exact outer (x1.toNat + 1) 0 _ _ (by omega) rfl (by omega) (fun _ => rfl) (fun j hj => by omega)
theorem nd_rk_0 : nd_rk D 0 = nd_C D := by
  funext s
  exact if_pos rfl
theorem nd_rk_1 : nd_rk D 1 = fun s => nd_bc s 12 := by
  funext s
  exact if_neg (by decide)
theorem m108 {Φ : Int → nw_S → Prop} (hw : nd_wf D) (hC : nm_st D σ) {x1 : Int} (h1 : nw_r x1) {g : Nat → Nat} {n : Nat} (hen : nd_en (nd_cl D) (fun s => nd_bc s 12) g n) (h : ∀ u : nw_S, nm_st D u → (∀ k, k < 26 → u k = σ k) → Φ (nd_at g n x1) u) : nw_TI G 108 [.inl 26, .inr x1] σ Φ := by
  rw [← nd_vv_1, ← nd_rk_1 (D := D)] at hen
  exact nw_TI_of (by decide) (Nat.le_of_ble_eq_true rfl) (bk108_0 (c95 hw hC h1 (Or.inr rfl) hen h))
theorem m109 {Φ : Int → nw_S → Prop} (hw : nd_wf D) (hC : nm_st D σ) {x1 : Int} (h1 : nw_r x1) {g : Nat → Nat} {n : Nat} (hen : nd_en (nd_rx D) (nd_C D) g n) (h : ∀ u : nw_S, nm_st D u → (∀ k, k < 26 → u k = σ k) → Φ (nd_at g n x1) u) : nw_TI G 109 [.inl 26, .inr x1] σ Φ := by
  rw [← nd_vv_0, ← nd_rk_0 (D := D)] at hen
  exact nw_TI_of (by decide) (Nat.le_of_ble_eq_true rfl) (bk109_0 (c95 hw hC h1 (Or.inl rfl) hen h))
theorem m97 {Φ : Int → nw_S → Prop} (hw : nd_wf D) (hC : nm_st D σ) {x1 : Int} (h1 : nw_r x1) (h : ∀ u : nw_S, nm_st D u → (∀ k, k < 26 → u k = σ k) → Φ (nq_count D x1) u) : nw_TI G 97 [.inl 26, .inr x1] σ Φ := by
  refine nw_TI_of (by decide) (Nat.le_of_ble_eq_true rfl) (bk97_0 ⟨h1, fun q => ?_, fun q => ?_, fun q => ?_, fun q => ?_, fun q => ?_, fun q => ?_, fun q => ?_, fun q => ?_⟩)
  · rw [show nq_count D x1 = -1000002 from by unfold nq_count; rw [if_neg (by omega), if_neg (by omega), if_neg (by omega), if_neg (by omega), if_neg (by omega), if_neg (by omega), if_neg (by omega)]] at h
    exact h σ hC (fun _ _ => rfl)
  · subst q; rw [hC.1.1]; exact h σ hC (fun _ _ => rfl)
  · subst q; rw [hC.1.2.1]; exact h σ hC (fun _ _ => rfl)
  · subst q; exact c77 hw hC.1 (h σ hC (fun _ _ => rfl))
  · subst q
    exact c96 hw hC (Or.inl rfl) (by decide) (fun u a b c => h u ⟨a, Or.inr b⟩ c)
  · subst q
    have hb := nd_tq_in hw (nd_M D 1) (nd_M D 2) 0 0 0
    have hal := nd_tp_alike (S := nd_Se D (nd_M D 1) 0 0 0) (sc := nd_sc D (nd_M D 2)) (nd_sc_le hw _) (nd_P D)
    refine c88 hw hC (fun u hM hF hj hg => ?_)
    have hi := nd_bp_iff (t := nd_tw D) hb.2.2.1.1
    refine ⟨nd_bp_r ⟨hb.2.2.1.1, hb.2.2.1.2.2⟩, fun q => ?_, fun q => ?_⟩
    · have q0 : (nd_tw D).1 ≠ 0 := fun z => q (hi.mpr z)
      rw [hg q0]
      have hb1 : -17000 ≤ (nd_tw D).2.1 ∧ (nd_tw D).2.1 ≤ 5000 := hb.2.1
      refine c96 hw ⟨hM, Or.inr hF⟩ (Or.inr rfl) ⟨by omega, by omega⟩ (fun u2 a b c => ?_)
      · rw [if_neg (by decide)]
        have e : (nd_tw D).2.2.2 = nd_cq (nd_Se D (nd_M D 1) 0 0 0) (nd_sc D (nd_M D 2)) (nd_tw D).2.1 (nd_P D) := (hal.2 q0).1
        rw [← e]
        exact h u2 ⟨a, Or.inr b⟩ (fun k y => by rw [c k y]; exact hj k y)
    · have e : (nd_tw D).2.2.2 = 0 := (hal.1 (hi.mp q)).1
      have h := h u ⟨hM, Or.inr hF⟩ hj
      rw [show nq_count D 4 = (nd_tw D).2.2.2 from rfl, e] at h
      exact h
  · subst q
    refine c94 hw hC (Or.inr rfl) (fun u a b => ?_)
    rw [nd_vv_1, ← nq_count_5]
    exact h u a b
  · subst q
    refine c94 hw hC (Or.inl rfl) (fun u a b => ?_)
    rw [nd_vv_0, ← nq_count_6]
    exact h u a b
theorem m107 {Φ : Int → nw_S → Prop} (hw : nd_wf D) (hC : nm_st D σ) (h : ∀ u : nw_S, nm_st D u → (∀ k, k < 26 → u k = σ k) → Φ (nq_clash D) u) : nw_TI G 107 [.inl 26] σ Φ := by
  have hR := hw.2.2.2.2.1
  have hM := nd_M_lt hw 1
  refine nw_TI_of (by decide) (Nat.le_of_ble_eq_true rfl) (bk107_0 (c89 hw hC (fun u hu hO hk => c82 hw hu.1 (by decide) ?_)))
  simp only [Int.toNat_natCast]
  have e := hu.1.2.1
  have key : ∀ (w r : Nat) (x1 x2 : Int), ¬ nd_can D (nd_M D 1) → r + w = nd_r D → x2 = r → x1 = (nd_lf D r : Nat) → nw_V G 107 (nw_pi Φ) 23 [some (.inl 26), some (.inr x1), some (.inr x2)] [] u := by
    intro w
    induction w with
    | zero =>
      intro r x1 x2 hno hr h2 h1
      subst h2
      subst h1
      have hr : r = nd_r D := by omega
      subst hr
      rw [nq_clash, nd_it_f hno] at h
      exact bk107_23 ⟨by omega, by omega, fun _ => h u hu hk, fun q => by omega⟩
    | succ w ih =>
      intro r x1 x2 hno hr h2 h1
      subst h2
      subst h1
      have h2r := nd_bit (r := r) (by omega)
      have hlf := nd_lf_le (D := D) r
      have hl : nd_lf D r < 4096 := by omega
      have hx := ns_flip_lt (n := 12) (r := r) hl (by omega)
      have hO2 := hO (nd_lf D r ^^^ 2 ^ r) hx
      refine bk107_23 ⟨by omega, by omega, fun q => by omega, fun _ => ⟨nb_rand _ _, ?_⟩⟩
      rw [nb_bit (by omega) (by omega), nb_shl (by omega), nb_xor (by omega) (by omega)]
      simp only [Int.toNat_natCast]
      cases hb : (nd_lf D r).testBit r with
      | false =>
        refine ⟨fun _ => ih (r + 1) _ _ hno (by omega) (by omega) ?_, fun q => absurd q (by decide)⟩
        rcases Classical.em (nd_can D (nd_lf D r &&& (4095 ^^^ 2 ^ r))) with y | y
        · rw [nd_lf_t y]
        · rw [nd_lf_f y, ns_rm0 hl hb]
      | true =>
        refine ⟨fun q => absurd rfl q, fun _ => ⟨by omega, hO2.r, fun q => ih (r + 1) _ _ hno (by omega) (by omega) ?_, fun q => ih (r + 1) _ _ hno (by omega) (by omega) ?_⟩⟩
        · rw [nd_lf_t (by rw [ns_rm1 hl hb]; exact hO2.t q)]
        · rw [nd_lf_f (by rw [ns_rm1 hl hb]; exact hO2.f q), ns_rm1 hl hb]
  refine ⟨by omega, (hO _ hM.2).r, fun q => key (nd_r D) 0 _ _ ((hO _ hM.2).f q) (by omega) rfl rfl, fun q => ?_⟩
  rw [nq_clash, nd_it_t ((hO _ hM.2).t q)] at h
  exact h u hu hk
end NC19
