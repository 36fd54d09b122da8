section NC11
variable {G : nw_G} {σ : nw_S} {D : nd_D}
theorem nb_and0 (a : Int) : nw_and a 0 = 0 := by
  unfold nw_and
  rw [show Int32.ofInt 0 = 0 from rfl, Int32.and_zero]
  rfl
def nq_choice (D : nd_D) (a : Int) : Int := if 1 ≤ a ∧ a ≤ 6 then (if nd_n D < 5 then nd_n D else -1000003) else -1000002
def nu_choice (D : nd_D) (a : Int) : nd_D := if 1 ≤ a ∧ a ≤ 6 ∧ nd_n D < 5 then nd_aC D a.toNat else D
theorem nu_choice_wf (hw : nd_wf D) (a : Int) : nd_wf (nu_choice D a) := by
  unfold nu_choice
  split
  · rename_i q
    exact nd_aC_wf hw q.2.2 (by omega) (by omega)
  · exact hw
theorem c27 {Φ : Int → nw_S → Prop} (hw : nd_wf D) (hC : nc_st D σ) {x1 : Int} (h1 : nw_r x1) (h : ∀ u : nw_S, nc_st (nu_choice D x1) u → (∀ k, 26 ≤ k → u k = σ k) → Φ (nq_choice D x1) u) : nw_TI G 27 [.inl 0, .inr x1] σ Φ := by
  have hn := hw.1
  have e := hC.1.1.1
  refine nw_TI_of (by decide) (Nat.le_of_ble_eq_true rfl) (bk27_0 ⟨h1, fun q => ?_, fun q => ⟨fun q2 => ⟨by omega, fun q3 => ?_, fun q3 => ?_⟩, fun q2 => ?_⟩⟩)
  · rw [nq_choice, nu_choice, if_neg (by omega), if_neg (by omega)] at h
    exact h σ hC (fun _ _ => rfl)
  · rw [nq_choice, nu_choice, if_pos (by omega), if_pos (by omega), if_pos (by omega)] at h
    have hw' := nd_aC_wf hw (k := x1.toNat) (by omega) (by omega) (by omega)
    refine c3 hw hC.1.1 hC.1.2.2.1 (k := x1.toNat) (by omega) (by omega) (by omega) (by omega) (fun u1 e1 hch hsum => ?_)
    have hru : nc_ru (nd_aC D x1.toNat) u1 := by
      refine ⟨by rw [e1 6 (by decide) (by decide) (by decide) (by decide)]; exact hC.1.2.1.1, fun i r hi hr => ?_⟩
      rw [e1 (7 + i) (by omega) (by omega) (by omega) (by omega)]
      exact hC.1.2.1.2 i r hi hr
    refine c54 hw' hch hru (ρ := 0) rfl (Nat.zero_le _) (fun p hp => ?_) (fun u2 e2 hB => c50 ?_)
    · show nw_and _ ((1 : Int) - 1) = 0
      rw [Int.sub_self]
      exact nb_and0 _
    · have hn1 : nw_up (nw_up u2 0 5 1) 0 11 1 1 0 = ((nd_n D + 1 : Nat) : Int) := by
        rw [nu_ne (by decide), nu_ne (by decide), e2 1 (by decide) (by decide)]
        exact hch.1
      rw [hn1]
      have : (((nd_n D + 1 : Nat) : Int) - 1) = (nd_n D : Int) := by omega
      rw [this]
      refine h _ ⟨?_, Or.inl ?_, Or.inl nu_at⟩ (fun k q => ?_)
      · have hu2 : nc_al (nd_aC D x1.toNat) u2 := by
          obtain ⟨a1, a2, a3, a4, a5⟩ := hch
          refine ⟨⟨by rw [e2 1 (by decide) (by decide)]; exact a1, by rw [e2 1 (by decide) (by decide)]; exact a2, by rw [e2 2 (by decide) (by decide)]; exact a3, by rw [e2 3 (by decide) (by decide)]; exact a4, by rw [e2 4 (by decide) (by decide)]; exact a5⟩, ⟨by rw [e2 6 (by decide) (by decide)]; exact hru.1, fun i r hi hr => by rw [e2 (7 + i) (by omega) (by omega)]; exact hru.2 i r hi hr⟩, by rw [e2 5 (by decide) (by decide)]; exact hsum, fun s hs => ?_, hB⟩
          rw [e2 13 (by decide) (by decide), e1 13 (by decide) (by decide) (by decide) (by decide)]
          exact hC.1.2.2.2.1 s hs
        exact hu2.to (fun k a b => by rw [nu_ne (by omega), nu_ne (by omega)])
      · rw [nu_nj (by decide)]; exact nu_at
      · rw [nu_ne (by omega), nu_ne (by omega), e2 k (by omega) (by omega)]
        exact e1 k (by omega) (by omega) (by omega) (by omega)
  · rw [show nq_choice D x1 = -1000003 from by unfold nq_choice; rw [if_pos (by omega), if_neg (by omega)], show nu_choice D x1 = D from if_neg (by omega)] at h
    exact h σ hC (fun _ _ => rfl)
  · rw [nq_choice, nu_choice, if_neg (by omega), if_neg (by omega)] at h
    exact h σ hC (fun _ _ => rfl)
theorem m70 {Φ : Int → nw_S → Prop} (hw : nd_wf D) (hC : nm_st D σ) {x1 : Int} (h1 : nw_r x1) (h : ∀ u : nw_S, nm_st (nu_choice D x1) u → (∀ k, k < 26 → u k = σ k) → Φ (nq_choice D x1) u) : nw_TI G 70 [.inl 26, .inr x1] σ Φ := by
  have hn := hw.1
  have e := hC.1.1
  refine nw_TI_of (by decide) (Nat.le_of_ble_eq_true rfl) (bk70_0 (c66 h1 (by decide) (by decide) (fun q q2 => ?_) (fun q => ?_)))
  · rw [e]
    refine ⟨by decide, fun _ => ⟨by omega, fun q3 => ⟨by omega, ?_⟩, fun q3 => ?_⟩, fun z => absurd z (by decide)⟩
    · rw [nq_choice, nu_choice, if_pos (by omega), if_pos (by omega), if_pos (by omega)] at h
      rw [show ((nd_n D : Int) + 1 - 1) = nd_n D from by omega, Int.toNat_natCast]
      obtain ⟨a1, a2, a3, a4, a5⟩ := hC.1
      refine h _ ⟨⟨?_, ?_, fun c hc => ?_, fun i hi => ?_, fun i r hi hr => ?_⟩, Or.inl nu_at⟩ (fun k q => ?_)
      · rw [nu_nj (by decide), nu_at]
        show _ = ((nd_n D + 1 : Nat) : Int)
        push_cast
        rfl
      · rw [nu_nj (by decide), nu_nj (by decide), nu_ne (by decide)]; exact a2
      · have hc : c < nd_n D + 1 := hc
        rw [nu_ne (by decide), nu_ne (by decide)]
        by_cases y : c = nd_n D
        · subst y
          rw [nu_at, nd_aC_mn]
          omega
        · rw [nu_nj y, nd_aC_m (by omega)]; exact a3 c (by omega)
      · rw [nu_ne (by decide), nu_ne (by decide), nu_ne (by decide)]; exact a4 i hi
      · rw [nu_ne (by omega), nu_ne (by omega), nu_ne (by omega)]; exact a5 i r hi hr
      · rw [nu_ne (by omega), nu_ne (by omega), nu_ne (by omega)]
    · rw [show nq_choice D x1 = -1000003 from by unfold nq_choice; rw [if_pos (by omega), if_neg (by omega)], show nu_choice D x1 = D from if_neg (by omega)] at h
      exact h σ hC (fun _ _ => rfl)
  · rw [nq_choice, nu_choice, if_neg (by omega), if_neg (by omega)] at h
    exact ⟨by decide, fun z => absurd rfl z, fun _ => h σ hC (fun _ _ => rfl)⟩
/-! a worth -/
noncomputable def nd_iD (P : Prop) (a b : nd_D) : nd_D := @ite nd_D P (Classical.propDecidable P) a b
theorem nd_iD_t {P : Prop} {a b : nd_D} (h : P) : nd_iD P a b = a := if_pos h
theorem nd_iD_f {P : Prop} {a b : nd_D} (h : ¬ P) : nd_iD P a b = b := if_neg h
def nd_aW (D : nd_D) (j : Nat) (v : Int) : nd_D := (nd_n D, nd_m D, fun i => if i = j then v else nd_w D i, nd_r D, nd_f D)
theorem nd_ws_up {w : Nat → Int} {x : Nat → Nat} {c k : Nat} {v : Int} (hk : k < 6) : ∀ n : Nat, (∀ c, c < n → x c < 6) → nd_ws (fun i => if i = 6 * c + k then v else w i) x n = nd_ws w x n + (if c < n ∧ x c = k then v - w (6 * c + k) else 0)
  | 0, _ => by simp [nd_ws]
  | n + 1, h => by
    have ih := nd_ws_up (w := w) (x := x) (c := c) (v := v) hk n (fun c hc => h c (by omega))
    have hx := h n (by omega)
    unfold nd_ws
    rw [ih]
    by_cases q : n = c
    · subst q
      by_cases y : x n = k
      · rw [if_neg (by omega), if_pos (by omega), if_pos ⟨by omega, y⟩, y]; omega
      · rw [if_neg (by omega), if_neg (by omega), if_neg (fun z => y z.2)]
        omega
    · rw [if_neg (show ¬ 6 * n + x n = 6 * c + k by omega)]
      by_cases y : c < n ∧ x c = k
      · rw [if_pos y, if_pos ⟨by omega, y.2⟩]; omega
      · rw [if_neg y, if_neg (fun z => y ⟨by omega, z.2⟩)]; omega
noncomputable def nq_worth (D : nd_D) (a k v : Int) : Int := nd_it (nd_isK D a k) (if -1000 ≤ v ∧ v ≤ 1000 then nd_w D (6 * a.toNat + k.toNat) else -1000002) (-1000001)
noncomputable def nu_worth (D : nd_D) (a k v : Int) : nd_D := nd_iD (nd_isK D a k ∧ -1000 ≤ v ∧ v ≤ 1000) (nd_aW D (6 * a.toNat + k.toNat) v) D
theorem nd_aW_wf (hw : nd_wf D) {c k : Nat} {v : Int} (hc : c < nd_n D) (hk : k < nd_m D c) (hv : -1000 ≤ v ∧ v ≤ 1000) : nd_wf (nd_aW D (6 * c + k) v) := by
  have hm := hw.2.1 c hc
  refine ⟨hw.1, hw.2.1, fun i => ?_, fun i hi => ?_, hw.2.2.2.2.1, hw.2.2.2.2.2⟩
  · show -1000 ≤ (if i = 6 * c + k then v else nd_w D i) ∧ (if i = 6 * c + k then v else nd_w D i) ≤ 1000
    split
    · exact hv
    · exact hw.2.2.1 i
  · have hi : 6 * nd_n D ≤ i := hi
    show (if i = 6 * c + k then v else nd_w D i) = 0
    rw [if_neg (by omega)]
    exact hw.2.2.2.1 i hi
theorem nu_worth_wf (hw : nd_wf D) (a k v : Int) : nd_wf (nu_worth D a k v) := by
  unfold nu_worth
  by_cases q : nd_isK D a k ∧ -1000 ≤ v ∧ v ≤ 1000
  · rw [nd_iD_t q]
    obtain ⟨⟨⟨z1, z2⟩, z3, z4⟩, z5⟩ := q
    exact nd_aW_wf hw (by omega) (by omega) z5
  · rw [nd_iD_f q]; exact hw
theorem nd_aW_U (hw : nd_wf D) {c k : Nat} {v : Int} (hc : c < nd_n D) (hk : k < 6) (p : Nat) : nd_U (nd_aW D (6 * c + k) v) p = nd_U D p + (if nd_x D p c = k then v - nd_w D (6 * c + k) else 0) := by
  show nd_ws (fun i => if i = 6 * c + k then v else nd_w D i) (nd_x D p) (nd_n D) = _
  rw [nd_ws_up hk (nd_n D) (fun c hc => (nd_x_lt hw hc).2)]
  have : (c < nd_n D ∧ nd_x D p c = k) ↔ nd_x D p c = k := ⟨fun z => z.2, fun z => ⟨hc, z⟩⟩
  simp only [this]
  rfl
theorem c4 {Φ : Int → nw_S → Prop} (hw : nd_wf D) (hC : nc_ch D σ) (hS : ∀ p, p < nd_P D → σ 5 p = nd_U D p) {x1 x2 x3 : Int} {c k : Nat} (h1 : x1 = c) (h2 : x2 = k) (hc : c < nd_n D) (hk : k < nd_m D c) (h : ∀ u : nw_S, (∀ j, j ≠ 4 → j ≠ 5 → u j = σ j) → (∀ i, i < 30 → u 4 i = nd_w (nd_aW D (6 * c + k) x3) i) → (∀ p, p < nd_P D → u 5 p = nd_U (nd_aW D (6 * c + k) x3) p) → Φ (nd_w D (6 * c + k)) u) : nw_TI G 4 [.inl 1, .inr x1, .inr x2, .inr x3] σ Φ := by
  subst h1
  subst h2
  have hn := hw.1
  have hm := hw.2.1 c hc
  have hP := nd_P_le hw
  have ej : ((c : Int) * 6 + (k : Int)).toNat = 6 * c + k := by omega
  have ew := hC.2.2.2.2 (6 * c + k) (by omega)
  have key : ∀ (w i : Nat) (τ : nw_S) (x6 : Int), i + w = nd_P D → x6 = i → (∀ j, j ≠ 5 → τ j = nw_up σ 4 (6 * c + k) x3 j) → (∀ p, p < i → τ 5 p = nd_U (nd_aW D (6 * c + k) x3) p) → (∀ p, i ≤ p → p < nd_P D → τ 5 p = nd_U D p) → nw_V G 4 (nw_pi Φ) 28 [some (.inl 1), some (.inr (c : Int)), some (.inr (k : Int)), some (.inr x3), some (.inr ((c : Int) * 6 + (k : Int))), some (.inr (nd_w D (6 * c + k))), some (.inr x6)] [] τ := by
    intro w
    induction w with
    | zero =>
      intro i τ x6 hi h6 hj hlo hhi
      subst h6
      have e : τ 1 1 = nd_P D := by rw [hj 1 (by decide), nu_ne (by decide)]; exact hC.2.1
      refine bk4_28 ⟨by omega, by omega, fun _ => h τ (fun j a b => by rw [hj j b, nu_ne a]) (fun i hi => ?_) (fun p hp => hlo p (by omega)), fun q => by omega⟩
      rw [hj 4 (by decide)]
      show _ = if i = 6 * c + k then x3 else nd_w D i
      by_cases y : i = 6 * c + k
      · subst y; rw [nu_at, if_pos rfl]
      · rw [nu_nj y, if_neg y]; exact hC.2.2.2.2 i hi
    | succ w ih =>
      intro i τ x6 hi h6 hj hlo hhi
      subst h6
      have e : τ 1 1 = nd_P D := by rw [hj 1 (by decide), nu_ne (by decide)]; exact hC.2.1
      -- taken reads the steps and the candidates alone
      have hT : nc_ch (nd_aW D (6 * c + k) x3) τ := by
        obtain ⟨a1, a2, a3, a4, a5⟩ := hC
        refine ⟨by rw [hj 1 (by decide), nu_ne (by decide)]; exact a1, e, by rw [hj 2 (by decide), nu_ne (by decide)]; exact a3, by rw [hj 3 (by decide), nu_ne (by decide)]; exact a4, fun i hi => ?_⟩
        rw [hj 4 (by decide)]
        show _ = if i = 6 * c + k then x3 else nd_w D i
        by_cases y : i = 6 * c + k
        · subst y; rw [nu_at, if_pos rfl]
        · rw [nu_nj y, if_neg y]; exact a5 i hi
      have hx := nd_x_lt hw (p := i) hc
      -- the plan's number and its digits don't look at the worths
      have c5w : ∀ {Ψ : Int → nw_S → Prop}, Ψ (nd_x D i c) τ → nw_TI G 5 [.inl 1, .inr (i : Int), .inr (c : Int)] τ Ψ := by
        intro Ψ hΨ
        have hT2 : nc_ch (nd_n D, nd_m D, fun i => τ 4 i, nd_r D, nd_f D) τ := ⟨hT.1, hT.2.1, hT.2.2.1, hT.2.2.2.1, fun _ _ => rfl⟩
        have hs := nd_sp_le hw c
        have em := hT.2.2.1 c hc
        have es := hT.2.2.2.1 c hc
        have em : τ 2 c = nd_m D c := em
        have es : τ 3 c = nd_sp (nd_m D) (nd_n D) c := es
        refine nw_TI_of (by decide) (Nat.le_of_ble_eq_true rfl) (bk5_0 ?_)
        simp only [Int.toNat_natCast]
        rw [em, es]
        refine ⟨by omega, by omega, fun q => by omega, fun _ => ⟨by omega, fun _ => ⟨by omega, ?_, ?_⟩, fun q => by omega⟩⟩
        · have : ((i : Int) / (nd_sp (nd_m D) (nd_n D) c : Int)) = ((i / nd_sp (nd_m D) (nd_n D) c : Nat) : Int) := by norm_cast
          rw [this]
          have := Nat.div_le_self i (nd_sp (nd_m D) (nd_n D) c)
          generalize i / nd_sp (nd_m D) (nd_n D) c = q at this ⊢
          omega
        · have : ((i : Int) / (nd_sp (nd_m D) (nd_n D) c : Int)) % (nd_m D c : Int) = ((i / nd_sp (nd_m D) (nd_n D) c % nd_m D c : Nat) : Int) := by norm_cast
          rw [this]
          exact hΨ
      refine bk4_28 ⟨by omega, by omega, fun q => by omega, fun _ => c5w ⟨by omega, by omega, fun q => ih (i + 1) _ _ (by omega) (by omega) hj (fun p hp => ?_) (fun p a b => hhi p (by omega) b), fun q => ⟨by omega, ?_⟩⟩⟩
      · by_cases y : p = i
        · subst y
          rw [hhi p (Nat.le_refl _) (by omega), nd_aW_U hw hc (by omega), if_neg (fun z => q (by rw [z])), Int.add_zero]
        · exact hlo p (by omega)
      · simp only [Int.toNat_natCast]
        refine ih (i + 1) _ _ (by omega) (by omega) (fun j a => by rw [nu_ne a]; exact hj j a) (fun p hp => ?_) (fun p a b => by rw [nu_nj (by omega)]; exact hhi p (by omega) b)
        by_cases y : p = i
        · subst y
          rw [nu_at, hhi p (Nat.le_refl _) (by omega), nd_aW_U hw hc (by omega), if_pos (by omega)]
        · rw [nu_nj y]; exact hlo p (by omega)
  refine nw_TI_of (by decide) (Nat.le_of_ble_eq_true rfl) (bk4_0 ?_)
  rw [ej, ew]
  exact ⟨by omega, key (nd_P D) 0 _ _ (by omega) rfl (fun _ _ => rfl) (fun p hp => by omega) (fun p _ hp => by rw [nu_ne (by decide)]; exact hS p hp)⟩
theorem c28 {Φ : Int → nw_S → Prop} (hw : nd_wf D) (hC : nc_st D σ) {x1 x2 x3 : Int} (h1 : nw_r x1) (h2 : nw_r x2) (h3 : nw_r x3) (h : ∀ u : nw_S, nc_st (nu_worth D x1 x2 x3) u → (∀ k, 26 ≤ k → u k = σ k) → Φ (nq_worth D x1 x2 x3) u) : nw_TI G 28 [.inl 0, .inr x1, .inr x2, .inr x3] σ Φ := by
  refine nw_TI_of (by decide) (Nat.le_of_ble_eq_true rfl) (bk28_0 (c2' hw hC.1.1 h1 h2 (fun z => ?_) (fun z => ?_)))
  · rw [nq_worth, nd_it_t z] at h
    refine ⟨by decide, fun _ => ⟨h3, fun q => ?_, fun q => ⟨fun q2 => ?_, fun q2 => ?_⟩⟩, fun z => absurd z (by decide)⟩
    · rw [nu_worth, nd_iD_f (by omega), if_neg (by omega)] at h
      exact h σ hC (fun _ _ => rfl)
    · rw [nu_worth, nd_iD_t ⟨z, q, q2⟩, if_pos ⟨q, q2⟩] at h
      obtain ⟨⟨z1, z2⟩, z3, z4⟩ := z
      have hA : nc_al D (nw_up σ 0 5 1) := hC.1.to (fun k a b => nu_ne (by omega))
      refine c4 hw hA.1 hA.2.2.1 (c := x1.toNat) (k := x2.toNat) (by omega) (by omega) (by omega) (by omega) (fun u e e4 e5 => h u ⟨⟨⟨?_, ?_, ?_, ?_, e4⟩, ⟨?_, fun i r hi hr => ?_⟩, e5, ?_, ?_⟩, Or.inl ?_, ?_⟩ (fun k q => ?_))
      · rw [e 1 (by decide) (by decide)]; exact hA.1.1
      · rw [e 1 (by decide) (by decide)]; exact hA.1.2.1
      · rw [e 2 (by decide) (by decide)]; exact hA.1.2.2.1
      · rw [e 3 (by decide) (by decide)]; exact hA.1.2.2.2.1
      · rw [e 6 (by decide) (by decide)]; exact hA.2.1.1
      · rw [e (7 + i) (by omega) (by omega)]; exact hA.2.1.2 i r hi hr
      · rw [e 13 (by decide) (by decide)]; exact hA.2.2.2.1
      · rw [e 14 (by decide) (by decide)]; exact hA.2.2.2.2
      · rw [e 0 (by decide) (by decide)]; exact nu_at
      · have : nc_ls D u := hC.2.2.to (by rw [e 0 (by decide) (by decide), nu_nj (by decide)]) (fun k a b => by rw [e k (by omega) (by omega), nu_ne (by omega)])
        exact this
      · rw [e k (by omega) (by omega), nu_ne (by omega)]
    · rw [nu_worth, nd_iD_f (by omega), if_neg (by omega)] at h
      exact h σ hC (fun _ _ => rfl)
  · rw [nq_worth, nd_it_f z, nu_worth, nd_iD_f (fun y => z y.1)] at h
    exact ⟨by decide, fun z => absurd rfl z, fun _ => h σ hC (fun _ _ => rfl)⟩
theorem m71 {Φ : Int → nw_S → Prop} (hw : nd_wf D) (hC : nm_st D σ) {x1 x2 x3 : Int} (h1 : nw_r x1) (h2 : nw_r x2) (h3 : nw_r x3) (h : ∀ u : nw_S, nm_st (nu_worth D x1 x2 x3) u → (∀ k, k < 26 → u k = σ k) → Φ (nq_worth D x1 x2 x3) u) : nw_TI G 71 [.inl 26, .inr x1, .inr x2, .inr x3] σ Φ := by
  have hn := hw.1
  refine nw_TI_of (by decide) (Nat.le_of_ble_eq_true rfl) (bk71_0 (c68' hw hC.1 h1 h2 (fun z => ?_) (fun z => ?_)))
  · rw [nq_worth, nd_it_t z] at h
    refine ⟨by decide, fun _ => c66 h3 (by decide) (by decide) (fun q q2 => ?_) (fun q => ?_), fun z => absurd z (by decide)⟩
    · rw [nu_worth, nd_iD_t ⟨z, q, q2⟩, if_pos ⟨q, q2⟩] at h
      obtain ⟨⟨z1, z2⟩, z3, z4⟩ := z
      have hm := hw.2.1 x1.toNat (by omega)
      have ej : (6 * x1 + x2).toNat = 6 * x1.toNat + x2.toNat := by omega
      obtain ⟨a1, a2, a3, a4, a5⟩ := hC.1
      refine ⟨by decide, fun _ => ⟨by omega, ?_⟩, fun z => absurd z (by decide)⟩
      rw [ej, a4 _ (by omega)]
      refine h _ ⟨⟨a1, a2, a3, fun i hi => ?_, fun i r hi hr => ?_⟩, ?_⟩ (fun k q => nu_ne (by omega))
      · show _ = if i = 6 * x1.toNat + x2.toNat then x3 else nd_w D i
        by_cases y : i = 6 * x1.toNat + x2.toNat
        · subst y; rw [nu_at, if_pos rfl]
        · rw [nu_nj y, if_neg y]; exact a4 i hi
      · rw [nu_ne (by omega)]; exact a5 i r hi hr
      · rcases hC.2 with y | y
        · exact Or.inl (by rw [nu_ne (by decide)]; exact y)
        · exact Or.inr ⟨by rw [nu_ne (by decide)]; exact y.1, by rw [nu_ne (by decide)]; exact y.2⟩
    · rw [nu_worth, nd_iD_f (by omega), if_neg (by omega)] at h
      exact ⟨by decide, fun z => absurd rfl z, fun _ => h σ hC (fun _ _ => rfl)⟩
  · rw [nq_worth, nd_it_f z, nu_worth, nd_iD_f (fun y => z y.1)] at h
    exact ⟨by decide, fun z => absurd rfl z, fun _ => h σ hC (fun _ _ => rfl)⟩
end NC11
