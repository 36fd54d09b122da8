section NC18
variable {G : nw_G} {σ : nw_S} {D : nd_D}
def nm_ca (D : nd_D) (u : nw_S) : Prop := ∀ s, s < 4096 → nc_tr (u 36 s) (nd_can D s)
theorem nm_st.c (hC : nm_st D σ) {u : nw_S} (e : ∀ k, k ≠ 36 → u k = σ k) : nm_st D u := by
  have e26 := e 26 (by decide)
  refine ⟨hC.1.to (fun k _ _ _ => e k (by omega)) (by rw [e26]) (by rw [e26]), ?_⟩
  rcases hC.2 with q | q
  · exact Or.inl (by rw [e26]; exact q)
  · exact Or.inr ⟨by rw [e26]; exact q.1, by rw [e 35 (by decide)]; exact q.2⟩
theorem ns_up {s r : Nat} (h : s.testBit r = false) : s < s ^^^ 2 ^ r := by
  have e : s ^^^ 2 ^ r = s ||| 2 ^ r := by
    apply Nat.eq_of_testBit_eq
    intro i
    rw [ns_flip, Nat.testBit_or, Nat.testBit_two_pow]
    by_cases q : r = i
    · subst q; simp [h]
    · simp [q]
  rw [e]
  rcases Nat.lt_or_eq_of_le (Nat.left_le_or (n := s) (m := 2 ^ r)) with y | y
  · exact y
  · rw [y, Nat.testBit_or, Nat.testBit_two_pow] at h
    simp at h
theorem ns_rm1 {s r : Nat} (hs : s < 4096) (h : s.testBit r = true) : s &&& (4095 ^^^ 2 ^ r) = s ^^^ 2 ^ r := by
  apply Nat.eq_of_testBit_eq
  intro i
  rw [ns_dif, ns_flip, Nat.testBit_two_pow]
  by_cases q : r = i
  · subst q
    have : r < 12 := by
      rcases Nat.lt_or_ge r 12 with y | y
      · exact y
      · rw [ns_hi (n := 12) hs y] at h; cases h
    simp [h, this]
  · rcases Nat.lt_or_ge i 12 with y | y
    · simp [q, y]
    · rw [ns_hi (n := 12) hs y]; simp [q]
theorem ns_rm0 {s r : Nat} (hs : s < 4096) (h : s.testBit r = false) : s &&& (4095 ^^^ 2 ^ r) = s := by
  apply Nat.eq_of_testBit_eq
  intro i
  rw [ns_dif, Nat.testBit_two_pow]
  by_cases q : r = i
  · subst q; simp [h]
  · rcases Nat.lt_or_ge i 12 with y | y
    · simp [q, y]
    · rw [ns_hi (n := 12) hs y]; simp
/-- findCan -/
theorem c89 {Φ : nw_S → Prop} (hw : nd_wf D) (hC : nm_st D σ) (h : ∀ u : nw_S, nm_st D u → nm_ca D u → (∀ k, k < 26 → u k = σ k) → Φ u) : nw_TV G 89 [.inl 26] σ Φ := by
  have hP := nd_P_le hw
  have hM := (nd_M_lt hw 1).2
  refine nw_TV_of (by decide) (Nat.le_of_ble_eq_true rfl) (bk89_0 (c81 hw hC (fun u0 hM0 hF0 hj0 _ => c82 hw hM0 (by decide) ?_)))
  have hS0 : nm_st D u0 := ⟨hM0, Or.inr hF0⟩
  -- down from the largest set
  have down : ∀ (i : Nat) (τ : nw_S) (x2 x3 : Int), x3 = (i : Int) - 1 → i ≤ 4096 → (∀ k, k ≠ 36 → τ k = u0 k) → (∀ u, u < 4096 → (τ 36 u = 0 ∨ τ 36 u = 1) ∧ (τ 36 u = 1 → nd_can D u)) → (∀ p, p < nd_P D → τ 36 (nd_kt D p) = 1) → (∀ u r, u < 4096 → r < 12 → u.testBit r = false → nd_can D (u ^^^ 2 ^ r) → i ≤ u ^^^ 2 ^ r → τ 36 u = 1) → nw_V G 89 (nw_pv Φ) 70 [some (.inl 26), some (.inr (nd_M D 1 : Int)), some (.inr x2), some (.inr x3), none] [] τ := by
    intro i
    induction i with
    | zero =>
      intro τ x2 x3 h3 hi hj hsnd hkt hcmp
      refine bk89_70 ⟨by omega, fun _ => h τ (hS0.c hj) (fun s hs => ?_) (fun k q => by rw [hj k (by omega)]; exact hj0 k q), fun q => by omega⟩
      rcases Classical.em (nd_can D s) with y | y
      · refine Or.inl ⟨?_, y⟩
        obtain ⟨p, hp, hsub⟩ := id y
        rcases Classical.em (s = nd_kt D p) with z | z
        · rw [z]; exact hkt p hp
        · obtain ⟨r, r1, r2⟩ := ns_more hsub z
          have hr12 : r < 12 := by
            rcases Nat.lt_or_ge r 12 with w | w
            · exact w
            · rw [ns_hi (n := 12) (nd_kt_lt hw p).2 w] at r1; cases r1
          refine hcmp s r hs hr12 r2 ⟨p, hp, ns_sub.mpr (fun j hjj => ?_)⟩ (Nat.zero_le _)
          rw [ns_flip] at hjj
          by_cases w : r = j
          · subst w; exact r1
          · simp [w] at hjj; exact ns_sub.mp hsub j hjj
      · refine Or.inr ⟨?_, y⟩
        rcases (hsnd s hs).1 with z | z
        · exact z
        · exact absurd ((hsnd s hs).2 z) y
    | succ i ih =>
      intro τ x2 x3 h3 hi hj hsnd hkt hcmp
      have h3 : x3 = (i : Int) := by omega
      subst h3
      have hil : i < 4096 := by omega
      have hti : nc_tr (τ 36 i) (nd_can D i) := by
        rcases Classical.em (nd_can D i) with y | y
        · refine Or.inl ⟨?_, y⟩
          obtain ⟨p, hp, hsub⟩ := id y
          rcases Classical.em (i = nd_kt D p) with z | z
          · rw [z]; exact hkt p hp
          · obtain ⟨r, r1, r2⟩ := ns_more hsub z
            have hr12 : r < 12 := by
              rcases Nat.lt_or_ge r 12 with w | w
              · exact w
              · rw [ns_hi (n := 12) (nd_kt_lt hw p).2 w] at r1; cases r1
            refine hcmp i r hil hr12 r2 ⟨p, hp, ns_sub.mpr (fun j hjj => ?_)⟩ (ns_up r2)
            rw [ns_flip] at hjj
            by_cases w : r = j
            · subst w; exact r1
            · simp [w] at hjj; exact ns_sub.mp hsub j hjj
        · refine Or.inr ⟨?_, y⟩
          rcases (hsnd i hil).1 with z | z
          · exact z
          · exact absurd ((hsnd i hil).2 z) y
      have inner : ∀ (w r : Nat) (τ : nw_S) (x4 : Int), r + w = 12 → x4 = r → (∀ k, k ≠ 36 → τ k = u0 k) → (∀ u, u < 4096 → (τ 36 u = 0 ∨ τ 36 u = 1) ∧ (τ 36 u = 1 → nd_can D u)) → (∀ p, p < nd_P D → τ 36 (nd_kt D p) = 1) → (∀ u r, u < 4096 → r < 12 → u.testBit r = false → nd_can D (u ^^^ 2 ^ r) → i + 1 ≤ u ^^^ 2 ^ r → τ 36 u = 1) → nc_tr (τ 36 i) (nd_can D i) → (nd_can D i → ∀ q, q < r → τ 36 (i &&& (4095 ^^^ 2 ^ q)) = 1) → nw_V G 89 (nw_pv Φ) 77 [some (.inl 26), some (.inr (nd_M D 1 : Int)), some (.inr x2), some (.inr (i : Int)), some (.inr x4)] [] τ := by
        intro w
        induction w with
        | zero =>
          intro r τ x4 hr h4 hj hsnd hkt hcmp hti hrm
          subst h4
          have hr : r = 12 := by omega
          subst hr
          refine bk89_77 ⟨by omega, fun _ => ih τ _ _ (by omega) (by omega) hj hsnd hkt (fun u q hu hq hb hc hle => ?_), fun q => by omega⟩
          rcases Nat.lt_or_ge i (u ^^^ 2 ^ q) with y | y
          · exact hcmp u q hu hq hb hc y
          · have he : u ^^^ 2 ^ q = i := by omega
            rw [he] at hc
            have := hrm hc q (by omega)
            rw [ns_rm1 hil (by rw [← he, ns_flip, hb]; simp), ← he, ns_flip2] at this
            exact this
        | succ w wh =>
          intro r τ x4 hr h4 hj hsnd hkt hcmp hti hrm
          subst h4
          have h2r := nd_bit (r := r) (by omega)
          have hdl : i &&& (4095 ^^^ 2 ^ r) < 4096 := Nat.lt_of_le_of_lt Nat.and_le_left hil
          refine bk89_77 ⟨by omega, fun q => by omega, fun _ => ?_⟩
          simp only [Int.toNat_natCast]
          refine ⟨by omega, hti.r, fun q => ih τ _ _ (by omega) (by omega) hj hsnd hkt (fun u q2 hu hq hb hc hle => ?_), fun q => ?_⟩
          · rcases Nat.lt_or_ge i (u ^^^ 2 ^ q2) with y | y
            · exact hcmp u q2 hu hq hb hc y
            · have he : u ^^^ 2 ^ q2 = i := by omega
              rw [he] at hc
              exact absurd hc (hti.f q)
          · have hci := hti.t q
            rw [nb_shl (by omega), nb_dif hil h2r]
            simp only [Int.toNat_natCast]
            have hup : ∀ u, τ 36 u = 1 → nw_up τ 36 (i &&& (4095 ^^^ 2 ^ r)) 1 36 u = 1 := fun u hu => by
              by_cases y : u = i &&& (4095 ^^^ 2 ^ r)
              · subst y; exact nu_at
              · rw [nu_nj y]; exact hu
            refine ⟨by omega, wh (r + 1) _ _ (by omega) (by omega) (fun k y => by rw [nu_ne y]; exact hj k y) (fun u hu => ?_) (fun p hp => hup _ (hkt p hp)) (fun u q2 a b c d e => hup _ (hcmp u q2 a b c d e)) ?_ (fun _ q2 hq2 => ?_)⟩
            · by_cases y : u = i &&& (4095 ^^^ 2 ^ r)
              · subst y
                rw [nu_at]
                refine ⟨Or.inr rfl, fun _ => nd_can_mono hci (fun j hjj => ?_)⟩
                rw [ns_dif] at hjj
                simp at hjj
                exact hjj.1
              · rw [nu_nj y]; exact hsnd u hu
            · exact Or.inl ⟨hup _ (by rcases hti with z | z; exact z.1; exact absurd z.1 q), hci⟩
            · by_cases y : q2 = r
              · subst y; exact nu_at
              · exact hup _ (hrm hci q2 (by omega))
      exact bk89_70 ⟨by omega, fun q => by omega, fun _ => inner 12 0 τ _ (by omega) rfl hj hsnd hkt hcmp hti (fun _ q hq => by omega)⟩
  have mark : ∀ (w p : Nat) (τ : nw_S) (x3 : Int), p + w = nd_P D → x3 = p → (∀ k, k ≠ 36 → τ k = u0 k) → (∀ u, u < 4096 → (τ 36 u = 0 ∨ τ 36 u = 1) ∧ (τ 36 u = 1 → nd_can D u)) → (∀ q, q < p → τ 36 (nd_kt D q) = 1) → nw_V G 89 (nw_pv Φ) 39 [some (.inl 26), some (.inr (nd_M D 1 : Int)), some (.inr (nd_P D : Int)), some (.inr x3), none] [] τ := by
    intro w
    induction w with
    | zero =>
      intro p τ x3 hp h3 hj hsnd hkt
      subst h3
      have hp : p = nd_P D := by omega
      subst hp
      refine bk89_39 ⟨by omega, by omega, fun _ => down 4096 τ _ _ rfl (Nat.le_refl _) hj hsnd hkt (fun u r hu hr hb hc hle => ?_), fun q => by omega⟩
      have := ns_flip_lt (n := 12) hu hr
      omega
    | succ w ih =>
      intro p τ x3 hp h3 hj hsnd hkt
      subst h3
      have eB : τ 35 p = nd_B D p := by rw [hj 35 (by decide)]; exact hF0.2 p (by omega)
      have hB := nd_B_lt hw p
      have hk := nd_kt_lt hw p
      have ek : nw_and (nd_M D 1 : Int) (nw_xor (nd_B D p : Int) (-1)) = (nd_kt D p : Nat) := nb_dif hM hB.2
      refine bk89_39 ⟨by omega, by omega, fun q => by omega, fun _ => ?_⟩
      simp only [Int.toNat_natCast]
      rw [eB, ek]
      simp only [Int.toNat_natCast]
      refine ⟨by omega, by omega, ih (p + 1) _ _ (by omega) (by omega) (fun k y => by rw [nu_ne y]; exact hj k y) (fun u hu => ?_) (fun q hq => ?_)⟩
      · by_cases y : u = nd_kt D p
        · subst y
          rw [nu_at]
          exact ⟨Or.inr rfl, fun _ => ⟨p, by omega, Nat.and_self _⟩⟩
        · rw [nu_nj y]; exact hsnd u hu
      · by_cases y : nd_kt D q = nd_kt D p
        · rw [y]; exact nu_at
        · rw [nu_nj y]
          have : q ≠ p := fun z => y (by rw [z])
          exact hkt q (by omega)
  have clear : ∀ (w i : Nat) (τ : nw_S) (x2 : Int), i + w = 4096 → x2 = i → (∀ k, k ≠ 36 → τ k = u0 k) → (∀ s, s < i → τ 36 s = 0) → nw_V G 89 (nw_pv Φ) 12 [some (.inl 26), some (.inr (nd_M D 1 : Int)), some (.inr x2), none, none] [] τ := by
    intro w
    induction w with
    | zero =>
      intro i τ x2 hi h2 hj hz
      subst h2
      have hT := hS0.c hj
      exact bk89_12 ⟨by omega, fun _ => c77 hw hT.1 (mark (nd_P D) 0 τ _ (by omega) rfl hj (fun u hu => ⟨Or.inl (hz u (by omega)), fun y => by rw [hz u (by omega)] at y; exact absurd y (by decide)⟩) (fun q hq => by omega)), fun q => by omega⟩
    | succ w ih =>
      intro i τ x2 hi h2 hj hz
      subst h2
      refine bk89_12 ⟨by omega, fun q => by omega, fun _ => ⟨by omega, ?_⟩⟩
      simp only [Int.toNat_natCast]
      refine ih (i + 1) _ _ (by omega) (by omega) (fun k y => by rw [nu_ne y]; exact hj k y) (fun s hs => ?_)
      by_cases y : s = i
      · subst y; exact nu_at
      · rw [nu_nj y]; exact hz s (by omega)
  exact clear 4096 0 u0 _ (by omega) rfl (fun _ _ => rfl) (fun s hs => by omega)
theorem c90 {Φ : Int → nw_S → Prop} (hw : nd_wf D) (hO : nm_ca D σ) {x1 x2 : Int} {s : Nat} (h1 : x1 = s) (h2 : x2 = nd_M D 1) (hs : s < 4096) (ht : nd_cl D s → Φ 1 σ) (hf : ¬ nd_cl D s → Φ 0 σ) : nw_TI G 90 [.inl 26, .inr x1, .inr x2] σ Φ := by
  subst h1
  subst h2
  have hM := (nd_M_lt hw 1).2
  have stop : ¬ nd_cl D s → ∀ x4 : Int, 0 ≤ x4 → x4 ≤ 12 → nw_V G 90 (nw_pi Φ) 26 [some (.inl 26), some (.inr (s : Int)), some (.inr (nd_M D 1 : Int)), some (.inr 0), some (.inr x4)] [] σ := fun hno x4 a b => bk90_26 ⟨by omega, fun _ => ⟨by decide, hf hno⟩, fun _ => ⟨by decide, fun _ => ⟨by decide, hf hno⟩, fun y => absurd rfl y⟩⟩
  have key : s &&& nd_M D 1 = s → ¬ nd_can D s → ∀ (w r : Nat) (x4 : Int), r + w = 12 → x4 = r → (∀ i, i < r → s.testBit i = true → nd_can D (s ^^^ 2 ^ i)) → nw_V G 90 (nw_pi Φ) 26 [some (.inl 26), some (.inr (s : Int)), some (.inr (nd_M D 1 : Int)), some (.inr 1), some (.inr x4)] [] σ := by
    intro hsub hno w
    induction w with
    | zero =>
      intro r x4 hr h4 hc
      subst h4
      exact bk90_26 ⟨by omega, fun _ => ⟨by decide, ht ⟨hsub, hno, fun i hi hb => hc i (by omega) hb⟩⟩, fun q => by omega⟩
    | succ w ih =>
      intro r x4 hr h4 hc
      subst h4
      have h2r := nd_bit (r := r) (by omega)
      have hx := ns_flip_lt (n := 12) (r := r) hs (by omega)
      have hO2 := hO (s ^^^ 2 ^ r) hx
      refine bk90_26 ⟨by omega, fun q => by omega, fun _ => ⟨by decide, fun q => absurd q (by decide), fun _ => ⟨nb_rand _ _, ?_⟩⟩⟩
      rw [nb_bit (by omega) (by omega), nb_shl (by omega), nb_xor (by omega) (by omega)]
      simp only [Int.toNat_natCast]
      cases hb : s.testBit r with
      | false => exact ⟨fun _ => ih (r + 1) _ (by omega) (by omega) (fun i hi hbi => by
          by_cases y : i = r
          · subst y; rw [hb] at hbi; cases hbi
          · exact hc i (by omega) hbi), fun q => absurd rfl q⟩
      | true => exact ⟨fun q => absurd q (by decide), fun _ => ⟨by omega, hO2.r, fun q => stop (fun z => hO2.f q (z.2.2 r (by omega) hb)) _ (by omega) (by omega), fun q => ih (r + 1) _ (by omega) (by omega) (fun i hi hbi => by
          by_cases y : i = r
          · subst y; exact hO2.t q
          · exact hc i (by omega) hbi)⟩⟩
  refine nw_TI_of (by decide) (Nat.le_of_ble_eq_true rfl) (bk90_0 ?_)
  have hsub : (nw_and (s : Int) (nw_xor (nd_M D 1 : Int) (-1)) = 0) ↔ s &&& nd_M D 1 = s := by
    rw [nb_dif hs hM, ← ns_difz hs]
    omega
  simp only [Int.toNat_natCast]
  exact ⟨nb_rand _ _, fun q => stop (fun z => q (hsub.mpr z.1)) _ (by decide) (by decide), fun q => ⟨by omega, (hO s hs).r, fun q2 => stop (fun z => z.2.1 ((hO s hs).t q2)) _ (by decide) (by decide), fun q2 => key (hsub.mp q) ((hO s hs).f q2) 12 0 _ (by omega) rfl (fun i hi => by omega)⟩⟩
theorem c91 {Φ : Int → nw_S → Prop} (hw : nd_wf D) (hO : nm_ca D σ) {x1 x2 : Int} {s : Nat} (h1 : x1 = s) (h2 : x2 = nd_M D 1) (hs : s < 4096) (ht : nd_rx D s → Φ 1 σ) (hf : ¬ nd_rx D s → Φ 0 σ) : nw_TI G 91 [.inl 26, .inr x1, .inr x2] σ Φ := by
  subst h1
  subst h2
  have hM := (nd_M_lt hw 1).2
  have hd : nd_M D 1 &&& (4095 ^^^ s) < 4096 := Nat.lt_of_le_of_lt Nat.and_le_left hM
  have stop : ¬ nd_rx D s → ∀ x4 : Int, 0 ≤ x4 → x4 ≤ 12 → nw_V G 91 (nw_pi Φ) 30 [some (.inl 26), some (.inr (s : Int)), some (.inr (nd_M D 1 : Int)), some (.inr 0), some (.inr x4)] [] σ := fun hno x4 a b => bk91_30 ⟨by omega, fun _ => ⟨by decide, hf hno⟩, fun _ => ⟨by decide, fun _ => ⟨by decide, hf hno⟩, fun y => absurd rfl y⟩⟩
  have key : s &&& nd_M D 1 = s → nd_can D (nd_M D 1 &&& (4095 ^^^ s)) → ∀ (w r : Nat) (x4 : Int), r + w = 12 → x4 = r → (∀ i, i < r → s.testBit i = true → ¬ nd_can D ((nd_M D 1 &&& (4095 ^^^ s)) ||| 2 ^ i)) → nw_V G 91 (nw_pi Φ) 30 [some (.inl 26), some (.inr (s : Int)), some (.inr (nd_M D 1 : Int)), some (.inr 1), some (.inr x4)] [] σ := by
    intro hsub hyes w
    induction w with
    | zero =>
      intro r x4 hr h4 hc
      subst h4
      exact bk91_30 ⟨by omega, fun _ => ⟨by decide, ht ⟨hsub, hyes, fun i hi hb => hc i (by omega) hb⟩⟩, fun q => by omega⟩
    | succ w ih =>
      intro r x4 hr h4 hc
      subst h4
      have h2r := nd_bit (r := r) (by omega)
      have hx : (nd_M D 1 &&& (4095 ^^^ s)) ||| 2 ^ r < 4096 := Nat.or_lt_two_pow (n := 12) hd h2r
      have hO2 := hO _ hx
      refine bk91_30 ⟨by omega, fun q => by omega, fun _ => ⟨by decide, fun q => absurd q (by decide), fun _ => ⟨nb_rand _ _, ?_⟩⟩⟩
      rw [nb_bit (by omega) (by omega), nb_shl (by omega), nb_dif hM hs, nb_or (by omega) (by omega)]
      simp only [Int.toNat_natCast]
      cases hb : s.testBit r with
      | false => exact ⟨fun _ => ih (r + 1) _ (by omega) (by omega) (fun i hi hbi => by
          by_cases y : i = r
          · subst y; rw [hb] at hbi; cases hbi
          · exact hc i (by omega) hbi), fun q => absurd rfl q⟩
      | true => exact ⟨fun q => absurd q (by decide), fun _ => ⟨by omega, hO2.r, fun q => stop (fun z => z.2.2 r (by omega) hb (hO2.t q)) _ (by omega) (by omega), fun q => ih (r + 1) _ (by omega) (by omega) (fun i hi hbi => by
          by_cases y : i = r
          · subst y; exact hO2.f q
          · exact hc i (by omega) hbi)⟩⟩
  refine nw_TI_of (by decide) (Nat.le_of_ble_eq_true rfl) (bk91_0 ?_)
  have hsub : (nw_and (s : Int) (nw_xor (nd_M D 1 : Int) (-1)) = 0) ↔ s &&& nd_M D 1 = s := by
    rw [nb_dif hs hM, ← ns_difz hs]
    omega
  refine ⟨nb_rand _ _, fun q => stop (fun z => q (hsub.mpr z.1)) _ (by decide) (by decide), fun q => ?_⟩
  rw [nb_dif hM hs]
  simp only [Int.toNat_natCast]
  exact ⟨by omega, (hO _ hd).r, fun q2 => stop (fun z => (hO _ hd).f q2 z.2.1) _ (by decide) (by decide), fun q2 => key (hsub.mp q) ((hO _ hd).t q2) 12 0 _ (by omega) rfl (fun i hi => by omega)⟩
theorem c92 {Φ : Int → nw_S → Prop} {x0 : Int} {s : Nat} (h0 : x0 = s) (hs : s < 4096) (h : Φ (nd_bc s 12) σ) : nw_TI G 92 [.inr x0] σ Φ := by
  subst h0
  have key : ∀ (w r : Nat) (x1 x2 : Int), r + w = 12 → x2 = r → x1 = nd_bc s r → nw_V G 92 (nw_pi Φ) 4 [some (.inr (s : Int)), some (.inr x1), some (.inr x2)] [] σ := by
    intro w
    induction w with
    | zero =>
      intro r x1 x2 hr h2 h1
      subst h2
      subst h1
      have hr : r = 12 := by omega
      subst hr
      exact bk92_4 ⟨by omega, fun _ => h, fun q => by omega⟩
    | succ w ih =>
      intro r x1 x2 hr h2 h1
      subst h2
      subst h1
      refine bk92_4 ⟨by omega, fun q => by omega, fun _ => ih (r + 1) _ _ (by omega) (by omega) ?_⟩
      rw [nb_bit (by omega) (by omega)]
      rfl
  exact nw_TI_of (by decide) (Nat.le_of_ble_eq_true rfl) (bk92_0 (key 12 0 _ _ (by omega) rfl rfl))
/-- the rank of a set: x2 1 its size, 0 its cost -/
def nd_rk (D : nd_D) (b : Int) (s : Nat) : Int := if b = 0 then nd_C D s else nd_bc s 12
theorem nd_rk_r (hw : nd_wf D) (b : Int) (s : Nat) : nw_r (nd_rk D b s) := by
  have h1 := nd_C_le hw s
  have h2 := nd_bc_in s 12
  unfold nd_rk
  split <;> omega
theorem c93 {Φ : Int → nw_S → Prop} (hw : nd_wf D) (hC : nm_st D σ) {x1 x2 : Int} {s : Nat} (h1 : x1 = s) (hs : s < 4096) (h2 : x2 = 0 ∨ x2 = 1) (h : Φ (nd_rk D x2 s) σ) : nw_TI G 93 [.inl 26, .inr x1, .inr x2] σ Φ := by
  refine nw_TI_of (by decide) (Nat.le_of_ble_eq_true rfl) (bk93_0 ⟨by omega, fun q => c83 hw hC.1 h1 hs ?_, fun q => c92 h1 hs ?_⟩)
  · rw [nd_rk, if_pos q] at h; exact h
  · rw [nd_rk, if_neg q] at h; exact h
/-- what is sought: x2 1 the clashes, 0 the relaxations -/
def nd_vv (D : nd_D) (b : Int) (s : Nat) : Prop := (b = 0 → nd_rx D s) ∧ (b ≠ 0 → nd_cl D s)
theorem nd_vv_0 : nd_vv D 0 = nd_rx D := by
  funext s
  exact propext ⟨fun z => z.1 rfl, fun z => ⟨fun _ => z, fun y => absurd rfl y⟩⟩
theorem nd_vv_1 : nd_vv D 1 = nd_cl D := by
  funext s
  exact propext ⟨fun z => z.2 (by decide), fun z => ⟨fun y => absurd y (by decide), fun _ => z⟩⟩
theorem c94 {Φ : Int → nw_S → Prop} (hw : nd_wf D) (hC : nm_st D σ) {x1 : Int} (h1 : x1 = 0 ∨ x1 = 1) (h : ∀ u : nw_S, nm_st D u → (∀ k, k < 26 → u k = σ k) → Φ (nd_cv (nd_vv D x1) 4096) u) : nw_TI G 94 [.inl 26, .inr x1] σ Φ := by
  refine nw_TI_of (by decide) (Nat.le_of_ble_eq_true rfl) (bk94_0 (c89 hw hC (fun u hu hO hk => c82 hw hu.1 (by decide) ?_)))
  have h := h u hu hk
  obtain ⟨N, hN⟩ : ∃ N : Nat, N = 4096 := ⟨_, rfl⟩
  rw [← hN] at h
  have key : ∀ (w s : Nat) (x3 x4 : Int), s + w = N → x4 = s → x3 = nd_cv (nd_vv D x1) s → nw_V G 94 (nw_pi Φ) 15 [some (.inl 26), some (.inr x1), some (.inr (nd_M D 1 : Int)), some (.inr x3), some (.inr x4)] [] u := by
    intro w
    induction w with
    | zero =>
      intro s x3 x4 hs h4 h3
      subst h4
      have hs : s = N := by omega
      rw [hs] at h3
      rw [← h3] at h
      exact bk94_15 ⟨by omega, fun _ => h, fun q => by omega⟩
    | succ w ih =>
      intro s x3 x4 hs h4 h3
      subst h4
      refine bk94_15 ⟨by omega, fun q => by omega, fun _ => ⟨by omega, fun q => c91 hw hO rfl rfl (by omega) (fun z => ?_) (fun z => ?_), fun q => c90 hw hO rfl rfl (by omega) (fun z => ?_) (fun z => ?_)⟩⟩
      · exact ⟨by decide, fun y => absurd y (by decide), fun _ => ih (s + 1) _ _ (by omega) (by omega) (by rw [nd_cv_t (show nd_vv D x1 s from ⟨fun _ => z, fun y => absurd q y⟩), h3])⟩
      · exact ⟨by decide, fun _ => ih (s + 1) _ _ (by omega) (by omega) (by rw [nd_cv_f (show ¬ nd_vv D x1 s from fun y => z (y.1 q)), h3, Int.add_zero]), fun y => absurd rfl y⟩
      · exact ⟨by decide, fun y => absurd y (by decide), fun _ => ih (s + 1) _ _ (by omega) (by omega) (by rw [nd_cv_t (show nd_vv D x1 s from ⟨fun y => absurd y q, fun _ => z⟩), h3])⟩
      · exact ⟨by decide, fun _ => ih (s + 1) _ _ (by omega) (by omega) (by rw [nd_cv_f (show ¬ nd_vv D x1 s from fun y => z (y.2 q)), h3, Int.add_zero]), fun y => absurd rfl y⟩
  exact key N 0 _ _ (by omega) rfl rfl
end NC18
