section NC16
variable {G : nw_G} {σ : nw_S} {D : nd_D}
/-- a truth in a cell -/
def nc_tr (v : Int) (P : Prop) : Prop := (v = 1 ∧ P) ∨ (v = 0 ∧ ¬ P)
theorem nc_tr.to {v : Int} {P Q : Prop} (h : nc_tr v P) (e : P ↔ Q) : nc_tr v Q := by
  rcases h with ⟨a, b⟩ | ⟨a, b⟩
  · exact Or.inl ⟨a, e.mp b⟩
  · exact Or.inr ⟨a, fun z => b (e.mpr z)⟩
theorem nc_tr.r {v : Int} {P : Prop} (h : nc_tr v P) : nw_r v := by
  rcases h with ⟨a, -⟩ | ⟨a, -⟩ <;> rw [a] <;> decide
theorem nc_tr.t {v : Int} {P : Prop} (h : nc_tr v P) (q : v ≠ 0) : P := by
  rcases h with ⟨a, b⟩ | ⟨a, b⟩
  · exact b
  · exact absurd a q
theorem nc_tr.f {v : Int} {P : Prop} (h : nc_tr v P) (q : v = 0) : ¬ P := by
  rcases h with ⟨a, b⟩ | ⟨a, b⟩
  · rw [a] at q; exact absurd q (by decide)
  · exact b
/-- findPossible -/
theorem c61 {Φ : nw_S → Prop} (hw : nd_wf D) (hC : nc_al D σ) {x1 : Int} (h1 : x1 = nd_M D 1) (h : ∀ u : nw_S, (∀ j, j ≠ 19 → u j = σ j) → nc_po D u → Φ u) : nw_TV G 61 [.inl 0, .inr x1] σ Φ := by
  subst h1
  have hR := hw.2.2.2.2.1
  have hP := nd_P_le hw
  have hpw := nd_pw hR
  have hp0 : 0 < 2 ^ nd_r D := Nat.two_pow_pos _
  have hM := (nd_M_lt hw 1).2
  have eR : σ 6 0 = nd_r D := hC.2.1.1
  have eP : σ 1 1 = nd_P D := hC.1.2.1
  -- handing down
  have down : ∀ (w r : Nat) (τ : nw_S) (x3 : Int), r + w = nd_r D → x3 = r → (∀ j, j ≠ 19 → τ j = σ j) → (∀ s, s < 2 ^ nd_r D → nc_tr (τ 19 s) (nd_pr D r s)) → nw_V G 61 (nw_pv Φ) 65 [some (.inl 0), some (.inr (nd_M D 1 : Int)), some (.inr ((2 ^ nd_r D : Nat) : Int)), some (.inr x3), none, none] [] τ := by
    intro w
    induction w with
    | zero =>
      intro r τ x3 hr h3 hj ht
      subst h3
      have hr : r = nd_r D := by omega
      subst hr
      have e : τ 6 0 = nd_r D := by rw [hj 6 (by decide)]; exact eR
      exact bk61_65 ⟨by omega, by omega, fun _ => h τ hj (fun s hs => (ht s hs).to (nd_pr_R hw hs)), fun q => by omega⟩
    | succ w ih =>
      intro r τ x3 hr h3 hj ht
      subst h3
      have e : τ 6 0 = nd_r D := by rw [hj 6 (by decide)]; exact eR
      have h2r : 2 ^ r < 2 ^ nd_r D := Nat.pow_lt_pow_right (by decide) (by omega)
      have inner : ∀ (v j : Nat) (τ : nw_S) (x5 : Int), j + v = 2 ^ nd_r D → x5 = j → (∀ j, j ≠ 19 → τ j = σ j) → (∀ s, s < 2 ^ nd_r D → nc_tr (τ 19 s) (nd_pr D r s ∨ (s.testBit r = false ∧ nd_pr D r (s ^^^ 2 ^ r) ∧ s ^^^ 2 ^ r < j))) → nw_V G 61 (nw_pv Φ) 84 [some (.inl 0), some (.inr (nd_M D 1 : Int)), some (.inr ((2 ^ nd_r D : Nat) : Int)), some (.inr (r : Int)), some (.inr ((2 ^ r : Nat) : Int)), some (.inr x5)] [] τ := by
        intro v
        induction v with
        | zero =>
          intro j τ x5 hj0 h5 hj ht
          subst h5
          have hj0 : j = 2 ^ nd_r D := by omega
          subst hj0
          refine bk61_84 ⟨by omega, by omega, fun _ => ih (r + 1) τ _ (by omega) (by omega) hj (fun s hs => (ht s hs).to ?_), fun q => by omega⟩
          rw [nd_pr_step]
          constructor
          · rintro (y | ⟨y1, y2, -⟩)
            · exact Or.inl y
            · exact Or.inr ⟨y1, y2⟩
          · rintro (y | ⟨y1, y2⟩)
            · exact Or.inl y
            · exact Or.inr ⟨y1, y2, ns_flip_lt hs (by omega)⟩
        | succ v vh =>
          intro j τ x5 hj0 h5 hj ht
          subst h5
          have hjl : j < 2 ^ nd_r D := by omega
          have htj := ht j hjl
          have same : ¬ (j.testBit r = true ∧ nd_pr D r j) → ∀ s, s < 2 ^ nd_r D → nc_tr (τ 19 s) (nd_pr D r s ∨ (s.testBit r = false ∧ nd_pr D r (s ^^^ 2 ^ r) ∧ s ^^^ 2 ^ r < j + 1)) := by
            intro hno s hs
            refine (ht s hs).to ⟨fun y => ?_, fun y => ?_⟩
            · rcases y with y | ⟨y1, y2, y3⟩
              · exact Or.inl y
              · exact Or.inr ⟨y1, y2, by omega⟩
            · rcases y with y | ⟨y1, y2, y3⟩
              · exact Or.inl y
              · refine Or.inr ⟨y1, y2, ?_⟩
                rcases Nat.lt_or_ge (s ^^^ 2 ^ r) j with z | z
                · exact z
                · exfalso
                  have hz : s ^^^ 2 ^ r = j := by omega
                  apply hno
                  rw [← hz]
                  refine ⟨?_, y2⟩
                  rw [ns_flip, y1]
                  simp
          refine bk61_84 ⟨by omega, by omega, fun q => by omega, fun _ => ?_⟩
          simp only [Int.toNat_natCast]
          refine ⟨by omega, htj.r, fun q => vh (j + 1) τ _ (by omega) (by omega) hj (same (fun y => htj.f q (Or.inl y.2))), fun q => ⟨nb_rand _ _, ?_⟩⟩
          rw [nb_and (by omega) (by omega), nb_xor (by omega) (by omega)]
          have hx := ns_flip_lt (r := r) hjl (by omega)
          refine ⟨fun q2 => vh (j + 1) τ _ (by omega) (by omega) hj (same (fun y => ?_)), fun q2 => ⟨by omega, ?_⟩⟩
          · have : j &&& 2 ^ r = 0 := by omega
            rw [(ns_and2 j r).mp this] at y
            exact absurd y.1 (by decide)
          · simp only [Int.toNat_natCast]
            have hb : j.testBit r = true := by
              cases hb : j.testBit r with
              | true => rfl
              | false => exact absurd (by rw [(ns_and2 j r).mpr hb]; rfl) q2
            have hpr : nd_pr D r j := by
              rcases htj.t q with y | ⟨y, -⟩
              · exact y
              · rw [hb] at y; cases y
            refine vh (j + 1) _ _ (by omega) (by omega) (fun l hl => by rw [nu_ne hl]; exact hj l hl) (fun s hs => ?_)
            by_cases y : s = j ^^^ 2 ^ r
            · subst y
              rw [nu_at]
              refine Or.inl ⟨rfl, Or.inr ⟨?_, ?_, ?_⟩⟩
              · rw [ns_flip, hb]; simp
              · rw [ns_flip2]; exact hpr
              · rw [ns_flip2]; omega
            · rw [nu_nj y]
              refine (ht s hs).to ⟨fun z => ?_, fun z => ?_⟩
              · rcases z with z | ⟨z1, z2, z3⟩
                · exact Or.inl z
                · exact Or.inr ⟨z1, z2, by omega⟩
              · rcases z with z | ⟨z1, z2, z3⟩
                · exact Or.inl z
                · refine Or.inr ⟨z1, z2, ?_⟩
                  rcases Nat.lt_or_ge (s ^^^ 2 ^ r) j with z | z
                  · exact z
                  · exfalso
                    apply y
                    have hz : s ^^^ 2 ^ r = j := by omega
                    rw [← hz, ns_flip2]
      refine bk61_65 ⟨by omega, by omega, fun q => by omega, fun _ => ?_⟩
      rw [nb_shl (by omega)]
      refine inner (2 ^ nd_r D) 0 τ _ (by omega) rfl hj (fun s hs => (ht s hs).to ⟨fun y => Or.inl y, fun y => ?_⟩)
      rcases y with y | ⟨-, -, y⟩
      · exact y
      · omega
  -- the plans
  have mark : ∀ (w p : Nat) (τ : nw_S) (x3 : Int), p + w = nd_P D → x3 = p → (∀ j, j ≠ 19 → τ j = σ j) → (∀ s, s < 2 ^ nd_r D → nc_tr (τ 19 s) (∃ q, q < p ∧ nd_kt D q = s)) → nw_V G 61 (nw_pv Φ) 30 [some (.inl 0), some (.inr (nd_M D 1 : Int)), some (.inr ((2 ^ nd_r D : Nat) : Int)), some (.inr x3), none, none] [] τ := by
    intro w
    induction w with
    | zero =>
      intro p τ x3 hp h3 hj ht
      subst h3
      have hp : p = nd_P D := by omega
      subst hp
      have e : τ 1 1 = nd_P D := by rw [hj 1 (by decide)]; exact eP
      exact bk61_30 ⟨by omega, by omega, fun _ => down (nd_r D) 0 τ _ (by omega) rfl hj (fun s hs => (ht s hs).to nd_pr_0.symm), fun q => by omega⟩
    | succ w ih =>
      intro p τ x3 hp h3 hj ht
      subst h3
      have e : τ 1 1 = nd_P D := by rw [hj 1 (by decide)]; exact eP
      have eB : τ 14 p = nd_B D p := by rw [hj 14 (by decide)]; exact hC.2.2.2.2 p (by omega)
      have hB := nd_B_lt hw p
      have hk := nd_kt_lt hw p
      have ek : nw_and (nd_M D 1 : Int) (nw_xor (nd_B D p : Int) (-1)) = (nd_kt D p : Nat) := nb_dif hM hB.2
      refine bk61_30 ⟨by omega, by omega, fun q => by omega, fun _ => ?_⟩
      simp only [Int.toNat_natCast]
      rw [eB, ek]
      simp only [Int.toNat_natCast]
      refine ⟨by omega, by omega, ih (p + 1) _ _ (by omega) (by omega) (fun j a => by rw [nu_ne a]; exact hj j a) (fun s hs => ?_)⟩
      by_cases y : s = nd_kt D p
      · subst y
        rw [nu_at]
        exact Or.inl ⟨rfl, p, by omega, rfl⟩
      · rw [nu_nj y]
        refine (ht s hs).to ⟨fun ⟨q, a, b⟩ => ⟨q, by omega, b⟩, fun ⟨q, a, b⟩ => ⟨q, ?_, b⟩⟩
        have : q ≠ p := fun z => y (by rw [← b, z])
        omega
  have clear : ∀ (w i : Nat) (τ : nw_S) (x3 : Int), i + w = 2 ^ nd_r D → x3 = i → (∀ j, j ≠ 19 → τ j = σ j) → (∀ s, s < i → τ 19 s = 0) → nw_V G 61 (nw_pv Φ) 10 [some (.inl 0), some (.inr (nd_M D 1 : Int)), some (.inr ((2 ^ nd_r D : Nat) : Int)), some (.inr x3), none, none] [] τ := by
    intro w
    induction w with
    | zero =>
      intro i τ x3 hi h3 hj hz
      subst h3
      exact bk61_10 ⟨by omega, by omega, fun _ => mark (nd_P D) 0 τ _ (by omega) rfl hj (fun s hs => Or.inr ⟨hz s (by omega), fun ⟨q, a, _⟩ => by omega⟩), fun q => by omega⟩
    | succ w ih =>
      intro i τ x3 hi h3 hj hz
      subst h3
      refine bk61_10 ⟨by omega, by omega, fun q => by omega, fun _ => ⟨by omega, ?_⟩⟩
      simp only [Int.toNat_natCast]
      refine ih (i + 1) _ _ (by omega) (by omega) (fun j a => by rw [nu_ne a]; exact hj j a) (fun s hs => ?_)
      by_cases y : s = i
      · subst y; exact nu_at
      · rw [nu_nj y]; exact hz s (by omega)
  exact nw_TV_of (by decide) (Nat.le_of_ble_eq_true rfl) (bk61_0 (c14 eR (by omega) (clear (2 ^ nd_r D) 0 σ _ (by omega) rfl (fun _ _ => rfl) (fun s hs => by omega))))
/-- isClash, isRelaxation of the class: for sets of hard rules -/
theorem c63 {Φ : Int → nw_S → Prop} (hw : nd_wf D) (hU : nc_ru D σ) (hO : nc_po D σ) {x1 : Int} {s : Nat} (h1 : x1 = s) (hs : s < 2 ^ nd_r D) (hsub : s &&& nd_M D 1 = s) (ht : nd_cl D s → Φ 1 σ) (hf : ¬ nd_cl D s → Φ 0 σ) : nw_TI G 63 [.inl 0, .inr x1] σ Φ := by
  subst h1
  have hR := hw.2.2.2.2.1
  have hpw := nd_pw hR
  have eR := hU.1
  have key : ¬ nd_can D s → ∀ (w r : Nat) (x2 : Int), r + w = nd_r D → x2 = r → (∀ i, i < r → s.testBit i = true → nd_can D (s ^^^ 2 ^ i)) → nw_V G 63 (nw_pi Φ) 13 [some (.inl 0), some (.inr (s : Int)), some (.inr x2), none] [] σ := by
    intro hno w
    induction w with
    | zero =>
      intro r x2 hr h2 hc
      subst h2
      refine bk63_13 ⟨by omega, by omega, fun _ => ht ⟨hsub, hno, fun i hi hb => hc i ?_ hb⟩, fun q => by omega⟩
      rcases Nat.lt_or_ge i (nd_r D) with y | y
      · omega
      · rw [ns_hi hs y] at hb; cases hb
    | succ w ih =>
      intro r x2 hr h2 hc
      subst h2
      have h2r : 2 ^ r < 2 ^ nd_r D := Nat.pow_lt_pow_right (by decide) (by omega)
      have hx := ns_flip_lt (r := r) hs (by omega)
      have hO2 := hO (s ^^^ 2 ^ r) hx
      refine bk63_13 ⟨by omega, by omega, fun q => by omega, fun _ => ⟨nb_rand _ _, ?_⟩⟩
      rw [nb_shl (by omega), nb_and (by omega) (by omega), nb_xor (by omega) (by omega)]
      simp only [Int.toNat_natCast]
      refine ⟨fun q => ih (r + 1) _ (by omega) (by omega) (fun i hi hb => ?_), fun q => ⟨by omega, nc_tr.r hO2, fun q2 => ih (r + 1) _ (by omega) (by omega) (fun i hi hb => ?_), fun q2 => hf (fun z => ?_)⟩⟩
      · by_cases y : i = r
        · subst y
          have : s &&& 2 ^ i = 0 := by omega
          rw [(ns_and2 s i).mp this] at hb; cases hb
        · exact hc i (by omega) hb
      · by_cases y : i = r
        · subst y; exact nc_tr.t hO2 q2
        · exact hc i (by omega) hb
      · have hb : s.testBit r = true := by
          cases hb : s.testBit r with
          | true => rfl
          | false => exact absurd (by rw [(ns_and2 s r).mpr hb]; rfl) q
        exact nc_tr.f hO2 q2 (z.2.2 r (by omega) hb)
  refine nw_TI_of (by decide) (Nat.le_of_ble_eq_true rfl) (bk63_0 ?_)
  simp only [Int.toNat_natCast]
  refine ⟨by omega, nc_tr.r (hO s hs), fun q => key (nc_tr.f (hO s hs) q) (nd_r D) 0 _ (by omega) rfl (fun i hi => by omega), fun q => hf (fun z => z.2.1 (nc_tr.t (hO s hs) q))⟩
theorem c64 {Φ : Int → nw_S → Prop} (hw : nd_wf D) (hU : nc_ru D σ) (hO : nc_po D σ) {x1 x2 : Int} {s : Nat} (h1 : x1 = s) (h2 : x2 = nd_M D 1) (hs : s < 2 ^ nd_r D) (hsub : s &&& nd_M D 1 = s) (ht : nd_rx D s → Φ 1 σ) (hf : ¬ nd_rx D s → Φ 0 σ) : nw_TI G 64 [.inl 0, .inr x1, .inr x2] σ Φ := by
  subst h1
  subst h2
  have hR := hw.2.2.2.2.1
  have hpw := nd_pw hR
  have eR := hU.1
  have hM := nd_M_lt hw 1
  have hd : nd_M D 1 &&& (4095 ^^^ s) < 2 ^ nd_r D := Nat.lt_of_le_of_lt Nat.and_le_left hM.1
  have key : nd_can D (nd_M D 1 &&& (4095 ^^^ s)) → ∀ (w r : Nat) (x4 : Int), r + w = nd_r D → x4 = r → (∀ i, i < r → s.testBit i = true → ¬ nd_can D ((nd_M D 1 &&& (4095 ^^^ s)) ||| 2 ^ i)) → nw_V G 64 (nw_pi Φ) 20 [some (.inl 0), some (.inr (s : Int)), some (.inr (nd_M D 1 : Int)), some (.inr ((nd_M D 1 &&& (4095 ^^^ s) : Nat) : Int)), some (.inr x4), none] [] σ := by
    intro hyes w
    induction w with
    | zero =>
      intro r x4 hr h4 hc
      subst h4
      refine bk64_20 ⟨by omega, by omega, fun _ => ht ⟨hsub, hyes, fun i hi hb => hc i ?_ hb⟩, fun q => by omega⟩
      rcases Nat.lt_or_ge i (nd_r D) with y | y
      · omega
      · rw [ns_hi hs y] at hb; cases hb
    | succ w ih =>
      intro r x4 hr h4 hc
      subst h4
      have h2r : 2 ^ r < 2 ^ nd_r D := Nat.pow_lt_pow_right (by decide) (by omega)
      have ho : (nd_M D 1 &&& (4095 ^^^ s)) ||| 2 ^ r < 2 ^ nd_r D := Nat.or_lt_two_pow hd h2r
      have hO2 := hO _ ho
      refine bk64_20 ⟨by omega, by omega, fun q => by omega, fun _ => ⟨nb_rand _ _, ?_⟩⟩
      rw [nb_shl (by omega), nb_and (by omega) (by omega), nb_or (by omega) (by omega)]
      simp only [Int.toNat_natCast]
      refine ⟨fun q => ih (r + 1) _ (by omega) (by omega) (fun i hi hb => ?_), fun q => ⟨by omega, nc_tr.r hO2, fun q2 => ih (r + 1) _ (by omega) (by omega) (fun i hi hb => ?_), fun q2 => hf (fun z => ?_)⟩⟩
      · by_cases y : i = r
        · subst y
          have : s &&& 2 ^ i = 0 := by omega
          rw [(ns_and2 s i).mp this] at hb; cases hb
        · exact hc i (by omega) hb
      · by_cases y : i = r
        · subst y; exact nc_tr.f hO2 q2
        · exact hc i (by omega) hb
      · have hb : s.testBit r = true := by
          cases hb : s.testBit r with
          | true => rfl
          | false => exact absurd (by rw [(ns_and2 s r).mpr hb]; rfl) q
        exact z.2.2 r (by omega) hb (nc_tr.t hO2 q2)
  refine nw_TI_of (by decide) (Nat.le_of_ble_eq_true rfl) (bk64_0 ?_)
  rw [nb_dif hM.2 (by omega)]
  simp only [Int.toNat_natCast]
  exact ⟨by omega, nc_tr.r (hO _ hd), fun q => key (nc_tr.t (hO _ hd) q) (nd_r D) 0 _ (by omega) rfl (fun i hi => by omega), fun q => hf (fun z => nc_tr.f (hO _ hd) q z.2.1)⟩
/-- Integer.bitCount -/
def nd_bj (x0 : Int) : Int := (nw_and (((nw_and (((nw_and (x0 - (nw_and (nw_ushr x0 1) 1431655765)) 858993459) + (nw_and (nw_ushr (x0 - (nw_and (nw_ushr x0 1) 1431655765)) 2) 858993459)) + (nw_ushr ((nw_and (x0 - (nw_and (nw_ushr x0 1) 1431655765)) 858993459) + (nw_and (nw_ushr (x0 - (nw_and (nw_ushr x0 1) 1431655765)) 2) 858993459)) 4)) 252645135) + (nw_ushr (nw_and (((nw_and (x0 - (nw_and (nw_ushr x0 1) 1431655765)) 858993459) + (nw_and (nw_ushr (x0 - (nw_and (nw_ushr x0 1) 1431655765)) 2) 858993459)) + (nw_ushr ((nw_and (x0 - (nw_and (nw_ushr x0 1) 1431655765)) 858993459) + (nw_and (nw_ushr (x0 - (nw_and (nw_ushr x0 1) 1431655765)) 2) 858993459)) 4)) 252645135) 8)) + (nw_ushr ((nw_and (((nw_and (x0 - (nw_and (nw_ushr x0 1) 1431655765)) 858993459) + (nw_and (nw_ushr (x0 - (nw_and (nw_ushr x0 1) 1431655765)) 2) 858993459)) + (nw_ushr ((nw_and (x0 - (nw_and (nw_ushr x0 1) 1431655765)) 858993459) + (nw_and (nw_ushr (x0 - (nw_and (nw_ushr x0 1) 1431655765)) 2) 858993459)) 4)) 252645135) + (nw_ushr (nw_and (((nw_and (x0 - (nw_and (nw_ushr x0 1) 1431655765)) 858993459) + (nw_and (nw_ushr (x0 - (nw_and (nw_ushr x0 1) 1431655765)) 2) 858993459)) + (nw_ushr ((nw_and (x0 - (nw_and (nw_ushr x0 1) 1431655765)) 858993459) + (nw_and (nw_ushr (x0 - (nw_and (nw_ushr x0 1) 1431655765)) 2) 858993459)) 4)) 252645135) 8)) 16)) 63)
theorem nd_bj_ok : (List.range 4096).all (fun s => decide (nd_bj (s : Int) = nd_bc s 12)) = true := by decide +kernel
theorem c115 {Φ : Int → nw_S → Prop} {x0 : Int} {s : Nat} (h0 : x0 = s) (hs : s < 4096) (h : Φ (nd_bc s 12) σ) : nw_TI G 115 [.inr x0] σ Φ := by
  subst h0
  refine nw_TI_of (by decide) (Nat.le_of_ble_eq_true rfl) (bk115_0 ?_)
  have e := List.all_eq_true.mp nd_bj_ok s (List.mem_range.mpr hs)
  have e : nd_bj (s : Int) = nd_bc s 12 := by simpa using e
  rw [← e] at h
  exact h
theorem nd_bc_in (s : Nat) : ∀ r, 0 ≤ nd_bc s r ∧ nd_bc s r ≤ r
  | 0 => by simp [nd_bc]
  | r + 1 => by
    have := nd_bc_in s r
    unfold nd_bc
    split <;> omega
end NC16
